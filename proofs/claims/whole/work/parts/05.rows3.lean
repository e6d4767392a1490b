theorem dX4_layWaits_18 : decode cX4_layWaits 18 = .ok (.iastore, 1) := by decide +kernel
theorem dX4_layWaits_19 : decode cX4_layWaits 19 = .ok (.iinc 1 1, 3) := by decide +kernel
theorem dX4_layWaits_22 : decode cX4_layWaits 22 = .ok (.goto (-20), 3) := by decide +kernel
theorem dX4_layWaits_25 : decode cX4_layWaits 25 = .ok (.return_, 1) := by decide +kernel
set_option maxRecDepth 20000 in
theorem ggX4_layReach_X4_has : GoodIn wsX4_layReach wsX4_has := goodIn_r _ [6] (by decide +kernel) (by decide +kernel)
set_option maxRecDepth 20000 in
theorem gX4_layReach_X4_has : GoodIn wsX4_layReach (va_wsS RX4 106 yX4_has wsX4_has) := goodIn_app (goodIn_of _ (by decide +kernel)) ggX4_layReach_X4_has
theorem dX4_layReach_0 : decode cX4_layReach 0 = .ok (.iconst 0, 1) := by decide +kernel
theorem dX4_layReach_1 : decode cX4_layReach 1 = .ok (.istore_n 1, 1) := by decide +kernel
theorem dX4_layReach_2 : decode cX4_layReach 2 = .ok (.iload_n 1, 1) := by decide +kernel
theorem dX4_layReach_3 : decode cX4_layReach 3 = .ok (.bipush 8, 2) := by decide +kernel
theorem dX4_layReach_5 : decode cX4_layReach 5 = .ok (.if_icmp .ge 21, 3) := by decide +kernel
theorem dX4_layReach_8 : decode cX4_layReach 8 = .ok (.aload_n 0, 1) := by decide +kernel
theorem dX4_layReach_9 : decode cX4_layReach 9 = .ok (.getfield 32, 3) := by decide +kernel
theorem dX4_layReach_12 : decode cX4_layReach 12 = .ok (.iload_n 1, 1) := by decide +kernel
theorem dX4_layReach_13 : decode cX4_layReach 13 = .ok (.aload_n 0, 1) := by decide +kernel
theorem dX4_layReach_14 : decode cX4_layReach 14 = .ok (.getfield 29, 3) := by decide +kernel
theorem dX4_layReach_17 : decode cX4_layReach 17 = .ok (.iload_n 1, 1) := by decide +kernel
theorem dX4_layReach_18 : decode cX4_layReach 18 = .ok (.iaload, 1) := by decide +kernel
theorem dX4_layReach_19 : decode cX4_layReach 19 = .ok (.iastore, 1) := by decide +kernel
theorem dX4_layReach_20 : decode cX4_layReach 20 = .ok (.iinc 1 1, 3) := by decide +kernel
theorem dX4_layReach_23 : decode cX4_layReach 23 = .ok (.goto (-21), 3) := by decide +kernel
theorem dX4_layReach_26 : decode cX4_layReach 26 = .ok (.iconst 0, 1) := by decide +kernel
theorem dX4_layReach_27 : decode cX4_layReach 27 = .ok (.istore_n 1, 1) := by decide +kernel
theorem dX4_layReach_28 : decode cX4_layReach 28 = .ok (.iload_n 1, 1) := by decide +kernel
theorem dX4_layReach_29 : decode cX4_layReach 29 = .ok (.bipush 8, 2) := by decide +kernel
theorem dX4_layReach_31 : decode cX4_layReach 31 = .ok (.if_icmp .ge 69, 3) := by decide +kernel
theorem dX4_layReach_34 : decode cX4_layReach 34 = .ok (.iconst 0, 1) := by decide +kernel
theorem dX4_layReach_35 : decode cX4_layReach 35 = .ok (.istore_n 2, 1) := by decide +kernel
theorem dX4_layReach_36 : decode cX4_layReach 36 = .ok (.iload_n 2, 1) := by decide +kernel
theorem dX4_layReach_37 : decode cX4_layReach 37 = .ok (.bipush 8, 2) := by decide +kernel
theorem dX4_layReach_39 : decode cX4_layReach 39 = .ok (.if_icmp .ge 55, 3) := by decide +kernel
theorem dX4_layReach_42 : decode cX4_layReach 42 = .ok (.iconst 0, 1) := by decide +kernel
theorem dX4_layReach_43 : decode cX4_layReach 43 = .ok (.istore_n 3, 1) := by decide +kernel
theorem dX4_layReach_44 : decode cX4_layReach 44 = .ok (.iload_n 3, 1) := by decide +kernel
theorem dX4_layReach_45 : decode cX4_layReach 45 = .ok (.bipush 8, 2) := by decide +kernel
theorem dX4_layReach_47 : decode cX4_layReach 47 = .ok (.if_icmp .ge 41, 3) := by decide +kernel
theorem dX4_layReach_50 : decode cX4_layReach 50 = .ok (.aload_n 0, 1) := by decide +kernel
theorem dX4_layReach_51 : decode cX4_layReach 51 = .ok (.getfield 32, 3) := by decide +kernel
theorem dX4_layReach_54 : decode cX4_layReach 54 = .ok (.iload_n 2, 1) := by decide +kernel
theorem dX4_layReach_55 : decode cX4_layReach 55 = .ok (.dup2, 1) := by decide +kernel
theorem dX4_layReach_56 : decode cX4_layReach 56 = .ok (.iaload, 1) := by decide +kernel
theorem dX4_layReach_57 : decode cX4_layReach 57 = .ok (.aload_n 0, 1) := by decide +kernel
theorem dX4_layReach_58 : decode cX4_layReach 58 = .ok (.getfield 32, 3) := by decide +kernel
theorem dX4_layReach_61 : decode cX4_layReach 61 = .ok (.iload_n 2, 1) := by decide +kernel
theorem dX4_layReach_62 : decode cX4_layReach 62 = .ok (.iaload, 1) := by decide +kernel
theorem dX4_layReach_63 : decode cX4_layReach 63 = .ok (.iload_n 3, 1) := by decide +kernel
theorem dX4_layReach_64 : decode cX4_layReach 64 = .ok (.invokestatic 106, 3) := by decide +kernel
theorem dX4_layReach_67 : decode cX4_layReach 67 = .ok (.ifCond .eq 12, 3) := by decide +kernel
theorem dX4_layReach_70 : decode cX4_layReach 70 = .ok (.aload_n 0, 1) := by decide +kernel
theorem dX4_layReach_71 : decode cX4_layReach 71 = .ok (.getfield 29, 3) := by decide +kernel
theorem dX4_layReach_74 : decode cX4_layReach 74 = .ok (.iload_n 3, 1) := by decide +kernel
theorem dX4_layReach_75 : decode cX4_layReach 75 = .ok (.iaload, 1) := by decide +kernel
theorem dX4_layReach_76 : decode cX4_layReach 76 = .ok (.goto 4, 3) := by decide +kernel
theorem dX4_layReach_79 : decode cX4_layReach 79 = .ok (.iconst 0, 1) := by decide +kernel
theorem dX4_layReach_80 : decode cX4_layReach 80 = .ok (.ior, 1) := by decide +kernel
theorem dX4_layReach_81 : decode cX4_layReach 81 = .ok (.iastore, 1) := by decide +kernel
theorem dX4_layReach_82 : decode cX4_layReach 82 = .ok (.iinc 3 1, 3) := by decide +kernel
theorem dX4_layReach_85 : decode cX4_layReach 85 = .ok (.goto (-41), 3) := by decide +kernel
theorem dX4_layReach_88 : decode cX4_layReach 88 = .ok (.iinc 2 1, 3) := by decide +kernel
theorem dX4_layReach_91 : decode cX4_layReach 91 = .ok (.goto (-55), 3) := by decide +kernel
theorem dX4_layReach_94 : decode cX4_layReach 94 = .ok (.iinc 1 1, 3) := by decide +kernel
theorem dX4_layReach_97 : decode cX4_layReach 97 = .ok (.goto (-69), 3) := by decide +kernel
theorem dX4_layReach_100 : decode cX4_layReach 100 = .ok (.return_, 1) := by decide +kernel
set_option maxRecDepth 20000 in
theorem ggX4_ringOf_X4_has : GoodIn wsX4_ringOf wsX4_has := goodIn_r _ [5] (by decide +kernel) (by decide +kernel)
set_option maxRecDepth 20000 in
theorem gX4_ringOf_X4_has : GoodIn wsX4_ringOf (va_wsS RX4 106 yX4_has wsX4_has) := goodIn_app (goodIn_of _ (by decide +kernel)) ggX4_ringOf_X4_has
theorem dX4_ringOf_0 : decode cX4_ringOf 0 = .ok (.iconst 0, 1) := by decide +kernel
theorem dX4_ringOf_1 : decode cX4_ringOf 1 = .ok (.istore_n 2, 1) := by decide +kernel
theorem dX4_ringOf_2 : decode cX4_ringOf 2 = .ok (.iconst 0, 1) := by decide +kernel
theorem dX4_ringOf_3 : decode cX4_ringOf 3 = .ok (.istore_n 3, 1) := by decide +kernel
theorem dX4_ringOf_4 : decode cX4_ringOf 4 = .ok (.iload_n 3, 1) := by decide +kernel
theorem dX4_ringOf_5 : decode cX4_ringOf 5 = .ok (.bipush 8, 2) := by decide +kernel
theorem dX4_ringOf_7 : decode cX4_ringOf 7 = .ok (.if_icmp .ge 63, 3) := by decide +kernel
theorem dX4_ringOf_10 : decode cX4_ringOf 10 = .ok (.aload_n 0, 1) := by decide +kernel
theorem dX4_ringOf_11 : decode cX4_ringOf 11 = .ok (.getfield 32, 3) := by decide +kernel
theorem dX4_ringOf_14 : decode cX4_ringOf 14 = .ok (.iload_n 1, 1) := by decide +kernel
theorem dX4_ringOf_15 : decode cX4_ringOf 15 = .ok (.iaload, 1) := by decide +kernel
theorem dX4_ringOf_16 : decode cX4_ringOf 16 = .ok (.iload_n 1, 1) := by decide +kernel
theorem dX4_ringOf_17 : decode cX4_ringOf 17 = .ok (.invokestatic 106, 3) := by decide +kernel
theorem dX4_ringOf_20 : decode cX4_ringOf 20 = .ok (.ifCond .eq 50, 3) := by decide +kernel
theorem dX4_ringOf_23 : decode cX4_ringOf 23 = .ok (.iload_n 2, 1) := by decide +kernel
theorem dX4_ringOf_24 : decode cX4_ringOf 24 = .ok (.iload_n 3, 1) := by decide +kernel
theorem dX4_ringOf_25 : decode cX4_ringOf 25 = .ok (.iload_n 1, 1) := by decide +kernel
theorem dX4_ringOf_26 : decode cX4_ringOf 26 = .ok (.if_icmp .eq 29, 3) := by decide +kernel
theorem dX4_ringOf_29 : decode cX4_ringOf 29 = .ok (.aload_n 0, 1) := by decide +kernel
theorem dX4_ringOf_30 : decode cX4_ringOf 30 = .ok (.getfield 32, 3) := by decide +kernel
theorem dX4_ringOf_33 : decode cX4_ringOf 33 = .ok (.iload_n 1, 1) := by decide +kernel
theorem dX4_ringOf_34 : decode cX4_ringOf 34 = .ok (.iaload, 1) := by decide +kernel
theorem dX4_ringOf_35 : decode cX4_ringOf 35 = .ok (.iload_n 3, 1) := by decide +kernel
theorem dX4_ringOf_36 : decode cX4_ringOf 36 = .ok (.invokestatic 106, 3) := by decide +kernel
theorem dX4_ringOf_39 : decode cX4_ringOf 39 = .ok (.ifCond .eq 22, 3) := by decide +kernel
theorem dX4_ringOf_42 : decode cX4_ringOf 42 = .ok (.aload_n 0, 1) := by decide +kernel
theorem dX4_ringOf_43 : decode cX4_ringOf 43 = .ok (.getfield 32, 3) := by decide +kernel
theorem dX4_ringOf_46 : decode cX4_ringOf 46 = .ok (.iload_n 3, 1) := by decide +kernel
theorem dX4_ringOf_47 : decode cX4_ringOf 47 = .ok (.iaload, 1) := by decide +kernel
theorem dX4_ringOf_48 : decode cX4_ringOf 48 = .ok (.iload_n 1, 1) := by decide +kernel
theorem dX4_ringOf_49 : decode cX4_ringOf 49 = .ok (.invokestatic 106, 3) := by decide +kernel
theorem dX4_ringOf_52 : decode cX4_ringOf 52 = .ok (.ifCond .eq 9, 3) := by decide +kernel
theorem dX4_ringOf_55 : decode cX4_ringOf 55 = .ok (.iconst 1, 1) := by decide +kernel
theorem dX4_ringOf_56 : decode cX4_ringOf 56 = .ok (.iload_n 3, 1) := by decide +kernel
theorem dX4_ringOf_57 : decode cX4_ringOf 57 = .ok (.ishl, 1) := by decide +kernel
theorem dX4_ringOf_58 : decode cX4_ringOf 58 = .ok (.goto 4, 3) := by decide +kernel
theorem dX4_ringOf_61 : decode cX4_ringOf 61 = .ok (.iconst 0, 1) := by decide +kernel
theorem dX4_ringOf_62 : decode cX4_ringOf 62 = .ok (.ior, 1) := by decide +kernel
theorem dX4_ringOf_63 : decode cX4_ringOf 63 = .ok (.istore_n 2, 1) := by decide +kernel
theorem dX4_ringOf_64 : decode cX4_ringOf 64 = .ok (.iinc 3 1, 3) := by decide +kernel
theorem dX4_ringOf_67 : decode cX4_ringOf 67 = .ok (.goto (-63), 3) := by decide +kernel
theorem dX4_ringOf_70 : decode cX4_ringOf 70 = .ok (.iload_n 2, 1) := by decide +kernel
theorem dX4_ringOf_71 : decode cX4_ringOf 71 = .ok (.ireturn, 1) := by decide +kernel
set_option maxRecDepth 20000 in
theorem ggX4_ringNow_X4_layWaits : GoodIn wsX4_ringNow wsX4_layWaits := goodIn_r _ [5, 6, 7, 8, 9, 4, 10, 11, 12, 13, 14, 15, 16, 17, 18, 19, 20, 21, 22, 23, 24, 25, 26, 27, 28, 29, 30, 31, 32, 33, 34, 35, 36, 37, 38, 51, 52, 53, 54, 55, 56, 57, 58, 59, 60, 61, 62, 63, 64, 65, 66] (by decide +kernel) (by decide +kernel)
set_option maxRecDepth 20000 in
theorem gX4_ringNow_X4_layWaits : GoodIn wsX4_ringNow (wsV RX4 109 RX4 yX4_layWaits wsX4_layWaits) := goodIn_app (goodIn_of _ (by decide +kernel)) ggX4_ringNow_X4_layWaits
set_option maxRecDepth 20000 in
theorem ggX4_ringNow_X4_layReach : GoodIn wsX4_ringNow wsX4_layReach := goodIn_r _ [42, 43, 6, 44, 45, 4, 46, 51, 52, 53, 54, 55, 56, 57, 58, 59, 60, 61, 62, 63, 64, 65, 66] (by decide +kernel) (by decide +kernel)
set_option maxRecDepth 20000 in
theorem gX4_ringNow_X4_layReach : GoodIn wsX4_ringNow (wsV RX4 112 RX4 yX4_layReach wsX4_layReach) := goodIn_app (goodIn_of _ (by decide +kernel)) ggX4_ringNow_X4_layReach
set_option maxRecDepth 20000 in
theorem ggX4_ringNow_X4_ringOf : GoodIn wsX4_ringNow wsX4_ringOf := goodIn_r _ [50, 43, 44, 45, 4, 46, 51, 52, 53, 54, 55, 56, 57, 58, 59, 60, 61, 62, 63, 64, 65, 66] (by decide +kernel) (by decide +kernel)
set_option maxRecDepth 20000 in
theorem gX4_ringNow_X4_ringOf : GoodIn wsX4_ringNow (wsV RX4 115 RX4 yX4_ringOf wsX4_ringOf) := goodIn_app (goodIn_of _ (by decide +kernel)) ggX4_ringNow_X4_ringOf
theorem dX4_ringNow_0 : decode cX4_ringNow 0 = .ok (.aload_n 0, 1) := by decide +kernel
theorem dX4_ringNow_1 : decode cX4_ringNow 1 = .ok (.invokevirtual 109, 3) := by decide +kernel
theorem dX4_ringNow_4 : decode cX4_ringNow 4 = .ok (.aload_n 0, 1) := by decide +kernel
theorem dX4_ringNow_5 : decode cX4_ringNow 5 = .ok (.invokevirtual 112, 3) := by decide +kernel
theorem dX4_ringNow_8 : decode cX4_ringNow 8 = .ok (.aload_n 0, 1) := by decide +kernel
theorem dX4_ringNow_9 : decode cX4_ringNow 9 = .ok (.iload_n 1, 1) := by decide +kernel
theorem dX4_ringNow_10 : decode cX4_ringNow 10 = .ok (.invokevirtual 115, 3) := by decide +kernel
theorem dX4_ringNow_13 : decode cX4_ringNow 13 = .ok (.ireturn, 1) := by decide +kernel
set_option maxRecDepth 20000 in
theorem ggX4_givesUp_X4_of : GoodIn wsX4_givesUp wsX4_of := goodIn_r _ [5, 6, 17, 18, 19, 20, 21, 22, 23, 24, 25, 26, 27, 28, 29, 30, 31, 32] (by decide +kernel) (by decide +kernel)
set_option maxRecDepth 20000 in
theorem gX4_givesUp_X4_of : GoodIn wsX4_givesUp (wsV RX4 63 RX4 yX4_of wsX4_of) := goodIn_app (goodIn_of _ (by decide +kernel)) ggX4_givesUp_X4_of
set_option maxRecDepth 20000 in
theorem ggX4_givesUp_X4_has : GoodIn wsX4_givesUp wsX4_has := goodIn_r _ [9] (by decide +kernel) (by decide +kernel)
set_option maxRecDepth 20000 in
theorem gX4_givesUp_X4_has : GoodIn wsX4_givesUp (va_wsS RX4 106 yX4_has wsX4_has) := goodIn_app (goodIn_of _ (by decide +kernel)) ggX4_givesUp_X4_has
set_option maxRecDepth 20000 in
theorem ggX4_givesUp_X4_lock : GoodIn wsX4_givesUp wsX4_lock := goodIn_r _ [13, 6, 17, 18, 19, 20, 21, 22, 23, 24, 25, 26, 27, 28, 29, 30, 31, 32] (by decide +kernel) (by decide +kernel)
set_option maxRecDepth 20000 in
theorem gX4_givesUp_X4_lock : GoodIn wsX4_givesUp (wsV RX4 55 RX4 yX4_lock wsX4_lock) := goodIn_app (goodIn_of _ (by decide +kernel)) ggX4_givesUp_X4_lock
set_option maxRecDepth 20000 in
theorem ggX4_givesUp_X4_areTogether : GoodIn wsX4_givesUp wsX4_areTogether := goodIn_r _ [16] (by decide +kernel) (by decide +kernel)
set_option maxRecDepth 20000 in
theorem gX4_givesUp_X4_areTogether : GoodIn wsX4_givesUp (va_wsS RX4 59 yX4_areTogether wsX4_areTogether) := goodIn_app (goodIn_of _ (by decide +kernel)) ggX4_givesUp_X4_areTogether
theorem dX4_givesUp_0 : decode cX4_givesUp 0 = .ok (.iconst 0, 1) := by decide +kernel
theorem dX4_givesUp_1 : decode cX4_givesUp 1 = .ok (.istore 4, 2) := by decide +kernel
theorem dX4_givesUp_3 : decode cX4_givesUp 3 = .ok (.iconst 0, 1) := by decide +kernel
theorem dX4_givesUp_4 : decode cX4_givesUp 4 = .ok (.istore 5, 2) := by decide +kernel
theorem dX4_givesUp_6 : decode cX4_givesUp 6 = .ok (.iload 5, 2) := by decide +kernel
theorem dX4_givesUp_8 : decode cX4_givesUp 8 = .ok (.bipush 8, 2) := by decide +kernel
theorem dX4_givesUp_10 : decode cX4_givesUp 10 = .ok (.if_icmp .ge 108, 3) := by decide +kernel
theorem dX4_givesUp_13 : decode cX4_givesUp 13 = .ok (.aload_n 0, 1) := by decide +kernel
theorem dX4_givesUp_14 : decode cX4_givesUp 14 = .ok (.iload 5, 2) := by decide +kernel
theorem dX4_givesUp_16 : decode cX4_givesUp 16 = .ok (.iconst 0, 1) := by decide +kernel
theorem dX4_givesUp_17 : decode cX4_givesUp 17 = .ok (.invokevirtual 63, 3) := by decide +kernel
theorem dX4_givesUp_20 : decode cX4_givesUp 20 = .ok (.istore 6, 2) := by decide +kernel
theorem dX4_givesUp_22 : decode cX4_givesUp 22 = .ok (.iload 5, 2) := by decide +kernel
theorem dX4_givesUp_24 : decode cX4_givesUp 24 = .ok (.iload_n 1, 1) := by decide +kernel
theorem dX4_givesUp_25 : decode cX4_givesUp 25 = .ok (.if_icmp .eq 55, 3) := by decide +kernel
theorem dX4_givesUp_28 : decode cX4_givesUp 28 = .ok (.iload_n 3, 1) := by decide +kernel
theorem dX4_givesUp_29 : decode cX4_givesUp 29 = .ok (.iload 5, 2) := by decide +kernel
theorem dX4_givesUp_31 : decode cX4_givesUp 31 = .ok (.invokestatic 106, 3) := by decide +kernel
theorem dX4_givesUp_34 : decode cX4_givesUp 34 = .ok (.ifCond .eq 46, 3) := by decide +kernel
theorem dX4_givesUp_37 : decode cX4_givesUp 37 = .ok (.iload 6, 2) := by decide +kernel
theorem dX4_givesUp_39 : decode cX4_givesUp 39 = .ok (.ifCond .le 41, 3) := by decide +kernel
theorem dX4_givesUp_42 : decode cX4_givesUp 42 = .ok (.iload_n 2, 1) := by decide +kernel
theorem dX4_givesUp_43 : decode cX4_givesUp 43 = .ok (.aload_n 0, 1) := by decide +kernel
theorem dX4_givesUp_44 : decode cX4_givesUp 44 = .ok (.iload 5, 2) := by decide +kernel
theorem dX4_givesUp_46 : decode cX4_givesUp 46 = .ok (.iconst 1, 1) := by decide +kernel
theorem dX4_givesUp_47 : decode cX4_givesUp 47 = .ok (.invokevirtual 63, 3) := by decide +kernel
theorem dX4_givesUp_50 : decode cX4_givesUp 50 = .ok (.if_icmp .lt 30, 3) := by decide +kernel
theorem dX4_givesUp_53 : decode cX4_givesUp 53 = .ok (.iload_n 2, 1) := by decide +kernel
theorem dX4_givesUp_54 : decode cX4_givesUp 54 = .ok (.aload_n 0, 1) := by decide +kernel
theorem dX4_givesUp_55 : decode cX4_givesUp 55 = .ok (.iload 5, 2) := by decide +kernel
theorem dX4_givesUp_57 : decode cX4_givesUp 57 = .ok (.iconst 2, 1) := by decide +kernel
theorem dX4_givesUp_58 : decode cX4_givesUp 58 = .ok (.invokevirtual 63, 3) := by decide +kernel
theorem dX4_givesUp_61 : decode cX4_givesUp 61 = .ok (.if_icmp .ge 19, 3) := by decide +kernel
theorem dX4_givesUp_64 : decode cX4_givesUp 64 = .ok (.aload_n 0, 1) := by decide +kernel
theorem dX4_givesUp_65 : decode cX4_givesUp 65 = .ok (.iload 5, 2) := by decide +kernel
theorem dX4_givesUp_67 : decode cX4_givesUp 67 = .ok (.iload_n 2, 1) := by decide +kernel
theorem dX4_givesUp_68 : decode cX4_givesUp 68 = .ok (.invokevirtual 55, 3) := by decide +kernel
theorem dX4_givesUp_71 : decode cX4_givesUp 71 = .ok (.iload 6, 2) := by decide +kernel
theorem dX4_givesUp_73 : decode cX4_givesUp 73 = .ok (.if_icmp .ge 7, 3) := by decide +kernel
theorem dX4_givesUp_76 : decode cX4_givesUp 76 = .ok (.iconst 1, 1) := by decide +kernel
theorem dX4_givesUp_77 : decode cX4_givesUp 77 = .ok (.goto 4, 3) := by decide +kernel
theorem dX4_givesUp_80 : decode cX4_givesUp 80 = .ok (.iconst 0, 1) := by decide +kernel
theorem dX4_givesUp_81 : decode cX4_givesUp 81 = .ok (.istore 7, 2) := by decide +kernel
theorem dX4_givesUp_83 : decode cX4_givesUp 83 = .ok (.iload 4, 2) := by decide +kernel
theorem dX4_givesUp_85 : decode cX4_givesUp 85 = .ok (.iload 7, 2) := by decide +kernel
theorem dX4_givesUp_87 : decode cX4_givesUp 87 = .ok (.ifCond .eq 21, 3) := by decide +kernel
theorem dX4_givesUp_90 : decode cX4_givesUp 90 = .ok (.iload 6, 2) := by decide +kernel
theorem dX4_givesUp_92 : decode cX4_givesUp 92 = .ok (.aload_n 0, 1) := by decide +kernel
theorem dX4_givesUp_93 : decode cX4_givesUp 93 = .ok (.iload_n 1, 1) := by decide +kernel
theorem dX4_givesUp_94 : decode cX4_givesUp 94 = .ok (.iload_n 2, 1) := by decide +kernel
theorem dX4_givesUp_95 : decode cX4_givesUp 95 = .ok (.invokevirtual 55, 3) := by decide +kernel
theorem dX4_givesUp_98 : decode cX4_givesUp 98 = .ok (.invokestatic 59, 3) := by decide +kernel
theorem dX4_givesUp_101 : decode cX4_givesUp 101 = .ok (.ifCond .ne 7, 3) := by decide +kernel
theorem dX4_givesUp_104 : decode cX4_givesUp 104 = .ok (.iconst 1, 1) := by decide +kernel
theorem dX4_givesUp_105 : decode cX4_givesUp 105 = .ok (.goto 4, 3) := by decide +kernel
theorem dX4_givesUp_108 : decode cX4_givesUp 108 = .ok (.iconst 0, 1) := by decide +kernel
theorem dX4_givesUp_109 : decode cX4_givesUp 109 = .ok (.ior, 1) := by decide +kernel
theorem dX4_givesUp_110 : decode cX4_givesUp 110 = .ok (.istore 4, 2) := by decide +kernel
theorem dX4_givesUp_112 : decode cX4_givesUp 112 = .ok (.iinc 5 1, 3) := by decide +kernel
theorem dX4_givesUp_115 : decode cX4_givesUp 115 = .ok (.goto (-109), 3) := by decide +kernel
theorem dX4_givesUp_118 : decode cX4_givesUp 118 = .ok (.iload 4, 2) := by decide +kernel
theorem dX4_givesUp_120 : decode cX4_givesUp 120 = .ok (.ireturn, 1) := by decide +kernel
set_option maxRecDepth 20000 in
theorem ggX4_placesOf_X4_givesUp : GoodIn wsX4_placesOf wsX4_givesUp := goodIn_r _ [5, 6, 7, 8, 4, 9, 10, 11, 12, 13, 14, 15, 16, 17, 18, 19, 20, 21, 22, 23, 24, 25, 26, 27, 28, 29, 30, 31, 32, 33, 34, 35, 36] (by decide +kernel) (by decide +kernel)
set_option maxRecDepth 20000 in
theorem gX4_placesOf_X4_givesUp : GoodIn wsX4_placesOf (wsV RX4 118 RX4 yX4_givesUp wsX4_givesUp) := goodIn_app (goodIn_of _ (by decide +kernel)) ggX4_placesOf_X4_givesUp
theorem dX4_placesOf_0 : decode cX4_placesOf 0 = .ok (.iconst 0, 1) := by decide +kernel
theorem dX4_placesOf_1 : decode cX4_placesOf 1 = .ok (.istore_n 3, 1) := by decide +kernel
theorem dX4_placesOf_2 : decode cX4_placesOf 2 = .ok (.iconst 0, 1) := by decide +kernel
theorem dX4_placesOf_3 : decode cX4_placesOf 3 = .ok (.istore 4, 2) := by decide +kernel
theorem dX4_placesOf_5 : decode cX4_placesOf 5 = .ok (.iload 4, 2) := by decide +kernel
theorem dX4_placesOf_7 : decode cX4_placesOf 7 = .ok (.sipush 300, 3) := by decide +kernel
theorem dX4_placesOf_10 : decode cX4_placesOf 10 = .ok (.if_icmp .ge 28, 3) := by decide +kernel
theorem dX4_placesOf_13 : decode cX4_placesOf 13 = .ok (.iload_n 3, 1) := by decide +kernel
theorem dX4_placesOf_14 : decode cX4_placesOf 14 = .ok (.aload_n 0, 1) := by decide +kernel
theorem dX4_placesOf_15 : decode cX4_placesOf 15 = .ok (.iload_n 1, 1) := by decide +kernel
theorem dX4_placesOf_16 : decode cX4_placesOf 16 = .ok (.iload 4, 2) := by decide +kernel
theorem dX4_placesOf_18 : decode cX4_placesOf 18 = .ok (.iload_n 2, 1) := by decide +kernel
theorem dX4_placesOf_19 : decode cX4_placesOf 19 = .ok (.invokevirtual 118, 3) := by decide +kernel
theorem dX4_placesOf_22 : decode cX4_placesOf 22 = .ok (.ifCond .eq 7, 3) := by decide +kernel
theorem dX4_placesOf_25 : decode cX4_placesOf 25 = .ok (.iconst 1, 1) := by decide +kernel
theorem dX4_placesOf_26 : decode cX4_placesOf 26 = .ok (.goto 4, 3) := by decide +kernel
theorem dX4_placesOf_29 : decode cX4_placesOf 29 = .ok (.iconst 0, 1) := by decide +kernel
theorem dX4_placesOf_30 : decode cX4_placesOf 30 = .ok (.iadd, 1) := by decide +kernel
theorem dX4_placesOf_31 : decode cX4_placesOf 31 = .ok (.istore_n 3, 1) := by decide +kernel
theorem dX4_placesOf_32 : decode cX4_placesOf 32 = .ok (.iinc 4 1, 3) := by decide +kernel
theorem dX4_placesOf_35 : decode cX4_placesOf 35 = .ok (.goto (-30), 3) := by decide +kernel
theorem dX4_placesOf_38 : decode cX4_placesOf 38 = .ok (.iload_n 3, 1) := by decide +kernel
theorem dX4_placesOf_39 : decode cX4_placesOf 39 = .ok (.ireturn, 1) := by decide +kernel
set_option maxRecDepth 20000 in
theorem ggX4_breakRing_X4_has : GoodIn wsX4_breakRing wsX4_has := goodIn_r _ [5] (by decide +kernel) (by decide +kernel)
set_option maxRecDepth 20000 in
theorem gX4_breakRing_X4_has : GoodIn wsX4_breakRing (va_wsS RX4 106 yX4_has wsX4_has) := goodIn_app (goodIn_of _ (by decide +kernel)) ggX4_breakRing_X4_has
set_option maxRecDepth 20000 in
theorem ggX4_breakRing_X4_placesOf : GoodIn wsX4_breakRing wsX4_placesOf := goodIn_r _ [9, 10, 11, 12, 4, 13, 14, 15, 16, 17, 1, 2, 3, 5, 18, 19, 20, 21, 22, 23, 24, 73, 74, 75, 76, 77, 78, 79, 80, 81, 82, 83, 84, 85, 86, 87, 88] (by decide +kernel) (by decide +kernel)
set_option maxRecDepth 20000 in
theorem gX4_breakRing_X4_placesOf : GoodIn wsX4_breakRing (wsV RX4 121 RX4 yX4_placesOf wsX4_placesOf) := goodIn_app (goodIn_of _ (by decide +kernel)) ggX4_breakRing_X4_placesOf
set_option maxRecDepth 20000 in
theorem ggX4_breakRing_X4_givesUp : GoodIn wsX4_breakRing wsX4_givesUp := goodIn_r _ [13, 14, 15, 16, 4, 17, 1, 2, 3, 5, 18, 19, 20, 21, 22, 23, 24, 73, 74, 75, 76, 77, 78, 79, 80, 81, 82, 83, 84, 85, 86, 87, 88] (by decide +kernel) (by decide +kernel)
set_option maxRecDepth 20000 in
theorem gX4_breakRing_X4_givesUp : GoodIn wsX4_breakRing (wsV RX4 118 RX4 yX4_givesUp wsX4_givesUp) := goodIn_app (goodIn_of _ (by decide +kernel)) ggX4_breakRing_X4_givesUp
set_option maxRecDepth 20000 in
theorem ggX4_breakRing_X4_layLock : GoodIn wsX4_breakRing wsX4_layLock := goodIn_r _ [28, 1, 73, 74, 75, 76, 77, 78, 79, 80, 81, 82, 83, 84, 85, 86, 87, 88] (by decide +kernel) (by decide +kernel)
set_option maxRecDepth 20000 in
theorem gX4_breakRing_X4_layLock : GoodIn wsX4_breakRing (wsV RX4 81 RX4 yX4_layLock wsX4_layLock) := goodIn_app (goodIn_of _ (by decide +kernel)) ggX4_breakRing_X4_layLock
set_option maxRecDepth 20000 in
theorem ggX4_breakRing_X4_more : GoodIn wsX4_breakRing wsX4_more := goodIn_r _ [32, 1, 73, 74, 75, 76, 77, 78, 79, 80, 81, 82, 83, 84, 85, 86, 87, 88] (by decide +kernel) (by decide +kernel)
set_option maxRecDepth 20000 in
theorem gX4_breakRing_X4_more : GoodIn wsX4_breakRing (wsV RX4 85 RX4 yX4_more wsX4_more) := goodIn_app (goodIn_of _ (by decide +kernel)) ggX4_breakRing_X4_more
set_option maxRecDepth 20000 in
theorem ggX4_breakRing_X4_goThrough : GoodIn wsX4_breakRing wsX4_goThrough := goodIn_r _ [36, 37, 38, 39, 4, 40, 1, 41, 42, 43, 44, 45, 46, 47, 48, 14, 15, 16, 17, 49, 50, 51, 52, 53, 54, 55, 56, 18, 19, 20, 21, 57, 58, 59, 60, 22, 23, 24, 61, 62, 63, 64, 65, 66, 67, 68, 25, 26, 27, 28, 29, 30, 31, 32, 69, 70, 71, 72, 73, 74, 75, 76, 77, 78, 79, 80, 81, 82, 83, 84, 85, 86, 87, 88] (by decide +kernel) (by decide +kernel)
set_option maxRecDepth 20000 in
theorem gX4_breakRing_X4_goThrough : GoodIn wsX4_breakRing (wsV RX4 124 RX4 yX4_goThrough wsX4_goThrough) := goodIn_app (goodIn_of _ (by decide +kernel)) ggX4_breakRing_X4_goThrough
theorem dX4_breakRing_0 : decode cX4_breakRing 0 = .ok (.bipush (-6), 2) := by decide +kernel
theorem dX4_breakRing_2 : decode cX4_breakRing 2 = .ok (.istore_n 2, 1) := by decide +kernel
theorem dX4_breakRing_3 : decode cX4_breakRing 3 = .ok (.iconst 0, 1) := by decide +kernel
theorem dX4_breakRing_4 : decode cX4_breakRing 4 = .ok (.istore_n 3, 1) := by decide +kernel
theorem dX4_breakRing_5 : decode cX4_breakRing 5 = .ok (.iconst 0, 1) := by decide +kernel
theorem dX4_breakRing_6 : decode cX4_breakRing 6 = .ok (.istore 4, 2) := by decide +kernel
theorem dX4_breakRing_8 : decode cX4_breakRing 8 = .ok (.iload 4, 2) := by decide +kernel
theorem dX4_breakRing_10 : decode cX4_breakRing 10 = .ok (.bipush 8, 2) := by decide +kernel
theorem dX4_breakRing_12 : decode cX4_breakRing 12 = .ok (.if_icmp .ge 52, 3) := by decide +kernel
theorem dX4_breakRing_15 : decode cX4_breakRing 15 = .ok (.iload_n 1, 1) := by decide +kernel
theorem dX4_breakRing_16 : decode cX4_breakRing 16 = .ok (.iload 4, 2) := by decide +kernel
theorem dX4_breakRing_18 : decode cX4_breakRing 18 = .ok (.invokestatic 106, 3) := by decide +kernel
theorem dX4_breakRing_21 : decode cX4_breakRing 21 = .ok (.ifCond .eq 13, 3) := by decide +kernel
theorem dX4_breakRing_24 : decode cX4_breakRing 24 = .ok (.aload_n 0, 1) := by decide +kernel
theorem dX4_breakRing_25 : decode cX4_breakRing 25 = .ok (.iload 4, 2) := by decide +kernel
theorem dX4_breakRing_27 : decode cX4_breakRing 27 = .ok (.iload_n 1, 1) := by decide +kernel
theorem dX4_breakRing_28 : decode cX4_breakRing 28 = .ok (.invokevirtual 121, 3) := by decide +kernel
theorem dX4_breakRing_31 : decode cX4_breakRing 31 = .ok (.goto 4, 3) := by decide +kernel
theorem dX4_breakRing_34 : decode cX4_breakRing 34 = .ok (.iconst 0, 1) := by decide +kernel
theorem dX4_breakRing_35 : decode cX4_breakRing 35 = .ok (.istore 5, 2) := by decide +kernel
theorem dX4_breakRing_37 : decode cX4_breakRing 37 = .ok (.iload 5, 2) := by decide +kernel
theorem dX4_breakRing_39 : decode cX4_breakRing 39 = .ok (.ifCond .le 19, 3) := by decide +kernel
theorem dX4_breakRing_42 : decode cX4_breakRing 42 = .ok (.iload_n 2, 1) := by decide +kernel
theorem dX4_breakRing_43 : decode cX4_breakRing 43 = .ok (.ifCond .lt 9, 3) := by decide +kernel
theorem dX4_breakRing_46 : decode cX4_breakRing 46 = .ok (.iload 5, 2) := by decide +kernel
theorem dX4_breakRing_48 : decode cX4_breakRing 48 = .ok (.iload_n 3, 1) := by decide +kernel
theorem dX4_breakRing_49 : decode cX4_breakRing 49 = .ok (.if_icmp .gt 9, 3) := by decide +kernel
theorem dX4_breakRing_52 : decode cX4_breakRing 52 = .ok (.iload 4, 2) := by decide +kernel
theorem dX4_breakRing_54 : decode cX4_breakRing 54 = .ok (.istore_n 2, 1) := by decide +kernel
theorem dX4_breakRing_55 : decode cX4_breakRing 55 = .ok (.iload 5, 2) := by decide +kernel
theorem dX4_breakRing_57 : decode cX4_breakRing 57 = .ok (.istore_n 3, 1) := by decide +kernel
theorem dX4_breakRing_58 : decode cX4_breakRing 58 = .ok (.iinc 4 1, 3) := by decide +kernel
theorem dX4_breakRing_61 : decode cX4_breakRing 61 = .ok (.goto (-53), 3) := by decide +kernel
theorem dX4_breakRing_64 : decode cX4_breakRing 64 = .ok (.iconst 0, 1) := by decide +kernel
theorem dX4_breakRing_65 : decode cX4_breakRing 65 = .ok (.istore 4, 2) := by decide +kernel
theorem dX4_breakRing_67 : decode cX4_breakRing 67 = .ok (.iload 4, 2) := by decide +kernel
theorem dX4_breakRing_69 : decode cX4_breakRing 69 = .ok (.sipush 300, 3) := by decide +kernel
theorem dX4_breakRing_72 : decode cX4_breakRing 72 = .ok (.if_icmp .ge 28, 3) := by decide +kernel
theorem dX4_breakRing_75 : decode cX4_breakRing 75 = .ok (.aload_n 0, 1) := by decide +kernel
theorem dX4_breakRing_76 : decode cX4_breakRing 76 = .ok (.iload_n 2, 1) := by decide +kernel
theorem dX4_breakRing_77 : decode cX4_breakRing 77 = .ok (.iload 4, 2) := by decide +kernel
theorem dX4_breakRing_79 : decode cX4_breakRing 79 = .ok (.iload_n 1, 1) := by decide +kernel
theorem dX4_breakRing_80 : decode cX4_breakRing 80 = .ok (.invokevirtual 118, 3) := by decide +kernel
theorem dX4_breakRing_83 : decode cX4_breakRing 83 = .ok (.ifCond .eq 11, 3) := by decide +kernel
theorem dX4_breakRing_86 : decode cX4_breakRing 86 = .ok (.aload_n 0, 1) := by decide +kernel
theorem dX4_breakRing_87 : decode cX4_breakRing 87 = .ok (.iload_n 2, 1) := by decide +kernel
theorem dX4_breakRing_88 : decode cX4_breakRing 88 = .ok (.iload 4, 2) := by decide +kernel
theorem dX4_breakRing_90 : decode cX4_breakRing 90 = .ok (.iconst 0, 1) := by decide +kernel
theorem dX4_breakRing_91 : decode cX4_breakRing 91 = .ok (.invokevirtual 81, 3) := by decide +kernel
theorem dX4_breakRing_94 : decode cX4_breakRing 94 = .ok (.iinc 4 1, 3) := by decide +kernel
theorem dX4_breakRing_97 : decode cX4_breakRing 97 = .ok (.goto (-30), 3) := by decide +kernel
theorem dX4_breakRing_100 : decode cX4_breakRing 100 = .ok (.aload_n 0, 1) := by decide +kernel
theorem dX4_breakRing_101 : decode cX4_breakRing 101 = .ok (.iload_n 2, 1) := by decide +kernel
theorem dX4_breakRing_102 : decode cX4_breakRing 102 = .ok (.bipush 6, 2) := by decide +kernel
theorem dX4_breakRing_104 : decode cX4_breakRing 104 = .ok (.iload_n 3, 1) := by decide +kernel
theorem dX4_breakRing_105 : decode cX4_breakRing 105 = .ok (.invokevirtual 85, 3) := by decide +kernel
theorem dX4_breakRing_108 : decode cX4_breakRing 108 = .ok (.aload_n 0, 1) := by decide +kernel
theorem dX4_breakRing_109 : decode cX4_breakRing 109 = .ok (.getfield 7, 3) := by decide +kernel
theorem dX4_breakRing_112 : decode cX4_breakRing 112 = .ok (.bipush 6, 2) := by decide +kernel
theorem dX4_breakRing_114 : decode cX4_breakRing 114 = .ok (.dup2, 1) := by decide +kernel
theorem dX4_breakRing_115 : decode cX4_breakRing 115 = .ok (.iaload, 1) := by decide +kernel
theorem dX4_breakRing_116 : decode cX4_breakRing 116 = .ok (.iconst 1, 1) := by decide +kernel
theorem dX4_breakRing_117 : decode cX4_breakRing 117 = .ok (.iadd, 1) := by decide +kernel
theorem dX4_breakRing_118 : decode cX4_breakRing 118 = .ok (.iastore, 1) := by decide +kernel
theorem dX4_breakRing_119 : decode cX4_breakRing 119 = .ok (.aload_n 0, 1) := by decide +kernel
theorem dX4_breakRing_120 : decode cX4_breakRing 120 = .ok (.invokevirtual 124, 3) := by decide +kernel
theorem dX4_breakRing_123 : decode cX4_breakRing 123 = .ok (.return_, 1) := by decide +kernel
set_option maxRecDepth 20000 in
theorem ggX4_tryRequest_X4_isOwner : GoodIn wsX4_tryRequest wsX4_isOwner := goodIn_r _ [5, 6, 7, 4, 8] (by decide +kernel) (by decide +kernel)
set_option maxRecDepth 20000 in
theorem gX4_tryRequest_X4_isOwner : GoodIn wsX4_tryRequest (va_wsS RX4 127 yX4_isOwner wsX4_isOwner) := goodIn_app (goodIn_of _ (by decide +kernel)) ggX4_tryRequest_X4_isOwner
set_option maxRecDepth 20000 in
theorem ggX4_tryRequest_X4_in : GoodIn wsX4_tryRequest wsX4_in := goodIn_r _ [8] (by decide +kernel) (by decide +kernel)
set_option maxRecDepth 20000 in
theorem gX4_tryRequest_X4_in : GoodIn wsX4_tryRequest (va_wsS RX4 41 yX4_in wsX4_in) := goodIn_app (goodIn_of _ (by decide +kernel)) ggX4_tryRequest_X4_in
set_option maxRecDepth 20000 in
theorem ggX4_tryRequest_X4_isRange : GoodIn wsX4_tryRequest wsX4_isRange := goodIn_r _ [11, 6, 7, 4, 8] (by decide +kernel) (by decide +kernel)
set_option maxRecDepth 20000 in
theorem gX4_tryRequest_X4_isRange : GoodIn wsX4_tryRequest (va_wsS RX4 131 yX4_isRange wsX4_isRange) := goodIn_app (goodIn_of _ (by decide +kernel)) ggX4_tryRequest_X4_isRange
set_option maxRecDepth 20000 in
theorem ggX4_tryRequest_X4_of : GoodIn wsX4_tryRequest wsX4_of := goodIn_r _ [15, 1, 119, 120, 121, 122, 123, 124, 125, 126, 127, 128, 129, 130, 131, 132, 133, 134] (by decide +kernel) (by decide +kernel)
set_option maxRecDepth 20000 in
theorem gX4_tryRequest_X4_of : GoodIn wsX4_tryRequest (wsV RX4 63 RX4 yX4_of wsX4_of) := goodIn_app (goodIn_of _ (by decide +kernel)) ggX4_tryRequest_X4_of
set_option maxRecDepth 20000 in
theorem ggX4_tryRequest_X4_stoppedIn : GoodIn wsX4_tryRequest wsX4_stoppedIn := goodIn_r _ [19, 20, 21, 22, 4, 23, 24, 25, 26, 27, 1, 28, 29, 30, 31, 32, 33, 34, 12, 13, 14, 15, 119, 120, 121, 122, 123, 124, 125, 126, 127, 128, 129, 130, 131, 132, 133, 134] (by decide +kernel) (by decide +kernel)
set_option maxRecDepth 20000 in
theorem gX4_tryRequest_X4_stoppedIn : GoodIn wsX4_tryRequest (wsV RX4 77 RX4 yX4_stoppedIn wsX4_stoppedIn) := goodIn_app (goodIn_of _ (by decide +kernel)) ggX4_tryRequest_X4_stoppedIn
set_option maxRecDepth 20000 in
theorem ggX4_tryRequest_X4_keepIf : GoodIn wsX4_tryRequest wsX4_keepIf := goodIn_r _ [38, 39, 40, 41, 4, 42, 43, 44, 45, 1, 119, 120, 121, 122, 123, 124, 125, 126, 127, 128, 129, 130, 131, 132, 133, 134] (by decide +kernel) (by decide +kernel)
set_option maxRecDepth 20000 in
theorem gX4_tryRequest_X4_keepIf : GoodIn wsX4_tryRequest (wsV RX4 134 RX4 yX4_keepIf wsX4_keepIf) := goodIn_app (goodIn_of _ (by decide +kernel)) ggX4_tryRequest_X4_keepIf
set_option maxRecDepth 20000 in
theorem ggX4_tryRequest_X4_give : GoodIn wsX4_tryRequest wsX4_give := goodIn_r _ [49, 50, 51, 52, 4, 53, 1, 54, 55, 56, 57, 119, 120, 121, 122, 123, 124, 125, 126, 127, 128, 129, 130, 131, 132, 133, 134] (by decide +kernel) (by decide +kernel)
set_option maxRecDepth 20000 in
theorem gX4_tryRequest_X4_give : GoodIn wsX4_tryRequest (wsV RX4 98 RX4 yX4_give wsX4_give) := goodIn_app (goodIn_of _ (by decide +kernel)) ggX4_tryRequest_X4_give
set_option maxRecDepth 20000 in
theorem ggX4_tryRequest_X4_goThrough : GoodIn wsX4_tryRequest wsX4_goThrough := goodIn_r _ [61, 62, 63, 64, 4, 65, 1, 66, 67, 68, 69, 70, 71, 72, 73, 12, 13, 14, 15, 16, 17, 18, 19, 20, 21, 22, 23, 24, 25, 26, 27, 28, 29, 30, 31, 32, 33, 34, 74, 75, 76, 77, 46, 47, 48, 49, 50, 51, 52, 53, 54, 55, 56, 57, 78, 79, 80, 81, 119, 120, 121, 122, 123, 124, 125, 126, 127, 128, 129, 130, 131, 132, 133, 134] (by decide +kernel) (by decide +kernel)
set_option maxRecDepth 20000 in
theorem gX4_tryRequest_X4_goThrough : GoodIn wsX4_tryRequest (wsV RX4 124 RX4 yX4_goThrough wsX4_goThrough) := goodIn_app (goodIn_of _ (by decide +kernel)) ggX4_tryRequest_X4_goThrough
set_option maxRecDepth 20000 in
theorem ggX4_tryRequest_X4_joinRow : GoodIn wsX4_tryRequest wsX4_joinRow := goodIn_r _ [85, 1, 74, 75, 76, 4, 77, 119, 120, 121, 122, 123, 124, 125, 126, 127, 128, 129, 130, 131, 132, 133, 134] (by decide +kernel) (by decide +kernel)
set_option maxRecDepth 20000 in
theorem gX4_tryRequest_X4_joinRow : GoodIn wsX4_tryRequest (wsV RX4 138 RX4 yX4_joinRow wsX4_joinRow) := goodIn_app (goodIn_of _ (by decide +kernel)) ggX4_tryRequest_X4_joinRow
set_option maxRecDepth 20000 in
theorem ggX4_tryRequest_X4_ringNow : GoodIn wsX4_tryRequest wsX4_ringNow := goodIn_r _ [89, 90, 91, 92, 4, 93, 94, 66, 67, 68, 69, 70, 71, 72, 73, 1, 12, 13, 14, 15, 16, 17, 18, 19, 20, 21, 22, 23, 24, 25, 26, 27, 28, 29, 30, 31, 32, 33, 34, 95, 96, 97, 98, 99, 100, 101, 102, 103, 104, 105, 106, 119, 120, 121, 122, 123, 124, 125, 126, 127, 128, 129, 130, 131, 132, 133, 134] (by decide +kernel) (by decide +kernel)
set_option maxRecDepth 20000 in
theorem gX4_tryRequest_X4_ringNow : GoodIn wsX4_tryRequest (wsV RX4 141 RX4 yX4_ringNow wsX4_ringNow) := goodIn_app (goodIn_of _ (by decide +kernel)) ggX4_tryRequest_X4_ringNow
set_option maxRecDepth 20000 in
theorem ggX4_tryRequest_X4_leaveRow : GoodIn wsX4_tryRequest wsX4_leaveRow := goodIn_r _ [81, 1, 70, 71, 72, 4, 73, 74, 75, 76, 77, 119, 120, 121, 122, 123, 124, 125, 126, 127, 128, 129, 130, 131, 132, 133, 134] (by decide +kernel) (by decide +kernel)
set_option maxRecDepth 20000 in
theorem gX4_tryRequest_X4_leaveRow : GoodIn wsX4_tryRequest (wsV RX4 102 RX4 yX4_leaveRow wsX4_leaveRow) := goodIn_app (goodIn_of _ (by decide +kernel)) ggX4_tryRequest_X4_leaveRow
set_option maxRecDepth 20000 in
theorem ggX4_tryRequest_X4_lay : GoodIn wsX4_tryRequest wsX4_lay := goodIn_r _ [77, 1, 119, 120, 121, 122, 123, 124, 125, 126, 127, 128, 129, 130, 131, 132, 133, 134] (by decide +kernel) (by decide +kernel)
set_option maxRecDepth 20000 in
theorem gX4_tryRequest_X4_lay : GoodIn wsX4_tryRequest (wsV RX4 88 RX4 yX4_lay wsX4_lay) := goodIn_app (goodIn_of _ (by decide +kernel)) ggX4_tryRequest_X4_lay
set_option maxRecDepth 20000 in
theorem ggX4_tryRequest_X4_more : GoodIn wsX4_tryRequest wsX4_more := goodIn_r _ [57, 1, 119, 120, 121, 122, 123, 124, 125, 126, 127, 128, 129, 130, 131, 132, 133, 134] (by decide +kernel) (by decide +kernel)
set_option maxRecDepth 20000 in
theorem gX4_tryRequest_X4_more : GoodIn wsX4_tryRequest (wsV RX4 85 RX4 yX4_more wsX4_more) := goodIn_app (goodIn_of _ (by decide +kernel)) ggX4_tryRequest_X4_more
set_option maxRecDepth 20000 in
theorem ggX4_tryRequest_X4_breakRing : GoodIn wsX4_tryRequest wsX4_breakRing := goodIn_r _ [110, 1, 100, 101, 4, 102, 111, 112, 113, 114, 115, 116, 117, 118, 12, 13, 14, 15, 24, 25, 26, 27, 32, 33, 34, 50, 51, 52, 53, 54, 55, 56, 57, 58, 59, 60, 61, 62, 63, 64, 65, 66, 67, 68, 69, 70, 71, 72, 73, 16, 17, 18, 19, 20, 21, 22, 23, 28, 29, 30, 31, 74, 75, 76, 77, 46, 47, 48, 49, 78, 79, 80, 81, 119, 120, 121, 122, 123, 124, 125, 126, 127, 128, 129, 130, 131, 132, 133, 134] (by decide +kernel) (by decide +kernel)
set_option maxRecDepth 20000 in
theorem gX4_tryRequest_X4_breakRing : GoodIn wsX4_tryRequest (wsV RX4 144 RX4 yX4_breakRing wsX4_breakRing) := goodIn_app (goodIn_of _ (by decide +kernel)) ggX4_tryRequest_X4_breakRing
theorem dX4_tryRequest_0 : decode cX4_tryRequest 0 = .ok (.iload_n 1, 1) := by decide +kernel
theorem dX4_tryRequest_1 : decode cX4_tryRequest 1 = .ok (.invokestatic 127, 3) := by decide +kernel
theorem dX4_tryRequest_4 : decode cX4_tryRequest 4 = .ok (.ifCond .ne 5, 3) := by decide +kernel
theorem dX4_tryRequest_7 : decode cX4_tryRequest 7 = .ok (.iconst (-1), 1) := by decide +kernel
theorem dX4_tryRequest_8 : decode cX4_tryRequest 8 = .ok (.ireturn, 1) := by decide +kernel
theorem dX4_tryRequest_9 : decode cX4_tryRequest 9 = .ok (.iload_n 2, 1) := by decide +kernel
theorem dX4_tryRequest_10 : decode cX4_tryRequest 10 = .ok (.iconst 1, 1) := by decide +kernel
theorem dX4_tryRequest_11 : decode cX4_tryRequest 11 = .ok (.iconst 3, 1) := by decide +kernel
theorem dX4_tryRequest_12 : decode cX4_tryRequest 12 = .ok (.invokestatic 41, 3) := by decide +kernel
theorem dX4_tryRequest_15 : decode cX4_tryRequest 15 = .ok (.ifCond .eq 22, 3) := by decide +kernel
theorem dX4_tryRequest_18 : decode cX4_tryRequest 18 = .ok (.iload_n 3, 1) := by decide +kernel
theorem dX4_tryRequest_19 : decode cX4_tryRequest 19 = .ok (.iload 4, 2) := by decide +kernel
theorem dX4_tryRequest_21 : decode cX4_tryRequest 21 = .ok (.invokestatic 131, 3) := by decide +kernel
theorem dX4_tryRequest_24 : decode cX4_tryRequest 24 = .ok (.ifCond .eq 13, 3) := by decide +kernel
theorem dX4_tryRequest_27 : decode cX4_tryRequest 27 = .ok (.iload 5, 2) := by decide +kernel
theorem dX4_tryRequest_29 : decode cX4_tryRequest 29 = .ok (.iconst 0, 1) := by decide +kernel
theorem dX4_tryRequest_30 : decode cX4_tryRequest 30 = .ok (.iconst 1, 1) := by decide +kernel
theorem dX4_tryRequest_31 : decode cX4_tryRequest 31 = .ok (.invokestatic 41, 3) := by decide +kernel
theorem dX4_tryRequest_34 : decode cX4_tryRequest 34 = .ok (.ifCond .ne 6, 3) := by decide +kernel
theorem dX4_tryRequest_37 : decode cX4_tryRequest 37 = .ok (.bipush (-2), 2) := by decide +kernel
theorem dX4_tryRequest_39 : decode cX4_tryRequest 39 = .ok (.ireturn, 1) := by decide +kernel
theorem dX4_tryRequest_40 : decode cX4_tryRequest 40 = .ok (.aload_n 0, 1) := by decide +kernel
theorem dX4_tryRequest_41 : decode cX4_tryRequest 41 = .ok (.iload_n 1, 1) := by decide +kernel
theorem dX4_tryRequest_42 : decode cX4_tryRequest 42 = .ok (.iconst 0, 1) := by decide +kernel
theorem dX4_tryRequest_43 : decode cX4_tryRequest 43 = .ok (.invokevirtual 63, 3) := by decide +kernel
theorem dX4_tryRequest_46 : decode cX4_tryRequest 46 = .ok (.ifCond .le 6, 3) := by decide +kernel
theorem dX4_tryRequest_49 : decode cX4_tryRequest 49 = .ok (.bipush (-5), 2) := by decide +kernel
theorem dX4_tryRequest_51 : decode cX4_tryRequest 51 = .ok (.ireturn, 1) := by decide +kernel
theorem dX4_tryRequest_52 : decode cX4_tryRequest 52 = .ok (.aload_n 0, 1) := by decide +kernel
theorem dX4_tryRequest_53 : decode cX4_tryRequest 53 = .ok (.iload_n 1, 1) := by decide +kernel
theorem dX4_tryRequest_54 : decode cX4_tryRequest 54 = .ok (.iload_n 2, 1) := by decide +kernel
theorem dX4_tryRequest_55 : decode cX4_tryRequest 55 = .ok (.iload_n 3, 1) := by decide +kernel
theorem dX4_tryRequest_56 : decode cX4_tryRequest 56 = .ok (.iload 4, 2) := by decide +kernel
theorem dX4_tryRequest_58 : decode cX4_tryRequest 58 = .ok (.aload_n 0, 1) := by decide +kernel
theorem dX4_tryRequest_59 : decode cX4_tryRequest 59 = .ok (.getfield 7, 3) := by decide +kernel
theorem dX4_tryRequest_62 : decode cX4_tryRequest 62 = .ok (.iconst 1, 1) := by decide +kernel
theorem dX4_tryRequest_63 : decode cX4_tryRequest 63 = .ok (.iaload, 1) := by decide +kernel
theorem dX4_tryRequest_64 : decode cX4_tryRequest 64 = .ok (.invokevirtual 77, 3) := by decide +kernel
theorem dX4_tryRequest_67 : decode cX4_tryRequest 67 = .ok (.ifCond .ne 24, 3) := by decide +kernel
theorem dX4_tryRequest_70 : decode cX4_tryRequest 70 = .ok (.aload_n 0, 1) := by decide +kernel
theorem dX4_tryRequest_71 : decode cX4_tryRequest 71 = .ok (.iload 6, 2) := by decide +kernel
theorem dX4_tryRequest_73 : decode cX4_tryRequest 73 = .ok (.invokevirtual 134, 3) := by decide +kernel
theorem dX4_tryRequest_76 : decode cX4_tryRequest 76 = .ok (.aload_n 0, 1) := by decide +kernel
theorem dX4_tryRequest_77 : decode cX4_tryRequest 77 = .ok (.iload_n 1, 1) := by decide +kernel
theorem dX4_tryRequest_78 : decode cX4_tryRequest 78 = .ok (.iload_n 2, 1) := by decide +kernel
theorem dX4_tryRequest_79 : decode cX4_tryRequest 79 = .ok (.iload_n 3, 1) := by decide +kernel
theorem dX4_tryRequest_80 : decode cX4_tryRequest 80 = .ok (.iload 4, 2) := by decide +kernel
theorem dX4_tryRequest_82 : decode cX4_tryRequest 82 = .ok (.invokevirtual 98, 3) := by decide +kernel
theorem dX4_tryRequest_85 : decode cX4_tryRequest 85 = .ok (.aload_n 0, 1) := by decide +kernel
theorem dX4_tryRequest_86 : decode cX4_tryRequest 86 = .ok (.invokevirtual 124, 3) := by decide +kernel
theorem dX4_tryRequest_89 : decode cX4_tryRequest 89 = .ok (.iconst 1, 1) := by decide +kernel
theorem dX4_tryRequest_90 : decode cX4_tryRequest 90 = .ok (.ireturn, 1) := by decide +kernel
theorem dX4_tryRequest_91 : decode cX4_tryRequest 91 = .ok (.iload 5, 2) := by decide +kernel
theorem dX4_tryRequest_93 : decode cX4_tryRequest 93 = .ok (.ifCond .ne 6, 3) := by decide +kernel
theorem dX4_tryRequest_96 : decode cX4_tryRequest 96 = .ok (.bipush (-5), 2) := by decide +kernel
theorem dX4_tryRequest_98 : decode cX4_tryRequest 98 = .ok (.ireturn, 1) := by decide +kernel
theorem dX4_tryRequest_99 : decode cX4_tryRequest 99 = .ok (.aload_n 0, 1) := by decide +kernel
theorem dX4_tryRequest_100 : decode cX4_tryRequest 100 = .ok (.iload_n 1, 1) := by decide +kernel
theorem dX4_tryRequest_101 : decode cX4_tryRequest 101 = .ok (.iconst 1, 1) := by decide +kernel
theorem dX4_tryRequest_102 : decode cX4_tryRequest 102 = .ok (.invokevirtual 63, 3) := by decide +kernel
theorem dX4_tryRequest_105 : decode cX4_tryRequest 105 = .ok (.istore 7, 2) := by decide +kernel
theorem dX4_tryRequest_107 : decode cX4_tryRequest 107 = .ok (.aload_n 0, 1) := by decide +kernel
theorem dX4_tryRequest_108 : decode cX4_tryRequest 108 = .ok (.iload_n 1, 1) := by decide +kernel
theorem dX4_tryRequest_109 : decode cX4_tryRequest 109 = .ok (.iconst 2, 1) := by decide +kernel
theorem dX4_tryRequest_110 : decode cX4_tryRequest 110 = .ok (.invokevirtual 63, 3) := by decide +kernel
theorem dX4_tryRequest_113 : decode cX4_tryRequest 113 = .ok (.istore 8, 2) := by decide +kernel
theorem dX4_tryRequest_115 : decode cX4_tryRequest 115 = .ok (.aload_n 0, 1) := by decide +kernel
theorem dX4_tryRequest_116 : decode cX4_tryRequest 116 = .ok (.iload_n 1, 1) := by decide +kernel
theorem dX4_tryRequest_117 : decode cX4_tryRequest 117 = .ok (.iconst 3, 1) := by decide +kernel
theorem dX4_tryRequest_118 : decode cX4_tryRequest 118 = .ok (.invokevirtual 63, 3) := by decide +kernel
theorem dX4_tryRequest_121 : decode cX4_tryRequest 121 = .ok (.istore 9, 2) := by decide +kernel
theorem dX4_tryRequest_123 : decode cX4_tryRequest 123 = .ok (.aload_n 0, 1) := by decide +kernel
theorem dX4_tryRequest_124 : decode cX4_tryRequest 124 = .ok (.iload_n 1, 1) := by decide +kernel
theorem dX4_tryRequest_125 : decode cX4_tryRequest 125 = .ok (.iload_n 2, 1) := by decide +kernel
theorem dX4_tryRequest_126 : decode cX4_tryRequest 126 = .ok (.iload_n 3, 1) := by decide +kernel
theorem dX4_tryRequest_127 : decode cX4_tryRequest 127 = .ok (.iload 4, 2) := by decide +kernel
theorem dX4_tryRequest_129 : decode cX4_tryRequest 129 = .ok (.invokevirtual 138, 3) := by decide +kernel
theorem dX4_tryRequest_132 : decode cX4_tryRequest 132 = .ok (.aload_n 0, 1) := by decide +kernel
theorem dX4_tryRequest_133 : decode cX4_tryRequest 133 = .ok (.iload_n 1, 1) := by decide +kernel
theorem dX4_tryRequest_134 : decode cX4_tryRequest 134 = .ok (.invokevirtual 141, 3) := by decide +kernel
theorem dX4_tryRequest_137 : decode cX4_tryRequest 137 = .ok (.ifCond .eq 7, 3) := by decide +kernel
theorem dX4_tryRequest_140 : decode cX4_tryRequest 140 = .ok (.iconst 1, 1) := by decide +kernel
theorem dX4_tryRequest_141 : decode cX4_tryRequest 141 = .ok (.goto 4, 3) := by decide +kernel
theorem dX4_tryRequest_144 : decode cX4_tryRequest 144 = .ok (.iconst 0, 1) := by decide +kernel
theorem dX4_tryRequest_145 : decode cX4_tryRequest 145 = .ok (.istore 10, 2) := by decide +kernel
theorem dX4_tryRequest_147 : decode cX4_tryRequest 147 = .ok (.aload_n 0, 1) := by decide +kernel
theorem dX4_tryRequest_148 : decode cX4_tryRequest 148 = .ok (.iload_n 1, 1) := by decide +kernel
theorem dX4_tryRequest_149 : decode cX4_tryRequest 149 = .ok (.invokevirtual 102, 3) := by decide +kernel
theorem dX4_tryRequest_152 : decode cX4_tryRequest 152 = .ok (.aload_n 0, 1) := by decide +kernel
theorem dX4_tryRequest_153 : decode cX4_tryRequest 153 = .ok (.iload_n 1, 1) := by decide +kernel
theorem dX4_tryRequest_154 : decode cX4_tryRequest 154 = .ok (.iconst 1, 1) := by decide +kernel
theorem dX4_tryRequest_155 : decode cX4_tryRequest 155 = .ok (.iload 7, 2) := by decide +kernel
theorem dX4_tryRequest_157 : decode cX4_tryRequest 157 = .ok (.invokevirtual 88, 3) := by decide +kernel
theorem dX4_tryRequest_160 : decode cX4_tryRequest 160 = .ok (.aload_n 0, 1) := by decide +kernel
theorem dX4_tryRequest_161 : decode cX4_tryRequest 161 = .ok (.iload_n 1, 1) := by decide +kernel
theorem dX4_tryRequest_162 : decode cX4_tryRequest 162 = .ok (.iconst 2, 1) := by decide +kernel
theorem dX4_tryRequest_163 : decode cX4_tryRequest 163 = .ok (.iload 8, 2) := by decide +kernel
theorem dX4_tryRequest_165 : decode cX4_tryRequest 165 = .ok (.invokevirtual 88, 3) := by decide +kernel
theorem dX4_tryRequest_168 : decode cX4_tryRequest 168 = .ok (.aload_n 0, 1) := by decide +kernel
theorem dX4_tryRequest_169 : decode cX4_tryRequest 169 = .ok (.iload_n 1, 1) := by decide +kernel
theorem dX4_tryRequest_170 : decode cX4_tryRequest 170 = .ok (.iconst 3, 1) := by decide +kernel
theorem dX4_tryRequest_171 : decode cX4_tryRequest 171 = .ok (.iload 9, 2) := by decide +kernel
theorem dX4_tryRequest_173 : decode cX4_tryRequest 173 = .ok (.invokevirtual 88, 3) := by decide +kernel
theorem dX4_tryRequest_176 : decode cX4_tryRequest 176 = .ok (.iload 10, 2) := by decide +kernel
theorem dX4_tryRequest_178 : decode cX4_tryRequest 178 = .ok (.ifCond .eq 15, 3) := by decide +kernel
theorem dX4_tryRequest_181 : decode cX4_tryRequest 181 = .ok (.aload_n 0, 1) := by decide +kernel
theorem dX4_tryRequest_182 : decode cX4_tryRequest 182 = .ok (.getfield 7, 3) := by decide +kernel
theorem dX4_tryRequest_185 : decode cX4_tryRequest 185 = .ok (.iconst 3, 1) := by decide +kernel
theorem dX4_tryRequest_186 : decode cX4_tryRequest 186 = .ok (.iaload, 1) := by decide +kernel
theorem dX4_tryRequest_187 : decode cX4_tryRequest 187 = .ok (.ifCond .ne 6, 3) := by decide +kernel
theorem dX4_tryRequest_190 : decode cX4_tryRequest 190 = .ok (.bipush (-5), 2) := by decide +kernel
theorem dX4_tryRequest_192 : decode cX4_tryRequest 192 = .ok (.ireturn, 1) := by decide +kernel
theorem dX4_tryRequest_193 : decode cX4_tryRequest 193 = .ok (.aload_n 0, 1) := by decide +kernel
theorem dX4_tryRequest_194 : decode cX4_tryRequest 194 = .ok (.iload 6, 2) := by decide +kernel
theorem dX4_tryRequest_196 : decode cX4_tryRequest 196 = .ok (.invokevirtual 134, 3) := by decide +kernel
theorem dX4_tryRequest_199 : decode cX4_tryRequest 199 = .ok (.aload_n 0, 1) := by decide +kernel
theorem dX4_tryRequest_200 : decode cX4_tryRequest 200 = .ok (.iload_n 1, 1) := by decide +kernel
theorem dX4_tryRequest_201 : decode cX4_tryRequest 201 = .ok (.iload_n 2, 1) := by decide +kernel
theorem dX4_tryRequest_202 : decode cX4_tryRequest 202 = .ok (.iload_n 3, 1) := by decide +kernel
theorem dX4_tryRequest_203 : decode cX4_tryRequest 203 = .ok (.iload 4, 2) := by decide +kernel
theorem dX4_tryRequest_205 : decode cX4_tryRequest 205 = .ok (.invokevirtual 138, 3) := by decide +kernel
theorem dX4_tryRequest_208 : decode cX4_tryRequest 208 = .ok (.aload_n 0, 1) := by decide +kernel
theorem dX4_tryRequest_209 : decode cX4_tryRequest 209 = .ok (.iload_n 1, 1) := by decide +kernel
theorem dX4_tryRequest_210 : decode cX4_tryRequest 210 = .ok (.iconst 5, 1) := by decide +kernel
theorem dX4_tryRequest_211 : decode cX4_tryRequest 211 = .ok (.iconst 1, 1) := by decide +kernel
theorem dX4_tryRequest_212 : decode cX4_tryRequest 212 = .ok (.invokevirtual 85, 3) := by decide +kernel
theorem dX4_tryRequest_215 : decode cX4_tryRequest 215 = .ok (.aload_n 0, 1) := by decide +kernel
theorem dX4_tryRequest_216 : decode cX4_tryRequest 216 = .ok (.iload_n 1, 1) := by decide +kernel
theorem dX4_tryRequest_217 : decode cX4_tryRequest 217 = .ok (.invokevirtual 141, 3) := by decide +kernel
theorem dX4_tryRequest_220 : decode cX4_tryRequest 220 = .ok (.istore 11, 2) := by decide +kernel
theorem dX4_tryRequest_222 : decode cX4_tryRequest 222 = .ok (.iload 11, 2) := by decide +kernel
theorem dX4_tryRequest_224 : decode cX4_tryRequest 224 = .ok (.ifCond .eq 19, 3) := by decide +kernel
theorem dX4_tryRequest_227 : decode cX4_tryRequest 227 = .ok (.aload_n 0, 1) := by decide +kernel
theorem dX4_tryRequest_228 : decode cX4_tryRequest 228 = .ok (.iload 11, 2) := by decide +kernel
theorem dX4_tryRequest_230 : decode cX4_tryRequest 230 = .ok (.invokevirtual 144, 3) := by decide +kernel
theorem dX4_tryRequest_233 : decode cX4_tryRequest 233 = .ok (.aload_n 0, 1) := by decide +kernel
theorem dX4_tryRequest_234 : decode cX4_tryRequest 234 = .ok (.iload_n 1, 1) := by decide +kernel
theorem dX4_tryRequest_235 : decode cX4_tryRequest 235 = .ok (.invokevirtual 141, 3) := by decide +kernel
theorem dX4_tryRequest_238 : decode cX4_tryRequest 238 = .ok (.istore 11, 2) := by decide +kernel
theorem dX4_tryRequest_240 : decode cX4_tryRequest 240 = .ok (.goto (-18), 3) := by decide +kernel
theorem dX4_tryRequest_243 : decode cX4_tryRequest 243 = .ok (.aload_n 0, 1) := by decide +kernel
theorem dX4_tryRequest_244 : decode cX4_tryRequest 244 = .ok (.iload_n 1, 1) := by decide +kernel
theorem dX4_tryRequest_245 : decode cX4_tryRequest 245 = .ok (.iconst 0, 1) := by decide +kernel
theorem dX4_tryRequest_246 : decode cX4_tryRequest 246 = .ok (.invokevirtual 63, 3) := by decide +kernel
theorem dX4_tryRequest_249 : decode cX4_tryRequest 249 = .ok (.ifCond .le 7, 3) := by decide +kernel
theorem dX4_tryRequest_252 : decode cX4_tryRequest 252 = .ok (.iconst 0, 1) := by decide +kernel
theorem dX4_tryRequest_253 : decode cX4_tryRequest 253 = .ok (.goto 4, 3) := by decide +kernel
theorem dX4_tryRequest_256 : decode cX4_tryRequest 256 = .ok (.iconst 1, 1) := by decide +kernel
theorem dX4_tryRequest_257 : decode cX4_tryRequest 257 = .ok (.ireturn, 1) := by decide +kernel
set_option maxRecDepth 20000 in
theorem ggX4_request_X4_tryRequest : GoodIn wsX4_request wsX4_tryRequest := goodIn_r _ [5, 6, 7, 8, 4, 9, 10, 11, 12, 13, 14, 15, 16, 17, 18, 19, 20, 21, 22, 23, 24, 25, 26, 27, 28, 29, 30, 31, 32, 33, 34, 35, 36, 37, 38, 39, 40, 41, 42, 43, 44, 45, 46, 47, 48, 49, 50, 51, 52, 53, 54, 55, 56, 57, 58, 59, 60, 61, 62, 63, 64, 65, 66, 67, 68, 69, 70, 71, 72, 73, 74, 75, 76, 77, 78, 79, 80, 81, 82, 83, 84, 85, 86, 87, 88, 89, 90, 91, 92, 93, 94, 95, 96, 97, 98, 99, 100, 101, 102, 103, 104, 105, 106, 107, 108, 109, 110, 111, 112, 113, 114, 115, 116, 117, 118, 119, 120, 121, 122, 123, 124, 125, 126, 127, 128, 129, 130, 131, 132, 133, 134, 135, 136, 137, 138] (by decide +kernel) (by decide +kernel)
set_option maxRecDepth 20000 in
theorem gX4_request_X4_tryRequest : GoodIn wsX4_request (wsV RX4 147 RX4 yX4_tryRequest wsX4_tryRequest) := goodIn_app (goodIn_of _ (by decide +kernel)) ggX4_request_X4_tryRequest
theorem dX4_request_0 : decode cX4_request 0 = .ok (.aload_n 0, 1) := by decide +kernel
theorem dX4_request_1 : decode cX4_request 1 = .ok (.iload_n 1, 1) := by decide +kernel
theorem dX4_request_2 : decode cX4_request 2 = .ok (.iload_n 2, 1) := by decide +kernel
theorem dX4_request_3 : decode cX4_request 3 = .ok (.iload_n 3, 1) := by decide +kernel
theorem dX4_request_4 : decode cX4_request 4 = .ok (.iload 4, 2) := by decide +kernel
theorem dX4_request_6 : decode cX4_request 6 = .ok (.iload 5, 2) := by decide +kernel
theorem dX4_request_8 : decode cX4_request 8 = .ok (.iconst 1, 1) := by decide +kernel
theorem dX4_request_9 : decode cX4_request 9 = .ok (.invokevirtual 147, 3) := by decide +kernel
theorem dX4_request_12 : decode cX4_request 12 = .ok (.ireturn, 1) := by decide +kernel
set_option maxRecDepth 20000 in
theorem ggX4_set_X4_in : GoodIn wsX4_set wsX4_in := goodIn_r _ [5] (by decide +kernel) (by decide +kernel)
set_option maxRecDepth 20000 in
theorem gX4_set_X4_in : GoodIn wsX4_set (va_wsS RX4 41 yX4_in wsX4_in) := goodIn_app (goodIn_of _ (by decide +kernel)) ggX4_set_X4_in
set_option maxRecDepth 20000 in
theorem ggX4_set_X4_keep : GoodIn wsX4_set wsX4_keep := goodIn_r _ [9, 10, 11, 12, 1, 13, 14, 15, 16, 17, 18, 19, 20, 21, 22, 23, 24, 25, 26, 27, 28] (by decide +kernel) (by decide +kernel)
set_option maxRecDepth 20000 in
theorem gX4_set_X4_keep : GoodIn wsX4_set (wsV RX4 52 RX4 yX4_keep wsX4_keep) := goodIn_app (goodIn_of _ (by decide +kernel)) ggX4_set_X4_keep
theorem dX4_set_0 : decode cX4_set 0 = .ok (.iload_n 1, 1) := by decide +kernel
theorem dX4_set_1 : decode cX4_set 1 = .ok (.iconst 0, 1) := by decide +kernel
theorem dX4_set_2 : decode cX4_set 2 = .ok (.iconst 2, 1) := by decide +kernel
theorem dX4_set_3 : decode cX4_set 3 = .ok (.invokestatic 41, 3) := by decide +kernel
theorem dX4_set_6 : decode cX4_set 6 = .ok (.ifCond .eq 23, 3) := by decide +kernel
theorem dX4_set_9 : decode cX4_set 9 = .ok (.iload_n 2, 1) := by decide +kernel
theorem dX4_set_10 : decode cX4_set 10 = .ok (.iconst 0, 1) := by decide +kernel
theorem dX4_set_11 : decode cX4_set 11 = .ok (.iload_n 1, 1) := by decide +kernel
theorem dX4_set_12 : decode cX4_set 12 = .ok (.iconst 2, 1) := by decide +kernel
theorem dX4_set_13 : decode cX4_set 13 = .ok (.if_icmp .ne 9, 3) := by decide +kernel
theorem dX4_set_16 : decode cX4_set 16 = .ok (.sipush 200, 3) := by decide +kernel
theorem dX4_set_19 : decode cX4_set 19 = .ok (.goto 4, 3) := by decide +kernel
theorem dX4_set_22 : decode cX4_set 22 = .ok (.iconst 1, 1) := by decide +kernel
theorem dX4_set_23 : decode cX4_set 23 = .ok (.invokestatic 41, 3) := by decide +kernel
theorem dX4_set_26 : decode cX4_set 26 = .ok (.ifCond .ne 6, 3) := by decide +kernel
theorem dX4_set_29 : decode cX4_set 29 = .ok (.bipush (-2), 2) := by decide +kernel
theorem dX4_set_31 : decode cX4_set 31 = .ok (.ireturn, 1) := by decide +kernel
theorem dX4_set_32 : decode cX4_set 32 = .ok (.iload_n 1, 1) := by decide +kernel
theorem dX4_set_33 : decode cX4_set 33 = .ok (.ifCond .ne 15, 3) := by decide +kernel
theorem dX4_set_36 : decode cX4_set 36 = .ok (.aload_n 0, 1) := by decide +kernel
theorem dX4_set_37 : decode cX4_set 37 = .ok (.getfield 7, 3) := by decide +kernel
theorem dX4_set_40 : decode cX4_set 40 = .ok (.iconst 1, 1) := by decide +kernel
theorem dX4_set_41 : decode cX4_set 41 = .ok (.iaload, 1) := by decide +kernel
theorem dX4_set_42 : decode cX4_set 42 = .ok (.ifCond .le 6, 3) := by decide +kernel
theorem dX4_set_45 : decode cX4_set 45 = .ok (.bipush (-5), 2) := by decide +kernel
theorem dX4_set_47 : decode cX4_set 47 = .ok (.ireturn, 1) := by decide +kernel
theorem dX4_set_48 : decode cX4_set 48 = .ok (.aload_n 0, 1) := by decide +kernel
theorem dX4_set_49 : decode cX4_set 49 = .ok (.invokevirtual 52, 3) := by decide +kernel
theorem dX4_set_52 : decode cX4_set 52 = .ok (.aload_n 0, 1) := by decide +kernel
theorem dX4_set_53 : decode cX4_set 53 = .ok (.getfield 7, 3) := by decide +kernel
theorem dX4_set_56 : decode cX4_set 56 = .ok (.iconst 2, 1) := by decide +kernel
theorem dX4_set_57 : decode cX4_set 57 = .ok (.iload_n 1, 1) := by decide +kernel
theorem dX4_set_58 : decode cX4_set 58 = .ok (.iadd, 1) := by decide +kernel
theorem dX4_set_59 : decode cX4_set 59 = .ok (.iaload, 1) := by decide +kernel
theorem dX4_set_60 : decode cX4_set 60 = .ok (.istore_n 3, 1) := by decide +kernel
theorem dX4_set_61 : decode cX4_set 61 = .ok (.aload_n 0, 1) := by decide +kernel
theorem dX4_set_62 : decode cX4_set 62 = .ok (.getfield 7, 3) := by decide +kernel
theorem dX4_set_65 : decode cX4_set 65 = .ok (.iconst 2, 1) := by decide +kernel
theorem dX4_set_66 : decode cX4_set 66 = .ok (.iload_n 1, 1) := by decide +kernel
theorem dX4_set_67 : decode cX4_set 67 = .ok (.iadd, 1) := by decide +kernel
theorem dX4_set_68 : decode cX4_set 68 = .ok (.iload_n 2, 1) := by decide +kernel
theorem dX4_set_69 : decode cX4_set 69 = .ok (.iastore, 1) := by decide +kernel
theorem dX4_set_70 : decode cX4_set 70 = .ok (.iload_n 3, 1) := by decide +kernel
theorem dX4_set_71 : decode cX4_set 71 = .ok (.ireturn, 1) := by decide +kernel
set_option maxRecDepth 20000 in
theorem ggX4_freed_X4_lock : GoodIn wsX4_freed wsX4_lock := goodIn_r _ [5, 6, 11, 12, 13, 14, 15, 16, 17, 18, 19, 20, 21, 22, 23, 24, 25, 26] (by decide +kernel) (by decide +kernel)
set_option maxRecDepth 20000 in
theorem gX4_freed_X4_lock : GoodIn wsX4_freed (wsV RX4 55 RX4 yX4_lock wsX4_lock) := goodIn_app (goodIn_of _ (by decide +kernel)) ggX4_freed_X4_lock
set_option maxRecDepth 20000 in
theorem ggX4_freed_X4_layLock : GoodIn wsX4_freed wsX4_layLock := goodIn_r _ [10, 6, 11, 12, 13, 14, 15, 16, 17, 18, 19, 20, 21, 22, 23, 24, 25, 26] (by decide +kernel) (by decide +kernel)
set_option maxRecDepth 20000 in
theorem gX4_freed_X4_layLock : GoodIn wsX4_freed (wsV RX4 81 RX4 yX4_layLock wsX4_layLock) := goodIn_app (goodIn_of _ (by decide +kernel)) ggX4_freed_X4_layLock
theorem dX4_freed_0 : decode cX4_freed 0 = .ok (.iconst 0, 1) := by decide +kernel
theorem dX4_freed_1 : decode cX4_freed 1 = .ok (.istore 4, 2) := by decide +kernel
theorem dX4_freed_3 : decode cX4_freed 3 = .ok (.iload_n 2, 1) := by decide +kernel
theorem dX4_freed_4 : decode cX4_freed 4 = .ok (.istore 5, 2) := by decide +kernel
theorem dX4_freed_6 : decode cX4_freed 6 = .ok (.iload 5, 2) := by decide +kernel
theorem dX4_freed_8 : decode cX4_freed 8 = .ok (.iload_n 3, 1) := by decide +kernel
theorem dX4_freed_9 : decode cX4_freed 9 = .ok (.if_icmp .ge 37, 3) := by decide +kernel
theorem dX4_freed_12 : decode cX4_freed 12 = .ok (.iload 4, 2) := by decide +kernel
theorem dX4_freed_14 : decode cX4_freed 14 = .ok (.aload_n 0, 1) := by decide +kernel
theorem dX4_freed_15 : decode cX4_freed 15 = .ok (.iload_n 1, 1) := by decide +kernel
theorem dX4_freed_16 : decode cX4_freed 16 = .ok (.iload 5, 2) := by decide +kernel
theorem dX4_freed_18 : decode cX4_freed 18 = .ok (.invokevirtual 55, 3) := by decide +kernel
theorem dX4_freed_21 : decode cX4_freed 21 = .ok (.ifCond .ne 7, 3) := by decide +kernel
theorem dX4_freed_24 : decode cX4_freed 24 = .ok (.iconst 0, 1) := by decide +kernel
theorem dX4_freed_25 : decode cX4_freed 25 = .ok (.goto 4, 3) := by decide +kernel
theorem dX4_freed_28 : decode cX4_freed 28 = .ok (.iconst 1, 1) := by decide +kernel
theorem dX4_freed_29 : decode cX4_freed 29 = .ok (.iadd, 1) := by decide +kernel
theorem dX4_freed_30 : decode cX4_freed 30 = .ok (.istore 4, 2) := by decide +kernel
theorem dX4_freed_32 : decode cX4_freed 32 = .ok (.aload_n 0, 1) := by decide +kernel
theorem dX4_freed_33 : decode cX4_freed 33 = .ok (.iload_n 1, 1) := by decide +kernel
theorem dX4_freed_34 : decode cX4_freed 34 = .ok (.iload 5, 2) := by decide +kernel
theorem dX4_freed_36 : decode cX4_freed 36 = .ok (.iconst 0, 1) := by decide +kernel
theorem dX4_freed_37 : decode cX4_freed 37 = .ok (.invokevirtual 81, 3) := by decide +kernel
theorem dX4_freed_40 : decode cX4_freed 40 = .ok (.iinc 5 1, 3) := by decide +kernel
theorem dX4_freed_43 : decode cX4_freed 43 = .ok (.goto (-37), 3) := by decide +kernel
theorem dX4_freed_46 : decode cX4_freed 46 = .ok (.iload 4, 2) := by decide +kernel
theorem dX4_freed_48 : decode cX4_freed 48 = .ok (.ireturn, 1) := by decide +kernel
set_option maxRecDepth 20000 in
theorem ggX4_tryFree_X4_isOwner : GoodIn wsX4_tryFree wsX4_isOwner := goodIn_r _ [4, 5, 6, 3, 7] (by decide +kernel) (by decide +kernel)
set_option maxRecDepth 20000 in
theorem gX4_tryFree_X4_isOwner : GoodIn wsX4_tryFree (va_wsS RX4 127 yX4_isOwner wsX4_isOwner) := goodIn_app (goodIn_of _ (by decide +kernel)) ggX4_tryFree_X4_isOwner
set_option maxRecDepth 20000 in
theorem ggX4_tryFree_X4_isRange : GoodIn wsX4_tryFree wsX4_isRange := goodIn_r _ [10, 5, 6, 3, 7] (by decide +kernel) (by decide +kernel)
set_option maxRecDepth 20000 in
theorem gX4_tryFree_X4_isRange : GoodIn wsX4_tryFree (va_wsS RX4 131 yX4_isRange wsX4_isRange) := goodIn_app (goodIn_of _ (by decide +kernel)) ggX4_tryFree_X4_isRange
set_option maxRecDepth 20000 in
theorem ggX4_tryFree_X4_keepIf : GoodIn wsX4_tryFree wsX4_keepIf := goodIn_r _ [14, 15, 16, 17, 3, 18, 19, 20, 21, 22, 86, 87, 88, 89, 90, 91, 92, 93, 94, 95, 96, 97, 98, 99, 100, 101] (by decide +kernel) (by decide +kernel)
set_option maxRecDepth 20000 in
theorem gX4_tryFree_X4_keepIf : GoodIn wsX4_tryFree (wsV RX4 134 RX4 yX4_keepIf wsX4_keepIf) := goodIn_app (goodIn_of _ (by decide +kernel)) ggX4_tryFree_X4_keepIf
set_option maxRecDepth 20000 in
theorem ggX4_tryFree_X4_freed : GoodIn wsX4_tryFree wsX4_freed := goodIn_r _ [26, 27, 28, 29, 3, 30, 22, 31, 32, 33, 34, 86, 87, 88, 89, 90, 91, 92, 93, 94, 95, 96, 97, 98, 99, 100, 101] (by decide +kernel) (by decide +kernel)
set_option maxRecDepth 20000 in
theorem gX4_tryFree_X4_freed : GoodIn wsX4_tryFree (wsV RX4 151 RX4 yX4_freed wsX4_freed) := goodIn_app (goodIn_of _ (by decide +kernel)) ggX4_tryFree_X4_freed
set_option maxRecDepth 20000 in
theorem ggX4_tryFree_X4_goThrough : GoodIn wsX4_tryFree wsX4_goThrough := goodIn_r _ [38, 39, 40, 41, 3, 42, 22, 43, 44, 45, 46, 47, 48, 49, 50, 51, 52, 53, 54, 55, 56, 57, 58, 59, 60, 61, 62, 27, 28, 29, 30, 63, 64, 65, 66, 67, 68, 69, 70, 71, 72, 73, 74, 75, 76, 77, 31, 32, 33, 34, 78, 79, 80, 81, 82, 83, 84, 85, 86, 87, 88, 89, 90, 91, 92, 93, 94, 95, 96, 97, 98, 99, 100, 101] (by decide +kernel) (by decide +kernel)
set_option maxRecDepth 20000 in
theorem gX4_tryFree_X4_goThrough : GoodIn wsX4_tryFree (wsV RX4 124 RX4 yX4_goThrough wsX4_goThrough) := goodIn_app (goodIn_of _ (by decide +kernel)) ggX4_tryFree_X4_goThrough
theorem dX4_tryFree_0 : decode cX4_tryFree 0 = .ok (.iload_n 1, 1) := by decide +kernel
theorem dX4_tryFree_1 : decode cX4_tryFree 1 = .ok (.invokestatic 127, 3) := by decide +kernel
theorem dX4_tryFree_4 : decode cX4_tryFree 4 = .ok (.ifCond .ne 5, 3) := by decide +kernel
theorem dX4_tryFree_7 : decode cX4_tryFree 7 = .ok (.iconst (-1), 1) := by decide +kernel
theorem dX4_tryFree_8 : decode cX4_tryFree 8 = .ok (.ireturn, 1) := by decide +kernel
theorem dX4_tryFree_9 : decode cX4_tryFree 9 = .ok (.iload_n 2, 1) := by decide +kernel
theorem dX4_tryFree_10 : decode cX4_tryFree 10 = .ok (.iload_n 3, 1) := by decide +kernel
theorem dX4_tryFree_11 : decode cX4_tryFree 11 = .ok (.invokestatic 131, 3) := by decide +kernel
theorem dX4_tryFree_14 : decode cX4_tryFree 14 = .ok (.ifCond .ne 6, 3) := by decide +kernel
theorem dX4_tryFree_17 : decode cX4_tryFree 17 = .ok (.bipush (-2), 2) := by decide +kernel
theorem dX4_tryFree_19 : decode cX4_tryFree 19 = .ok (.ireturn, 1) := by decide +kernel
theorem dX4_tryFree_20 : decode cX4_tryFree 20 = .ok (.aload_n 0, 1) := by decide +kernel
theorem dX4_tryFree_21 : decode cX4_tryFree 21 = .ok (.iload 4, 2) := by decide +kernel
theorem dX4_tryFree_23 : decode cX4_tryFree 23 = .ok (.invokevirtual 134, 3) := by decide +kernel
theorem dX4_tryFree_26 : decode cX4_tryFree 26 = .ok (.aload_n 0, 1) := by decide +kernel
theorem dX4_tryFree_27 : decode cX4_tryFree 27 = .ok (.iload_n 1, 1) := by decide +kernel
theorem dX4_tryFree_28 : decode cX4_tryFree 28 = .ok (.iload_n 2, 1) := by decide +kernel
theorem dX4_tryFree_29 : decode cX4_tryFree 29 = .ok (.iload_n 3, 1) := by decide +kernel
theorem dX4_tryFree_30 : decode cX4_tryFree 30 = .ok (.invokevirtual 151, 3) := by decide +kernel
theorem dX4_tryFree_33 : decode cX4_tryFree 33 = .ok (.istore 5, 2) := by decide +kernel
theorem dX4_tryFree_35 : decode cX4_tryFree 35 = .ok (.aload_n 0, 1) := by decide +kernel
theorem dX4_tryFree_36 : decode cX4_tryFree 36 = .ok (.invokevirtual 124, 3) := by decide +kernel
theorem dX4_tryFree_39 : decode cX4_tryFree 39 = .ok (.iload 5, 2) := by decide +kernel
theorem dX4_tryFree_41 : decode cX4_tryFree 41 = .ok (.ireturn, 1) := by decide +kernel
set_option maxRecDepth 20000 in
theorem ggX4_free_X4_tryFree : GoodIn wsX4_free wsX4_tryFree := goodIn_r _ [5, 6, 7, 4, 8, 9, 10, 11, 12, 13, 14, 15, 16, 17, 18, 19, 20, 21, 22, 23, 24, 25, 26, 27, 28, 29, 30, 31, 32, 33, 34, 35, 36, 37, 38, 39, 40, 41, 42, 43, 44, 45, 46, 47, 48, 49, 50, 51, 52, 53, 54, 55, 56, 57, 58, 59, 60, 61, 62, 63, 64, 65, 66, 67, 68, 69, 70, 71, 72, 73, 74, 75, 76, 77, 78, 79, 80, 81, 82, 83, 84, 85, 86, 87, 88, 89, 90, 91, 92, 93, 94, 95, 96, 97, 98, 99, 100, 101, 102, 103, 104, 105] (by decide +kernel) (by decide +kernel)
set_option maxRecDepth 20000 in
theorem gX4_free_X4_tryFree : GoodIn wsX4_free (wsV RX4 155 RX4 yX4_tryFree wsX4_tryFree) := goodIn_app (goodIn_of _ (by decide +kernel)) ggX4_free_X4_tryFree
theorem dX4_free_0 : decode cX4_free 0 = .ok (.aload_n 0, 1) := by decide +kernel
theorem dX4_free_1 : decode cX4_free 1 = .ok (.iload_n 1, 1) := by decide +kernel
theorem dX4_free_2 : decode cX4_free 2 = .ok (.iload_n 2, 1) := by decide +kernel
theorem dX4_free_3 : decode cX4_free 3 = .ok (.iload_n 3, 1) := by decide +kernel
theorem dX4_free_4 : decode cX4_free 4 = .ok (.iconst 1, 1) := by decide +kernel
theorem dX4_free_5 : decode cX4_free 5 = .ok (.invokevirtual 155, 3) := by decide +kernel
theorem dX4_free_8 : decode cX4_free 8 = .ok (.ireturn, 1) := by decide +kernel
set_option maxRecDepth 20000 in
theorem ggX4_tryCancel_X4_isOwner : GoodIn wsX4_tryCancel wsX4_isOwner := goodIn_r _ [4, 5, 6, 3, 7] (by decide +kernel) (by decide +kernel)
set_option maxRecDepth 20000 in
theorem gX4_tryCancel_X4_isOwner : GoodIn wsX4_tryCancel (va_wsS RX4 127 yX4_isOwner wsX4_isOwner) := goodIn_app (goodIn_of _ (by decide +kernel)) ggX4_tryCancel_X4_isOwner
set_option maxRecDepth 20000 in
theorem ggX4_tryCancel_X4_of : GoodIn wsX4_tryCancel wsX4_of := goodIn_r _ [11, 12, 79, 80, 81, 82, 83, 84, 85, 86, 87, 88, 89, 90, 91, 92, 93, 94] (by decide +kernel) (by decide +kernel)
set_option maxRecDepth 20000 in
theorem gX4_tryCancel_X4_of : GoodIn wsX4_tryCancel (wsV RX4 63 RX4 yX4_of wsX4_of) := goodIn_app (goodIn_of _ (by decide +kernel)) ggX4_tryCancel_X4_of
set_option maxRecDepth 20000 in
theorem ggX4_tryCancel_X4_keepIf : GoodIn wsX4_tryCancel wsX4_keepIf := goodIn_r _ [16, 17, 18, 19, 3, 20, 21, 22, 23, 12, 79, 80, 81, 82, 83, 84, 85, 86, 87, 88, 89, 90, 91, 92, 93, 94] (by decide +kernel) (by decide +kernel)
set_option maxRecDepth 20000 in
theorem gX4_tryCancel_X4_keepIf : GoodIn wsX4_tryCancel (wsV RX4 134 RX4 yX4_keepIf wsX4_keepIf) := goodIn_app (goodIn_of _ (by decide +kernel)) ggX4_tryCancel_X4_keepIf
set_option maxRecDepth 20000 in
theorem ggX4_tryCancel_X4_leaveRow : GoodIn wsX4_tryCancel wsX4_leaveRow := goodIn_r _ [27, 12, 28, 29, 30, 3, 31, 32, 33, 34, 35, 79, 80, 81, 82, 83, 84, 85, 86, 87, 88, 89, 90, 91, 92, 93, 94] (by decide +kernel) (by decide +kernel)
set_option maxRecDepth 20000 in
theorem gX4_tryCancel_X4_leaveRow : GoodIn wsX4_tryCancel (wsV RX4 102 RX4 yX4_leaveRow wsX4_leaveRow) := goodIn_app (goodIn_of _ (by decide +kernel)) ggX4_tryCancel_X4_leaveRow
set_option maxRecDepth 20000 in
theorem ggX4_tryCancel_X4_goThrough : GoodIn wsX4_tryCancel wsX4_goThrough := goodIn_r _ [39, 40, 41, 42, 3, 43, 12, 44, 45, 46, 47, 28, 29, 30, 31, 8, 9, 10, 11, 48, 49, 50, 51, 52, 53, 54, 55, 56, 57, 58, 59, 60, 61, 62, 63, 64, 65, 66, 32, 33, 34, 35, 67, 68, 69, 70, 71, 72, 73, 74, 75, 76, 77, 78, 24, 25, 26, 27, 79, 80, 81, 82, 83, 84, 85, 86, 87, 88, 89, 90, 91, 92, 93, 94] (by decide +kernel) (by decide +kernel)
set_option maxRecDepth 20000 in
theorem gX4_tryCancel_X4_goThrough : GoodIn wsX4_tryCancel (wsV RX4 124 RX4 yX4_goThrough wsX4_goThrough) := goodIn_app (goodIn_of _ (by decide +kernel)) ggX4_tryCancel_X4_goThrough
theorem dX4_tryCancel_0 : decode cX4_tryCancel 0 = .ok (.iload_n 1, 1) := by decide +kernel
theorem dX4_tryCancel_1 : decode cX4_tryCancel 1 = .ok (.invokestatic 127, 3) := by decide +kernel
theorem dX4_tryCancel_4 : decode cX4_tryCancel 4 = .ok (.ifCond .ne 5, 3) := by decide +kernel
theorem dX4_tryCancel_7 : decode cX4_tryCancel 7 = .ok (.iconst (-1), 1) := by decide +kernel
theorem dX4_tryCancel_8 : decode cX4_tryCancel 8 = .ok (.ireturn, 1) := by decide +kernel
theorem dX4_tryCancel_9 : decode cX4_tryCancel 9 = .ok (.aload_n 0, 1) := by decide +kernel
theorem dX4_tryCancel_10 : decode cX4_tryCancel 10 = .ok (.iload_n 1, 1) := by decide +kernel
theorem dX4_tryCancel_11 : decode cX4_tryCancel 11 = .ok (.iconst 0, 1) := by decide +kernel
theorem dX4_tryCancel_12 : decode cX4_tryCancel 12 = .ok (.invokevirtual 63, 3) := by decide +kernel
theorem dX4_tryCancel_15 : decode cX4_tryCancel 15 = .ok (.ifCond .ne 6, 3) := by decide +kernel
theorem dX4_tryCancel_18 : decode cX4_tryCancel 18 = .ok (.bipush (-5), 2) := by decide +kernel
theorem dX4_tryCancel_20 : decode cX4_tryCancel 20 = .ok (.ireturn, 1) := by decide +kernel
theorem dX4_tryCancel_21 : decode cX4_tryCancel 21 = .ok (.aload_n 0, 1) := by decide +kernel
theorem dX4_tryCancel_22 : decode cX4_tryCancel 22 = .ok (.iload_n 2, 1) := by decide +kernel
theorem dX4_tryCancel_23 : decode cX4_tryCancel 23 = .ok (.invokevirtual 134, 3) := by decide +kernel
theorem dX4_tryCancel_26 : decode cX4_tryCancel 26 = .ok (.aload_n 0, 1) := by decide +kernel
theorem dX4_tryCancel_27 : decode cX4_tryCancel 27 = .ok (.iload_n 1, 1) := by decide +kernel
theorem dX4_tryCancel_28 : decode cX4_tryCancel 28 = .ok (.iconst 3, 1) := by decide +kernel
theorem dX4_tryCancel_29 : decode cX4_tryCancel 29 = .ok (.invokevirtual 63, 3) := by decide +kernel
theorem dX4_tryCancel_32 : decode cX4_tryCancel 32 = .ok (.istore_n 3, 1) := by decide +kernel
theorem dX4_tryCancel_33 : decode cX4_tryCancel 33 = .ok (.aload_n 0, 1) := by decide +kernel
theorem dX4_tryCancel_34 : decode cX4_tryCancel 34 = .ok (.iload_n 1, 1) := by decide +kernel
theorem dX4_tryCancel_35 : decode cX4_tryCancel 35 = .ok (.invokevirtual 102, 3) := by decide +kernel
theorem dX4_tryCancel_38 : decode cX4_tryCancel 38 = .ok (.aload_n 0, 1) := by decide +kernel
theorem dX4_tryCancel_39 : decode cX4_tryCancel 39 = .ok (.invokevirtual 124, 3) := by decide +kernel
theorem dX4_tryCancel_42 : decode cX4_tryCancel 42 = .ok (.iload_n 3, 1) := by decide +kernel
theorem dX4_tryCancel_43 : decode cX4_tryCancel 43 = .ok (.ireturn, 1) := by decide +kernel
set_option maxRecDepth 20000 in
theorem ggX4_cancel_X4_tryCancel : GoodIn wsX4_cancel wsX4_tryCancel := goodIn_r _ [5, 6, 7, 4, 8, 9, 10, 11, 12, 13, 14, 15, 16, 17, 18, 19, 20, 21, 22, 23, 24, 25, 26, 27, 28, 29, 30, 31, 32, 33, 34, 35, 36, 37, 38, 39, 40, 41, 42, 43, 44, 45, 46, 47, 48, 49, 50, 51, 52, 53, 54, 55, 56, 57, 58, 59, 60, 61, 62, 63, 64, 65, 66, 67, 68, 69, 70, 71, 72, 73, 74, 75, 76, 77, 78, 79, 80, 81, 82, 83, 84, 85, 86, 87, 88, 89, 90, 91, 92, 93, 94, 95, 96, 97, 98] (by decide +kernel) (by decide +kernel)
set_option maxRecDepth 20000 in
theorem gX4_cancel_X4_tryCancel : GoodIn wsX4_cancel (wsV RX4 159 RX4 yX4_tryCancel wsX4_tryCancel) := goodIn_app (goodIn_of _ (by decide +kernel)) ggX4_cancel_X4_tryCancel
theorem dX4_cancel_0 : decode cX4_cancel 0 = .ok (.aload_n 0, 1) := by decide +kernel
theorem dX4_cancel_1 : decode cX4_cancel 1 = .ok (.iload_n 1, 1) := by decide +kernel
theorem dX4_cancel_2 : decode cX4_cancel 2 = .ok (.iconst 1, 1) := by decide +kernel
theorem dX4_cancel_3 : decode cX4_cancel 3 = .ok (.invokevirtual 159, 3) := by decide +kernel
theorem dX4_cancel_6 : decode cX4_cancel 6 = .ok (.ireturn, 1) := by decide +kernel
set_option maxRecDepth 20000 in
theorem ggX4_goAway_X4_of : GoodIn wsX4_goAway wsX4_of := goodIn_r _ [5, 6, 66, 67, 68, 69, 70, 71, 72, 73, 74, 75, 76, 77, 78, 79, 80, 81] (by decide +kernel) (by decide +kernel)
set_option maxRecDepth 20000 in
theorem gX4_goAway_X4_of : GoodIn wsX4_goAway (wsV RX4 63 RX4 yX4_of wsX4_of) := goodIn_app (goodIn_of _ (by decide +kernel)) ggX4_goAway_X4_of
set_option maxRecDepth 20000 in
theorem ggX4_goAway_X4_leaveRow : GoodIn wsX4_goAway wsX4_leaveRow := goodIn_r _ [10, 6, 11, 12, 13, 4, 14, 15, 16, 17, 18, 66, 67, 68, 69, 70, 71, 72, 73, 74, 75, 76, 77, 78, 79, 80, 81] (by decide +kernel) (by decide +kernel)
set_option maxRecDepth 20000 in
theorem gX4_goAway_X4_leaveRow : GoodIn wsX4_goAway (wsV RX4 102 RX4 yX4_leaveRow wsX4_leaveRow) := goodIn_app (goodIn_of _ (by decide +kernel)) ggX4_goAway_X4_leaveRow
set_option maxRecDepth 20000 in
theorem ggX4_goAway_X4_freed : GoodIn wsX4_goAway wsX4_freed := goodIn_r _ [22, 23, 24, 25, 4, 26, 6, 27, 28, 29, 30, 66, 67, 68, 69, 70, 71, 72, 73, 74, 75, 76, 77, 78, 79, 80, 81] (by decide +kernel) (by decide +kernel)
set_option maxRecDepth 20000 in
theorem gX4_goAway_X4_freed : GoodIn wsX4_goAway (wsV RX4 151 RX4 yX4_freed wsX4_freed) := goodIn_app (goodIn_of _ (by decide +kernel)) ggX4_goAway_X4_freed
set_option maxRecDepth 20000 in
theorem ggX4_goAway_X4_goThrough : GoodIn wsX4_goAway wsX4_goThrough := goodIn_r _ [34, 35, 36, 37, 4, 38, 6, 39, 40, 41, 42, 11, 12, 13, 14, 1, 2, 3, 5, 43, 44, 45, 46, 47, 48, 49, 50, 23, 24, 25, 26, 51, 52, 53, 54, 55, 56, 57, 15, 16, 17, 18, 58, 59, 60, 61, 27, 28, 29, 30, 62, 63, 64, 65, 7, 8, 9, 10, 66, 67, 68, 69, 70, 71, 72, 73, 74, 75, 76, 77, 78, 79, 80, 81] (by decide +kernel) (by decide +kernel)
set_option maxRecDepth 20000 in
theorem gX4_goAway_X4_goThrough : GoodIn wsX4_goAway (wsV RX4 124 RX4 yX4_goThrough wsX4_goThrough) := goodIn_app (goodIn_of _ (by decide +kernel)) ggX4_goAway_X4_goThrough
theorem dX4_goAway_0 : decode cX4_goAway 0 = .ok (.aload_n 0, 1) := by decide +kernel
theorem dX4_goAway_1 : decode cX4_goAway 1 = .ok (.iload_n 1, 1) := by decide +kernel
theorem dX4_goAway_2 : decode cX4_goAway 2 = .ok (.iconst 0, 1) := by decide +kernel
theorem dX4_goAway_3 : decode cX4_goAway 3 = .ok (.invokevirtual 63, 3) := by decide +kernel
theorem dX4_goAway_6 : decode cX4_goAway 6 = .ok (.ifCond .le 8, 3) := by decide +kernel
theorem dX4_goAway_9 : decode cX4_goAway 9 = .ok (.aload_n 0, 1) := by decide +kernel
theorem dX4_goAway_10 : decode cX4_goAway 10 = .ok (.iload_n 1, 1) := by decide +kernel
theorem dX4_goAway_11 : decode cX4_goAway 11 = .ok (.invokevirtual 102, 3) := by decide +kernel
theorem dX4_goAway_14 : decode cX4_goAway 14 = .ok (.aload_n 0, 1) := by decide +kernel
theorem dX4_goAway_15 : decode cX4_goAway 15 = .ok (.iload_n 1, 1) := by decide +kernel
theorem dX4_goAway_16 : decode cX4_goAway 16 = .ok (.iconst 0, 1) := by decide +kernel
theorem dX4_goAway_17 : decode cX4_goAway 17 = .ok (.sipush 300, 3) := by decide +kernel
theorem dX4_goAway_20 : decode cX4_goAway 20 = .ok (.invokevirtual 151, 3) := by decide +kernel
theorem dX4_goAway_23 : decode cX4_goAway 23 = .ok (.istore_n 2, 1) := by decide +kernel
theorem dX4_goAway_24 : decode cX4_goAway 24 = .ok (.aload_n 0, 1) := by decide +kernel
theorem dX4_goAway_25 : decode cX4_goAway 25 = .ok (.invokevirtual 124, 3) := by decide +kernel
theorem dX4_goAway_28 : decode cX4_goAway 28 = .ok (.iload_n 2, 1) := by decide +kernel
theorem dX4_goAway_29 : decode cX4_goAway 29 = .ok (.ireturn, 1) := by decide +kernel
set_option maxRecDepth 20000 in
theorem ggX4_tryLeave_X4_isOwner : GoodIn wsX4_tryLeave wsX4_isOwner := goodIn_r _ [4, 5, 6, 3, 7] (by decide +kernel) (by decide +kernel)
set_option maxRecDepth 20000 in
theorem gX4_tryLeave_X4_isOwner : GoodIn wsX4_tryLeave (va_wsS RX4 127 yX4_isOwner wsX4_isOwner) := goodIn_app (goodIn_of _ (by decide +kernel)) ggX4_tryLeave_X4_isOwner
set_option maxRecDepth 20000 in
theorem ggX4_tryLeave_X4_keepIf : GoodIn wsX4_tryLeave wsX4_keepIf := goodIn_r _ [11, 12, 13, 14, 3, 15, 16, 17, 18, 19, 87, 88, 89, 90, 91, 92, 93, 94, 95, 96, 97, 98, 99, 100, 101, 102] (by decide +kernel) (by decide +kernel)
set_option maxRecDepth 20000 in
theorem gX4_tryLeave_X4_keepIf : GoodIn wsX4_tryLeave (wsV RX4 134 RX4 yX4_keepIf wsX4_keepIf) := goodIn_app (goodIn_of _ (by decide +kernel)) ggX4_tryLeave_X4_keepIf
set_option maxRecDepth 20000 in
theorem ggX4_tryLeave_X4_goAway : GoodIn wsX4_tryLeave wsX4_goAway := goodIn_r _ [23, 24, 25, 26, 3, 27, 19, 28, 29, 30, 31, 32, 33, 34, 35, 36, 37, 38, 39, 40, 41, 42, 43, 44, 45, 46, 47, 48, 49, 50, 51, 52, 53, 54, 55, 56, 57, 58, 59, 60, 61, 62, 63, 64, 65, 66, 67, 68, 69, 70, 71, 72, 73, 74, 75, 76, 77, 78, 79, 80, 81, 82, 83, 84, 85, 86, 87, 88, 89, 90, 91, 92, 93, 94, 95, 96, 97, 98, 99, 100, 101, 102] (by decide +kernel) (by decide +kernel)
set_option maxRecDepth 20000 in
theorem gX4_tryLeave_X4_goAway : GoodIn wsX4_tryLeave (wsV RX4 163 RX4 yX4_goAway wsX4_goAway) := goodIn_app (goodIn_of _ (by decide +kernel)) ggX4_tryLeave_X4_goAway
theorem dX4_tryLeave_0 : decode cX4_tryLeave 0 = .ok (.iload_n 1, 1) := by decide +kernel
theorem dX4_tryLeave_1 : decode cX4_tryLeave 1 = .ok (.invokestatic 127, 3) := by decide +kernel
theorem dX4_tryLeave_4 : decode cX4_tryLeave 4 = .ok (.ifCond .ne 5, 3) := by decide +kernel
theorem dX4_tryLeave_7 : decode cX4_tryLeave 7 = .ok (.iconst (-1), 1) := by decide +kernel
theorem dX4_tryLeave_8 : decode cX4_tryLeave 8 = .ok (.ireturn, 1) := by decide +kernel
theorem dX4_tryLeave_9 : decode cX4_tryLeave 9 = .ok (.aload_n 0, 1) := by decide +kernel
theorem dX4_tryLeave_10 : decode cX4_tryLeave 10 = .ok (.iload_n 2, 1) := by decide +kernel
theorem dX4_tryLeave_11 : decode cX4_tryLeave 11 = .ok (.invokevirtual 134, 3) := by decide +kernel
theorem dX4_tryLeave_14 : decode cX4_tryLeave 14 = .ok (.aload_n 0, 1) := by decide +kernel
theorem dX4_tryLeave_15 : decode cX4_tryLeave 15 = .ok (.iload_n 1, 1) := by decide +kernel
theorem dX4_tryLeave_16 : decode cX4_tryLeave 16 = .ok (.invokevirtual 163, 3) := by decide +kernel
theorem dX4_tryLeave_19 : decode cX4_tryLeave 19 = .ok (.ireturn, 1) := by decide +kernel
set_option maxRecDepth 20000 in
theorem ggX4_leave_X4_tryLeave : GoodIn wsX4_leave wsX4_tryLeave := goodIn_r _ [5, 6, 7, 4, 8, 9, 10, 11, 12, 13, 14, 15, 16, 17, 18, 19, 20, 21, 22, 23, 24, 25, 26, 27, 28, 29, 30, 31, 32, 33, 34, 35, 36, 37, 38, 39, 40, 41, 42, 43, 44, 45, 46, 47, 48, 49, 50, 51, 52, 53, 54, 55, 56, 57, 58, 59, 60, 61, 62, 63, 64, 65, 66, 67, 68, 69, 70, 71, 72, 73, 74, 75, 76, 77, 78, 79, 80, 81, 82, 83, 84, 85, 86, 87, 88, 89, 90, 91, 92, 93, 94, 95, 96, 97, 98, 99, 100, 101, 102, 103, 104, 105, 106] (by decide +kernel) (by decide +kernel)
set_option maxRecDepth 20000 in
theorem gX4_leave_X4_tryLeave : GoodIn wsX4_leave (wsV RX4 166 RX4 yX4_tryLeave wsX4_tryLeave) := goodIn_app (goodIn_of _ (by decide +kernel)) ggX4_leave_X4_tryLeave
theorem dX4_leave_0 : decode cX4_leave 0 = .ok (.aload_n 0, 1) := by decide +kernel
theorem dX4_leave_1 : decode cX4_leave 1 = .ok (.iload_n 1, 1) := by decide +kernel
theorem dX4_leave_2 : decode cX4_leave 2 = .ok (.iconst 1, 1) := by decide +kernel
theorem dX4_leave_3 : decode cX4_leave 3 = .ok (.invokevirtual 166, 3) := by decide +kernel
theorem dX4_leave_6 : decode cX4_leave 6 = .ok (.ireturn, 1) := by decide +kernel
set_option maxRecDepth 20000 in
theorem ggX4_sendAway_X4_of : GoodIn wsX4_sendAway wsX4_of := goodIn_r _ [6, 1, 19, 20, 21, 22, 23, 24, 25, 26, 27, 28, 29, 30, 31, 32, 33, 34] (by decide +kernel) (by decide +kernel)
set_option maxRecDepth 20000 in
theorem gX4_sendAway_X4_of : GoodIn wsX4_sendAway (wsV RX4 63 RX4 yX4_of wsX4_of) := goodIn_app (goodIn_of _ (by decide +kernel)) ggX4_sendAway_X4_of
set_option maxRecDepth 20000 in
theorem ggX4_sendAway_X4_leaveRow : GoodIn wsX4_sendAway wsX4_leaveRow := goodIn_r _ [10, 1, 11, 12, 13, 5, 14, 15, 16, 17, 18, 19, 20, 21, 22, 23, 24, 25, 26, 27, 28, 29, 30, 31, 32, 33, 34] (by decide +kernel) (by decide +kernel)
set_option maxRecDepth 20000 in
theorem gX4_sendAway_X4_leaveRow : GoodIn wsX4_sendAway (wsV RX4 102 RX4 yX4_leaveRow wsX4_leaveRow) := goodIn_app (goodIn_of _ (by decide +kernel)) ggX4_sendAway_X4_leaveRow
theorem dX4_sendAway_0 : decode cX4_sendAway 0 = .ok (.iconst 0, 1) := by decide +kernel
theorem dX4_sendAway_1 : decode cX4_sendAway 1 = .ok (.istore_n 1, 1) := by decide +kernel
theorem dX4_sendAway_2 : decode cX4_sendAway 2 = .ok (.iconst 0, 1) := by decide +kernel
theorem dX4_sendAway_3 : decode cX4_sendAway 3 = .ok (.istore_n 2, 1) := by decide +kernel
theorem dX4_sendAway_4 : decode cX4_sendAway 4 = .ok (.iload_n 2, 1) := by decide +kernel
theorem dX4_sendAway_5 : decode cX4_sendAway 5 = .ok (.bipush 8, 2) := by decide +kernel
theorem dX4_sendAway_7 : decode cX4_sendAway 7 = .ok (.if_icmp .ge 50, 3) := by decide +kernel
theorem dX4_sendAway_10 : decode cX4_sendAway 10 = .ok (.aload_n 0, 1) := by decide +kernel
theorem dX4_sendAway_11 : decode cX4_sendAway 11 = .ok (.getfield 7, 3) := by decide +kernel
theorem dX4_sendAway_14 : decode cX4_sendAway 14 = .ok (.iconst 4, 1) := by decide +kernel
theorem dX4_sendAway_15 : decode cX4_sendAway 15 = .ok (.iaload, 1) := by decide +kernel
theorem dX4_sendAway_16 : decode cX4_sendAway 16 = .ok (.ifCond .le 41, 3) := by decide +kernel
theorem dX4_sendAway_19 : decode cX4_sendAway 19 = .ok (.aload_n 0, 1) := by decide +kernel
theorem dX4_sendAway_20 : decode cX4_sendAway 20 = .ok (.iload_n 2, 1) := by decide +kernel
theorem dX4_sendAway_21 : decode cX4_sendAway 21 = .ok (.iconst 0, 1) := by decide +kernel
theorem dX4_sendAway_22 : decode cX4_sendAway 22 = .ok (.invokevirtual 63, 3) := by decide +kernel
theorem dX4_sendAway_25 : decode cX4_sendAway 25 = .ok (.ifCond .le 26, 3) := by decide +kernel
theorem dX4_sendAway_28 : decode cX4_sendAway 28 = .ok (.aload_n 0, 1) := by decide +kernel
theorem dX4_sendAway_29 : decode cX4_sendAway 29 = .ok (.iload_n 2, 1) := by decide +kernel
theorem dX4_sendAway_30 : decode cX4_sendAway 30 = .ok (.iconst 3, 1) := by decide +kernel
theorem dX4_sendAway_31 : decode cX4_sendAway 31 = .ok (.invokevirtual 63, 3) := by decide +kernel
theorem dX4_sendAway_34 : decode cX4_sendAway 34 = .ok (.aload_n 0, 1) := by decide +kernel
theorem dX4_sendAway_35 : decode cX4_sendAway 35 = .ok (.getfield 7, 3) := by decide +kernel
theorem dX4_sendAway_38 : decode cX4_sendAway 38 = .ok (.iconst 4, 1) := by decide +kernel
theorem dX4_sendAway_39 : decode cX4_sendAway 39 = .ok (.iaload, 1) := by decide +kernel
theorem dX4_sendAway_40 : decode cX4_sendAway 40 = .ok (.if_icmp .lt 11, 3) := by decide +kernel
theorem dX4_sendAway_43 : decode cX4_sendAway 43 = .ok (.aload_n 0, 1) := by decide +kernel
theorem dX4_sendAway_44 : decode cX4_sendAway 44 = .ok (.iload_n 2, 1) := by decide +kernel
theorem dX4_sendAway_45 : decode cX4_sendAway 45 = .ok (.invokevirtual 102, 3) := by decide +kernel
theorem dX4_sendAway_48 : decode cX4_sendAway 48 = .ok (.iinc 1 1, 3) := by decide +kernel
theorem dX4_sendAway_51 : decode cX4_sendAway 51 = .ok (.iinc 2 1, 3) := by decide +kernel
theorem dX4_sendAway_54 : decode cX4_sendAway 54 = .ok (.goto (-50), 3) := by decide +kernel
theorem dX4_sendAway_57 : decode cX4_sendAway 57 = .ok (.aload_n 0, 1) := by decide +kernel
theorem dX4_sendAway_58 : decode cX4_sendAway 58 = .ok (.getfield 7, 3) := by decide +kernel
theorem dX4_sendAway_61 : decode cX4_sendAway 61 = .ok (.iconst 5, 1) := by decide +kernel
theorem dX4_sendAway_62 : decode cX4_sendAway 62 = .ok (.dup2, 1) := by decide +kernel
theorem dX4_sendAway_63 : decode cX4_sendAway 63 = .ok (.iaload, 1) := by decide +kernel
theorem dX4_sendAway_64 : decode cX4_sendAway 64 = .ok (.iload_n 1, 1) := by decide +kernel
theorem dX4_sendAway_65 : decode cX4_sendAway 65 = .ok (.iadd, 1) := by decide +kernel
theorem dX4_sendAway_66 : decode cX4_sendAway 66 = .ok (.iastore, 1) := by decide +kernel
theorem dX4_sendAway_67 : decode cX4_sendAway 67 = .ok (.iload_n 1, 1) := by decide +kernel
theorem dX4_sendAway_68 : decode cX4_sendAway 68 = .ok (.ireturn, 1) := by decide +kernel
set_option maxRecDepth 20000 in
theorem ggX4_tryTicks_X4_in : GoodIn wsX4_tryTicks wsX4_in := goodIn_r _ [5] (by decide +kernel) (by decide +kernel)
set_option maxRecDepth 20000 in
theorem gX4_tryTicks_X4_in : GoodIn wsX4_tryTicks (va_wsS RX4 41 yX4_in wsX4_in) := goodIn_app (goodIn_of _ (by decide +kernel)) ggX4_tryTicks_X4_in
set_option maxRecDepth 20000 in
theorem ggX4_tryTicks_X4_keepIf : GoodIn wsX4_tryTicks wsX4_keepIf := goodIn_r _ [9, 10, 11, 12, 4, 13, 14, 15, 16, 1, 80, 81, 82, 83, 84, 85, 86, 87, 88, 89, 90, 91, 92, 93, 94, 95] (by decide +kernel) (by decide +kernel)
set_option maxRecDepth 20000 in
theorem gX4_tryTicks_X4_keepIf : GoodIn wsX4_tryTicks (wsV RX4 134 RX4 yX4_keepIf wsX4_keepIf) := goodIn_app (goodIn_of _ (by decide +kernel)) ggX4_tryTicks_X4_keepIf
set_option maxRecDepth 20000 in
theorem ggX4_tryTicks_X4_of : GoodIn wsX4_tryTicks wsX4_of := goodIn_r _ [20, 1, 80, 81, 82, 83, 84, 85, 86, 87, 88, 89, 90, 91, 92, 93, 94, 95] (by decide +kernel) (by decide +kernel)
set_option maxRecDepth 20000 in
theorem gX4_tryTicks_X4_of : GoodIn wsX4_tryTicks (wsV RX4 63 RX4 yX4_of wsX4_of) := goodIn_app (goodIn_of _ (by decide +kernel)) ggX4_tryTicks_X4_of
set_option maxRecDepth 20000 in
theorem ggX4_tryTicks_X4_more : GoodIn wsX4_tryTicks wsX4_more := goodIn_r _ [24, 1, 80, 81, 82, 83, 84, 85, 86, 87, 88, 89, 90, 91, 92, 93, 94, 95] (by decide +kernel) (by decide +kernel)
set_option maxRecDepth 20000 in
theorem gX4_tryTicks_X4_more : GoodIn wsX4_tryTicks (wsV RX4 85 RX4 yX4_more wsX4_more) := goodIn_app (goodIn_of _ (by decide +kernel)) ggX4_tryTicks_X4_more
set_option maxRecDepth 20000 in
theorem ggX4_tryTicks_X4_sendAway : GoodIn wsX4_tryTicks wsX4_sendAway := goodIn_r _ [28, 1, 17, 18, 19, 4, 20, 29, 30, 31, 32, 33, 34, 35, 36, 37, 38, 39, 40, 80, 81, 82, 83, 84, 85, 86, 87, 88, 89, 90, 91, 92, 93, 94, 95] (by decide +kernel) (by decide +kernel)
set_option maxRecDepth 20000 in
theorem gX4_tryTicks_X4_sendAway : GoodIn wsX4_tryTicks (wsV RX4 169 RX4 yX4_sendAway wsX4_sendAway) := goodIn_app (goodIn_of _ (by decide +kernel)) ggX4_tryTicks_X4_sendAway
set_option maxRecDepth 20000 in
theorem ggX4_tryTicks_X4_goThrough : GoodIn wsX4_tryTicks wsX4_goThrough := goodIn_r _ [44, 45, 46, 47, 4, 48, 1, 49, 50, 51, 52, 33, 34, 35, 36, 17, 18, 19, 20, 53, 54, 55, 56, 57, 58, 59, 60, 61, 62, 63, 64, 65, 66, 67, 68, 69, 70, 71, 37, 38, 39, 40, 72, 73, 74, 75, 76, 77, 78, 79, 21, 22, 23, 24, 29, 30, 31, 32, 80, 81, 82, 83, 84, 85, 86, 87, 88, 89, 90, 91, 92, 93, 94, 95] (by decide +kernel) (by decide +kernel)
set_option maxRecDepth 20000 in
theorem gX4_tryTicks_X4_goThrough : GoodIn wsX4_tryTicks (wsV RX4 124 RX4 yX4_goThrough wsX4_goThrough) := goodIn_app (goodIn_of _ (by decide +kernel)) ggX4_tryTicks_X4_goThrough
theorem dX4_tryTicks_0 : decode cX4_tryTicks 0 = .ok (.iload_n 1, 1) := by decide +kernel
theorem dX4_tryTicks_1 : decode cX4_tryTicks 1 = .ok (.iconst 1, 1) := by decide +kernel
theorem dX4_tryTicks_2 : decode cX4_tryTicks 2 = .ok (.sipush 300, 3) := by decide +kernel
theorem dX4_tryTicks_5 : decode cX4_tryTicks 5 = .ok (.invokestatic 41, 3) := by decide +kernel
theorem dX4_tryTicks_8 : decode cX4_tryTicks 8 = .ok (.ifCond .ne 6, 3) := by decide +kernel
theorem dX4_tryTicks_11 : decode cX4_tryTicks 11 = .ok (.bipush (-2), 2) := by decide +kernel
theorem dX4_tryTicks_13 : decode cX4_tryTicks 13 = .ok (.ireturn, 1) := by decide +kernel
theorem dX4_tryTicks_14 : decode cX4_tryTicks 14 = .ok (.aload_n 0, 1) := by decide +kernel
theorem dX4_tryTicks_15 : decode cX4_tryTicks 15 = .ok (.iload_n 2, 1) := by decide +kernel
theorem dX4_tryTicks_16 : decode cX4_tryTicks 16 = .ok (.invokevirtual 134, 3) := by decide +kernel
theorem dX4_tryTicks_19 : decode cX4_tryTicks 19 = .ok (.iconst 0, 1) := by decide +kernel
theorem dX4_tryTicks_20 : decode cX4_tryTicks 20 = .ok (.istore_n 3, 1) := by decide +kernel
theorem dX4_tryTicks_21 : decode cX4_tryTicks 21 = .ok (.iconst 0, 1) := by decide +kernel
theorem dX4_tryTicks_22 : decode cX4_tryTicks 22 = .ok (.istore 4, 2) := by decide +kernel
theorem dX4_tryTicks_24 : decode cX4_tryTicks 24 = .ok (.iload 4, 2) := by decide +kernel
theorem dX4_tryTicks_26 : decode cX4_tryTicks 26 = .ok (.iload_n 1, 1) := by decide +kernel
theorem dX4_tryTicks_27 : decode cX4_tryTicks 27 = .ok (.if_icmp .ge 68, 3) := by decide +kernel
theorem dX4_tryTicks_30 : decode cX4_tryTicks 30 = .ok (.iconst 0, 1) := by decide +kernel
theorem dX4_tryTicks_31 : decode cX4_tryTicks 31 = .ok (.istore 5, 2) := by decide +kernel
theorem dX4_tryTicks_33 : decode cX4_tryTicks 33 = .ok (.iload 5, 2) := by decide +kernel
theorem dX4_tryTicks_35 : decode cX4_tryTicks 35 = .ok (.bipush 8, 2) := by decide +kernel
theorem dX4_tryTicks_37 : decode cX4_tryTicks 37 = .ok (.if_icmp .ge 31, 3) := by decide +kernel
theorem dX4_tryTicks_40 : decode cX4_tryTicks 40 = .ok (.aload_n 0, 1) := by decide +kernel
theorem dX4_tryTicks_41 : decode cX4_tryTicks 41 = .ok (.iload 5, 2) := by decide +kernel
theorem dX4_tryTicks_43 : decode cX4_tryTicks 43 = .ok (.iconst 3, 1) := by decide +kernel
theorem dX4_tryTicks_44 : decode cX4_tryTicks 44 = .ok (.aload_n 0, 1) := by decide +kernel
theorem dX4_tryTicks_45 : decode cX4_tryTicks 45 = .ok (.iload 5, 2) := by decide +kernel
theorem dX4_tryTicks_47 : decode cX4_tryTicks 47 = .ok (.iconst 0, 1) := by decide +kernel
theorem dX4_tryTicks_48 : decode cX4_tryTicks 48 = .ok (.invokevirtual 63, 3) := by decide +kernel
theorem dX4_tryTicks_51 : decode cX4_tryTicks 51 = .ok (.ifCond .le 7, 3) := by decide +kernel
theorem dX4_tryTicks_54 : decode cX4_tryTicks 54 = .ok (.iconst 1, 1) := by decide +kernel
theorem dX4_tryTicks_55 : decode cX4_tryTicks 55 = .ok (.goto 4, 3) := by decide +kernel
theorem dX4_tryTicks_58 : decode cX4_tryTicks 58 = .ok (.iconst 0, 1) := by decide +kernel
theorem dX4_tryTicks_59 : decode cX4_tryTicks 59 = .ok (.invokevirtual 85, 3) := by decide +kernel
theorem dX4_tryTicks_62 : decode cX4_tryTicks 62 = .ok (.iinc 5 1, 3) := by decide +kernel
theorem dX4_tryTicks_65 : decode cX4_tryTicks 65 = .ok (.goto (-32), 3) := by decide +kernel
theorem dX4_tryTicks_68 : decode cX4_tryTicks 68 = .ok (.iload_n 3, 1) := by decide +kernel
theorem dX4_tryTicks_69 : decode cX4_tryTicks 69 = .ok (.aload_n 0, 1) := by decide +kernel
theorem dX4_tryTicks_70 : decode cX4_tryTicks 70 = .ok (.invokevirtual 169, 3) := by decide +kernel
theorem dX4_tryTicks_73 : decode cX4_tryTicks 73 = .ok (.iadd, 1) := by decide +kernel
theorem dX4_tryTicks_74 : decode cX4_tryTicks 74 = .ok (.istore_n 3, 1) := by decide +kernel
theorem dX4_tryTicks_75 : decode cX4_tryTicks 75 = .ok (.aload_n 0, 1) := by decide +kernel
theorem dX4_tryTicks_76 : decode cX4_tryTicks 76 = .ok (.invokevirtual 124, 3) := by decide +kernel
theorem dX4_tryTicks_79 : decode cX4_tryTicks 79 = .ok (.aload_n 0, 1) := by decide +kernel
theorem dX4_tryTicks_80 : decode cX4_tryTicks 80 = .ok (.getfield 7, 3) := by decide +kernel
theorem dX4_tryTicks_83 : decode cX4_tryTicks 83 = .ok (.iconst 0, 1) := by decide +kernel
theorem dX4_tryTicks_84 : decode cX4_tryTicks 84 = .ok (.dup2, 1) := by decide +kernel
theorem dX4_tryTicks_85 : decode cX4_tryTicks 85 = .ok (.iaload, 1) := by decide +kernel
theorem dX4_tryTicks_86 : decode cX4_tryTicks 86 = .ok (.iconst 1, 1) := by decide +kernel
theorem dX4_tryTicks_87 : decode cX4_tryTicks 87 = .ok (.iadd, 1) := by decide +kernel
theorem dX4_tryTicks_88 : decode cX4_tryTicks 88 = .ok (.iastore, 1) := by decide +kernel
theorem dX4_tryTicks_89 : decode cX4_tryTicks 89 = .ok (.iinc 4 1, 3) := by decide +kernel
theorem dX4_tryTicks_92 : decode cX4_tryTicks 92 = .ok (.goto (-68), 3) := by decide +kernel
theorem dX4_tryTicks_95 : decode cX4_tryTicks 95 = .ok (.iload_n 3, 1) := by decide +kernel
theorem dX4_tryTicks_96 : decode cX4_tryTicks 96 = .ok (.ireturn, 1) := by decide +kernel
set_option maxRecDepth 20000 in
theorem ggX4_ticks_X4_tryTicks : GoodIn wsX4_ticks wsX4_tryTicks := goodIn_r _ [5, 6, 7, 8, 4, 9, 10, 11, 12, 13, 14, 15, 16, 17, 18, 19, 20, 21, 22, 23, 24, 25, 26, 27, 28, 29, 30, 31, 32, 33, 34, 35, 36, 37, 38, 39, 40, 41, 42, 43, 44, 45, 46, 47, 48, 49, 50, 51, 52, 53, 54, 55, 56, 57, 58, 59, 60, 61, 62, 63, 64, 65, 66, 67, 68, 69, 70, 71, 72, 73, 74, 75, 76, 77, 78, 79, 80, 81, 82, 83, 84, 85, 86, 87, 88, 89, 90, 91, 92, 93, 94, 95, 96, 97, 98, 99] (by decide +kernel) (by decide +kernel)
set_option maxRecDepth 20000 in
theorem gX4_ticks_X4_tryTicks : GoodIn wsX4_ticks (wsV RX4 172 RX4 yX4_tryTicks wsX4_tryTicks) := goodIn_app (goodIn_of _ (by decide +kernel)) ggX4_ticks_X4_tryTicks
theorem dX4_ticks_0 : decode cX4_ticks 0 = .ok (.aload_n 0, 1) := by decide +kernel
theorem dX4_ticks_1 : decode cX4_ticks 1 = .ok (.iload_n 1, 1) := by decide +kernel
theorem dX4_ticks_2 : decode cX4_ticks 2 = .ok (.iconst 1, 1) := by decide +kernel
theorem dX4_ticks_3 : decode cX4_ticks 3 = .ok (.invokevirtual 172, 3) := by decide +kernel
theorem dX4_ticks_6 : decode cX4_ticks 6 = .ok (.ireturn, 1) := by decide +kernel
set_option maxRecDepth 20000 in
theorem ggX4_at_X4_isOwner : GoodIn wsX4_at wsX4_isOwner := goodIn_r _ [4, 5, 6, 3, 7] (by decide +kernel) (by decide +kernel)
set_option maxRecDepth 20000 in
theorem gX4_at_X4_isOwner : GoodIn wsX4_at (va_wsS RX4 127 yX4_isOwner wsX4_isOwner) := goodIn_app (goodIn_of _ (by decide +kernel)) ggX4_at_X4_isOwner
set_option maxRecDepth 20000 in
theorem ggX4_at_X4_in : GoodIn wsX4_at wsX4_in := goodIn_r _ [7] (by decide +kernel) (by decide +kernel)
set_option maxRecDepth 20000 in
theorem gX4_at_X4_in : GoodIn wsX4_at (va_wsS RX4 41 yX4_in wsX4_in) := goodIn_app (goodIn_of _ (by decide +kernel)) ggX4_at_X4_in
set_option maxRecDepth 20000 in
theorem ggX4_at_X4_lock : GoodIn wsX4_at wsX4_lock := goodIn_r _ [11, 12, 13, 14, 15, 16, 17, 18, 19, 20, 21, 22, 23, 24, 25, 26, 27, 28] (by decide +kernel) (by decide +kernel)
set_option maxRecDepth 20000 in
theorem gX4_at_X4_lock : GoodIn wsX4_at (wsV RX4 55 RX4 yX4_lock wsX4_lock) := goodIn_app (goodIn_of _ (by decide +kernel)) ggX4_at_X4_lock
theorem dX4_at_0 : decode cX4_at 0 = .ok (.iload_n 1, 1) := by decide +kernel
theorem dX4_at_1 : decode cX4_at 1 = .ok (.invokestatic 127, 3) := by decide +kernel
theorem dX4_at_4 : decode cX4_at 4 = .ok (.ifCond .eq 23, 3) := by decide +kernel
theorem dX4_at_7 : decode cX4_at 7 = .ok (.iload_n 2, 1) := by decide +kernel
theorem dX4_at_8 : decode cX4_at 8 = .ok (.iconst 0, 1) := by decide +kernel
theorem dX4_at_9 : decode cX4_at 9 = .ok (.sipush 299, 3) := by decide +kernel
theorem dX4_at_12 : decode cX4_at 12 = .ok (.invokestatic 41, 3) := by decide +kernel
theorem dX4_at_15 : decode cX4_at 15 = .ok (.ifCond .eq 12, 3) := by decide +kernel
theorem dX4_at_18 : decode cX4_at 18 = .ok (.aload_n 0, 1) := by decide +kernel
theorem dX4_at_19 : decode cX4_at 19 = .ok (.iload_n 1, 1) := by decide +kernel
theorem dX4_at_20 : decode cX4_at 20 = .ok (.iload_n 2, 1) := by decide +kernel
theorem dX4_at_21 : decode cX4_at 21 = .ok (.invokevirtual 55, 3) := by decide +kernel
theorem dX4_at_24 : decode cX4_at 24 = .ok (.goto 4, 3) := by decide +kernel
theorem dX4_at_27 : decode cX4_at 27 = .ok (.iconst (-1), 1) := by decide +kernel
theorem dX4_at_28 : decode cX4_at 28 = .ok (.ireturn, 1) := by decide +kernel
set_option maxRecDepth 20000 in
theorem ggX4_owners_X4_in : GoodIn wsX4_owners wsX4_in := goodIn_r _ [4] (by decide +kernel) (by decide +kernel)
set_option maxRecDepth 20000 in
theorem gX4_owners_X4_in : GoodIn wsX4_owners (va_wsS RX4 41 yX4_in wsX4_in) := goodIn_app (goodIn_of _ (by decide +kernel)) ggX4_owners_X4_in
set_option maxRecDepth 20000 in
theorem ggX4_owners_X4_lock : GoodIn wsX4_owners wsX4_lock := goodIn_r _ [8, 9, 10, 11, 12, 13, 14, 15, 16, 17, 18, 19, 20, 21, 22, 23, 24, 25] (by decide +kernel) (by decide +kernel)
set_option maxRecDepth 20000 in
theorem gX4_owners_X4_lock : GoodIn wsX4_owners (wsV RX4 55 RX4 yX4_lock wsX4_lock) := goodIn_app (goodIn_of _ (by decide +kernel)) ggX4_owners_X4_lock
theorem dX4_owners_0 : decode cX4_owners 0 = .ok (.iload_n 1, 1) := by decide +kernel
theorem dX4_owners_1 : decode cX4_owners 1 = .ok (.iconst 0, 1) := by decide +kernel
theorem dX4_owners_2 : decode cX4_owners 2 = .ok (.sipush 299, 3) := by decide +kernel
theorem dX4_owners_5 : decode cX4_owners 5 = .ok (.invokestatic 41, 3) := by decide +kernel
theorem dX4_owners_8 : decode cX4_owners 8 = .ok (.ifCond .ne 5, 3) := by decide +kernel
theorem dX4_owners_11 : decode cX4_owners 11 = .ok (.iconst (-1), 1) := by decide +kernel
theorem dX4_owners_12 : decode cX4_owners 12 = .ok (.ireturn, 1) := by decide +kernel
theorem dX4_owners_13 : decode cX4_owners 13 = .ok (.iload_n 2, 1) := by decide +kernel
theorem dX4_owners_14 : decode cX4_owners 14 = .ok (.iconst 0, 1) := by decide +kernel
theorem dX4_owners_15 : decode cX4_owners 15 = .ok (.iconst 3, 1) := by decide +kernel
theorem dX4_owners_16 : decode cX4_owners 16 = .ok (.invokestatic 41, 3) := by decide +kernel
theorem dX4_owners_19 : decode cX4_owners 19 = .ok (.ifCond .ne 6, 3) := by decide +kernel
theorem dX4_owners_22 : decode cX4_owners 22 = .ok (.bipush (-2), 2) := by decide +kernel
theorem dX4_owners_24 : decode cX4_owners 24 = .ok (.ireturn, 1) := by decide +kernel
theorem dX4_owners_25 : decode cX4_owners 25 = .ok (.iconst 0, 1) := by decide +kernel
theorem dX4_owners_26 : decode cX4_owners 26 = .ok (.istore_n 3, 1) := by decide +kernel
theorem dX4_owners_27 : decode cX4_owners 27 = .ok (.iconst 0, 1) := by decide +kernel
theorem dX4_owners_28 : decode cX4_owners 28 = .ok (.istore 4, 2) := by decide +kernel
theorem dX4_owners_30 : decode cX4_owners 30 = .ok (.iload 4, 2) := by decide +kernel
theorem dX4_owners_32 : decode cX4_owners 32 = .ok (.bipush 8, 2) := by decide +kernel
theorem dX4_owners_34 : decode cX4_owners 34 = .ok (.if_icmp .ge 31, 3) := by decide +kernel
theorem dX4_owners_37 : decode cX4_owners 37 = .ok (.iload_n 3, 1) := by decide +kernel
theorem dX4_owners_38 : decode cX4_owners 38 = .ok (.aload_n 0, 1) := by decide +kernel
theorem dX4_owners_39 : decode cX4_owners 39 = .ok (.iload 4, 2) := by decide +kernel
theorem dX4_owners_41 : decode cX4_owners 41 = .ok (.iload_n 1, 1) := by decide +kernel
theorem dX4_owners_42 : decode cX4_owners 42 = .ok (.invokevirtual 55, 3) := by decide +kernel
theorem dX4_owners_45 : decode cX4_owners 45 = .ok (.iload_n 2, 1) := by decide +kernel
theorem dX4_owners_46 : decode cX4_owners 46 = .ok (.if_icmp .ne 10, 3) := by decide +kernel
theorem dX4_owners_49 : decode cX4_owners 49 = .ok (.iconst 1, 1) := by decide +kernel
theorem dX4_owners_50 : decode cX4_owners 50 = .ok (.iload 4, 2) := by decide +kernel
theorem dX4_owners_52 : decode cX4_owners 52 = .ok (.ishl, 1) := by decide +kernel
theorem dX4_owners_53 : decode cX4_owners 53 = .ok (.goto 4, 3) := by decide +kernel
theorem dX4_owners_56 : decode cX4_owners 56 = .ok (.iconst 0, 1) := by decide +kernel
theorem dX4_owners_57 : decode cX4_owners 57 = .ok (.ior, 1) := by decide +kernel
theorem dX4_owners_58 : decode cX4_owners 58 = .ok (.istore_n 3, 1) := by decide +kernel
theorem dX4_owners_59 : decode cX4_owners 59 = .ok (.iinc 4 1, 3) := by decide +kernel
theorem dX4_owners_62 : decode cX4_owners 62 = .ok (.goto (-32), 3) := by decide +kernel
theorem dX4_owners_65 : decode cX4_owners 65 = .ok (.iload_n 3, 1) := by decide +kernel
theorem dX4_owners_66 : decode cX4_owners 66 = .ok (.ireturn, 1) := by decide +kernel
set_option maxRecDepth 20000 in
theorem ggX4_placesOfKind_X4_lock : GoodIn wsX4_placesOfKind wsX4_lock := goodIn_r _ [5, 6, 7, 8, 9, 10, 11, 12, 13, 14, 15, 16, 17, 18, 19, 20, 21, 22] (by decide +kernel) (by decide +kernel)
set_option maxRecDepth 20000 in
theorem gX4_placesOfKind_X4_lock : GoodIn wsX4_placesOfKind (wsV RX4 55 RX4 yX4_lock wsX4_lock) := goodIn_app (goodIn_of _ (by decide +kernel)) ggX4_placesOfKind_X4_lock
theorem dX4_placesOfKind_0 : decode cX4_placesOfKind 0 = .ok (.iconst 0, 1) := by decide +kernel
theorem dX4_placesOfKind_1 : decode cX4_placesOfKind 1 = .ok (.istore_n 3, 1) := by decide +kernel
theorem dX4_placesOfKind_2 : decode cX4_placesOfKind 2 = .ok (.iconst 0, 1) := by decide +kernel
theorem dX4_placesOfKind_3 : decode cX4_placesOfKind 3 = .ok (.istore 4, 2) := by decide +kernel
theorem dX4_placesOfKind_5 : decode cX4_placesOfKind 5 = .ok (.iload 4, 2) := by decide +kernel
theorem dX4_placesOfKind_7 : decode cX4_placesOfKind 7 = .ok (.sipush 300, 3) := by decide +kernel
theorem dX4_placesOfKind_10 : decode cX4_placesOfKind 10 = .ok (.if_icmp .ge 28, 3) := by decide +kernel
theorem dX4_placesOfKind_13 : decode cX4_placesOfKind 13 = .ok (.iload_n 3, 1) := by decide +kernel
theorem dX4_placesOfKind_14 : decode cX4_placesOfKind 14 = .ok (.aload_n 0, 1) := by decide +kernel
theorem dX4_placesOfKind_15 : decode cX4_placesOfKind 15 = .ok (.iload_n 1, 1) := by decide +kernel
theorem dX4_placesOfKind_16 : decode cX4_placesOfKind 16 = .ok (.iload 4, 2) := by decide +kernel
theorem dX4_placesOfKind_18 : decode cX4_placesOfKind 18 = .ok (.invokevirtual 55, 3) := by decide +kernel
theorem dX4_placesOfKind_21 : decode cX4_placesOfKind 21 = .ok (.iload_n 2, 1) := by decide +kernel
theorem dX4_placesOfKind_22 : decode cX4_placesOfKind 22 = .ok (.if_icmp .ne 7, 3) := by decide +kernel
theorem dX4_placesOfKind_25 : decode cX4_placesOfKind 25 = .ok (.iconst 1, 1) := by decide +kernel
theorem dX4_placesOfKind_26 : decode cX4_placesOfKind 26 = .ok (.goto 4, 3) := by decide +kernel
theorem dX4_placesOfKind_29 : decode cX4_placesOfKind 29 = .ok (.iconst 0, 1) := by decide +kernel
theorem dX4_placesOfKind_30 : decode cX4_placesOfKind 30 = .ok (.iadd, 1) := by decide +kernel
theorem dX4_placesOfKind_31 : decode cX4_placesOfKind 31 = .ok (.istore_n 3, 1) := by decide +kernel
theorem dX4_placesOfKind_32 : decode cX4_placesOfKind 32 = .ok (.iinc 4 1, 3) := by decide +kernel
theorem dX4_placesOfKind_35 : decode cX4_placesOfKind 35 = .ok (.goto (-30), 3) := by decide +kernel
theorem dX4_placesOfKind_38 : decode cX4_placesOfKind 38 = .ok (.iload_n 3, 1) := by decide +kernel
theorem dX4_placesOfKind_39 : decode cX4_placesOfKind 39 = .ok (.ireturn, 1) := by decide +kernel
set_option maxRecDepth 20000 in
theorem ggX4_begins_X4_lock : GoodIn wsX4_begins wsX4_lock := goodIn_r _ [5, 6, 7, 8, 9, 10, 11, 12, 13, 14, 15, 16, 17, 18, 19, 20, 21, 22] (by decide +kernel) (by decide +kernel)
set_option maxRecDepth 20000 in
theorem gX4_begins_X4_lock : GoodIn wsX4_begins (wsV RX4 55 RX4 yX4_lock wsX4_lock) := goodIn_app (goodIn_of _ (by decide +kernel)) ggX4_begins_X4_lock
theorem dX4_begins_0 : decode cX4_begins 0 = .ok (.aload_n 0, 1) := by decide +kernel
theorem dX4_begins_1 : decode cX4_begins 1 = .ok (.iload_n 1, 1) := by decide +kernel
theorem dX4_begins_2 : decode cX4_begins 2 = .ok (.iload_n 2, 1) := by decide +kernel
theorem dX4_begins_3 : decode cX4_begins 3 = .ok (.invokevirtual 55, 3) := by decide +kernel
theorem dX4_begins_6 : decode cX4_begins 6 = .ok (.ifCond .le 28, 3) := by decide +kernel
theorem dX4_begins_9 : decode cX4_begins 9 = .ok (.iload_n 2, 1) := by decide +kernel
theorem dX4_begins_10 : decode cX4_begins 10 = .ok (.ifCond .eq 20, 3) := by decide +kernel
theorem dX4_begins_13 : decode cX4_begins 13 = .ok (.aload_n 0, 1) := by decide +kernel
theorem dX4_begins_14 : decode cX4_begins 14 = .ok (.iload_n 1, 1) := by decide +kernel
theorem dX4_begins_15 : decode cX4_begins 15 = .ok (.iload_n 2, 1) := by decide +kernel
theorem dX4_begins_16 : decode cX4_begins 16 = .ok (.iconst 1, 1) := by decide +kernel
theorem dX4_begins_17 : decode cX4_begins 17 = .ok (.isub, 1) := by decide +kernel
theorem dX4_begins_18 : decode cX4_begins 18 = .ok (.invokevirtual 55, 3) := by decide +kernel
theorem dX4_begins_21 : decode cX4_begins 21 = .ok (.aload_n 0, 1) := by decide +kernel
theorem dX4_begins_22 : decode cX4_begins 22 = .ok (.iload_n 1, 1) := by decide +kernel
theorem dX4_begins_23 : decode cX4_begins 23 = .ok (.iload_n 2, 1) := by decide +kernel
theorem dX4_begins_24 : decode cX4_begins 24 = .ok (.invokevirtual 55, 3) := by decide +kernel
theorem dX4_begins_27 : decode cX4_begins 27 = .ok (.if_icmp .eq 7, 3) := by decide +kernel
theorem dX4_begins_30 : decode cX4_begins 30 = .ok (.iconst 1, 1) := by decide +kernel
theorem dX4_begins_31 : decode cX4_begins 31 = .ok (.goto 4, 3) := by decide +kernel
theorem dX4_begins_34 : decode cX4_begins 34 = .ok (.iconst 0, 1) := by decide +kernel
theorem dX4_begins_35 : decode cX4_begins 35 = .ok (.ireturn, 1) := by decide +kernel
set_option maxRecDepth 20000 in
theorem ggX4_stretches_X4_begins : GoodIn wsX4_stretches wsX4_begins := goodIn_r _ [5, 6, 7, 8, 4, 9, 10, 11, 12, 13, 14, 15, 16, 17, 18, 19, 20, 21, 22, 23, 24, 25, 26] (by decide +kernel) (by decide +kernel)
set_option maxRecDepth 20000 in
theorem gX4_stretches_X4_begins : GoodIn wsX4_stretches (wsV RX4 175 RX4 yX4_begins wsX4_begins) := goodIn_app (goodIn_of _ (by decide +kernel)) ggX4_stretches_X4_begins
theorem dX4_stretches_0 : decode cX4_stretches 0 = .ok (.iconst 0, 1) := by decide +kernel
theorem dX4_stretches_1 : decode cX4_stretches 1 = .ok (.istore_n 2, 1) := by decide +kernel
theorem dX4_stretches_2 : decode cX4_stretches 2 = .ok (.iconst 0, 1) := by decide +kernel
theorem dX4_stretches_3 : decode cX4_stretches 3 = .ok (.istore_n 3, 1) := by decide +kernel
theorem dX4_stretches_4 : decode cX4_stretches 4 = .ok (.iload_n 3, 1) := by decide +kernel
theorem dX4_stretches_5 : decode cX4_stretches 5 = .ok (.sipush 300, 3) := by decide +kernel
theorem dX4_stretches_8 : decode cX4_stretches 8 = .ok (.if_icmp .ge 26, 3) := by decide +kernel
theorem dX4_stretches_11 : decode cX4_stretches 11 = .ok (.iload_n 2, 1) := by decide +kernel
theorem dX4_stretches_12 : decode cX4_stretches 12 = .ok (.aload_n 0, 1) := by decide +kernel
theorem dX4_stretches_13 : decode cX4_stretches 13 = .ok (.iload_n 1, 1) := by decide +kernel
theorem dX4_stretches_14 : decode cX4_stretches 14 = .ok (.iload_n 3, 1) := by decide +kernel
theorem dX4_stretches_15 : decode cX4_stretches 15 = .ok (.invokevirtual 175, 3) := by decide +kernel
theorem dX4_stretches_18 : decode cX4_stretches 18 = .ok (.ifCond .eq 7, 3) := by decide +kernel
theorem dX4_stretches_21 : decode cX4_stretches 21 = .ok (.iconst 1, 1) := by decide +kernel
theorem dX4_stretches_22 : decode cX4_stretches 22 = .ok (.goto 4, 3) := by decide +kernel
theorem dX4_stretches_25 : decode cX4_stretches 25 = .ok (.iconst 0, 1) := by decide +kernel
theorem dX4_stretches_26 : decode cX4_stretches 26 = .ok (.iadd, 1) := by decide +kernel
theorem dX4_stretches_27 : decode cX4_stretches 27 = .ok (.istore_n 2, 1) := by decide +kernel
theorem dX4_stretches_28 : decode cX4_stretches 28 = .ok (.iinc 3 1, 3) := by decide +kernel
theorem dX4_stretches_31 : decode cX4_stretches 31 = .ok (.goto (-27), 3) := by decide +kernel
theorem dX4_stretches_34 : decode cX4_stretches 34 = .ok (.iload_n 2, 1) := by decide +kernel
theorem dX4_stretches_35 : decode cX4_stretches 35 = .ok (.ireturn, 1) := by decide +kernel
set_option maxRecDepth 20000 in
theorem ggX4_ofOwner_X4_isOwner : GoodIn wsX4_ofOwner wsX4_isOwner := goodIn_r _ [4, 5, 6, 3, 7] (by decide +kernel) (by decide +kernel)
set_option maxRecDepth 20000 in
theorem gX4_ofOwner_X4_isOwner : GoodIn wsX4_ofOwner (va_wsS RX4 127 yX4_isOwner wsX4_isOwner) := goodIn_app (goodIn_of _ (by decide +kernel)) ggX4_ofOwner_X4_isOwner
set_option maxRecDepth 20000 in
theorem ggX4_ofOwner_X4_in : GoodIn wsX4_ofOwner wsX4_in := goodIn_r _ [7] (by decide +kernel) (by decide +kernel)
set_option maxRecDepth 20000 in
theorem gX4_ofOwner_X4_in : GoodIn wsX4_ofOwner (va_wsS RX4 41 yX4_in wsX4_in) := goodIn_app (goodIn_of _ (by decide +kernel)) ggX4_ofOwner_X4_in
set_option maxRecDepth 20000 in
theorem ggX4_ofOwner_X4_placesOfKind : GoodIn wsX4_ofOwner wsX4_placesOfKind := goodIn_r _ [11, 12, 13, 14, 3, 15, 16, 33, 34, 35, 36, 37, 38, 39, 40, 41, 42, 43, 44, 45, 46, 47, 48] (by decide +kernel) (by decide +kernel)
set_option maxRecDepth 20000 in
theorem gX4_ofOwner_X4_placesOfKind : GoodIn wsX4_ofOwner (wsV RX4 178 RX4 yX4_placesOfKind wsX4_placesOfKind) := goodIn_app (goodIn_of _ (by decide +kernel)) ggX4_ofOwner_X4_placesOfKind
set_option maxRecDepth 20000 in
theorem ggX4_ofOwner_X4_stretches : GoodIn wsX4_ofOwner wsX4_stretches := goodIn_r _ [20, 21, 22, 23, 3, 24, 12, 13, 14, 15, 16, 33, 34, 35, 36, 37, 38, 39, 40, 41, 42, 43, 44, 45, 46, 47, 48] (by decide +kernel) (by decide +kernel)
set_option maxRecDepth 20000 in
theorem gX4_ofOwner_X4_stretches : GoodIn wsX4_ofOwner (wsV RX4 181 RX4 yX4_stretches wsX4_stretches) := goodIn_app (goodIn_of _ (by decide +kernel)) ggX4_ofOwner_X4_stretches
set_option maxRecDepth 20000 in
theorem ggX4_ofOwner_X4_placeInRow : GoodIn wsX4_ofOwner wsX4_placeInRow := goodIn_r _ [28, 16, 33, 34, 35, 36, 37, 38, 39, 40, 41, 42, 43, 44, 45, 46, 47, 48] (by decide +kernel) (by decide +kernel)
set_option maxRecDepth 20000 in
theorem gX4_ofOwner_X4_placeInRow : GoodIn wsX4_ofOwner (wsV RX4 73 RX4 yX4_placeInRow wsX4_placeInRow) := goodIn_app (goodIn_of _ (by decide +kernel)) ggX4_ofOwner_X4_placeInRow
set_option maxRecDepth 20000 in
theorem ggX4_ofOwner_X4_of : GoodIn wsX4_ofOwner wsX4_of := goodIn_r _ [32, 16, 33, 34, 35, 36, 37, 38, 39, 40, 41, 42, 43, 44, 45, 46, 47, 48] (by decide +kernel) (by decide +kernel)
set_option maxRecDepth 20000 in
theorem gX4_ofOwner_X4_of : GoodIn wsX4_ofOwner (wsV RX4 63 RX4 yX4_of wsX4_of) := goodIn_app (goodIn_of _ (by decide +kernel)) ggX4_ofOwner_X4_of
theorem dX4_ofOwner_0 : decode cX4_ofOwner 0 = .ok (.iload_n 1, 1) := by decide +kernel
theorem dX4_ofOwner_1 : decode cX4_ofOwner 1 = .ok (.invokestatic 127, 3) := by decide +kernel
theorem dX4_ofOwner_4 : decode cX4_ofOwner 4 = .ok (.ifCond .ne 5, 3) := by decide +kernel
theorem dX4_ofOwner_7 : decode cX4_ofOwner 7 = .ok (.iconst (-1), 1) := by decide +kernel
theorem dX4_ofOwner_8 : decode cX4_ofOwner 8 = .ok (.ireturn, 1) := by decide +kernel
theorem dX4_ofOwner_9 : decode cX4_ofOwner 9 = .ok (.iload_n 2, 1) := by decide +kernel
theorem dX4_ofOwner_10 : decode cX4_ofOwner 10 = .ok (.iconst 0, 1) := by decide +kernel
theorem dX4_ofOwner_11 : decode cX4_ofOwner 11 = .ok (.iconst 2, 1) := by decide +kernel
theorem dX4_ofOwner_12 : decode cX4_ofOwner 12 = .ok (.invokestatic 41, 3) := by decide +kernel
theorem dX4_ofOwner_15 : decode cX4_ofOwner 15 = .ok (.ifCond .eq 12, 3) := by decide +kernel
theorem dX4_ofOwner_18 : decode cX4_ofOwner 18 = .ok (.aload_n 0, 1) := by decide +kernel
theorem dX4_ofOwner_19 : decode cX4_ofOwner 19 = .ok (.iload_n 1, 1) := by decide +kernel
theorem dX4_ofOwner_20 : decode cX4_ofOwner 20 = .ok (.iload_n 2, 1) := by decide +kernel
theorem dX4_ofOwner_21 : decode cX4_ofOwner 21 = .ok (.iconst 1, 1) := by decide +kernel
theorem dX4_ofOwner_22 : decode cX4_ofOwner 22 = .ok (.iadd, 1) := by decide +kernel
theorem dX4_ofOwner_23 : decode cX4_ofOwner 23 = .ok (.invokevirtual 178, 3) := by decide +kernel
theorem dX4_ofOwner_26 : decode cX4_ofOwner 26 = .ok (.ireturn, 1) := by decide +kernel
theorem dX4_ofOwner_27 : decode cX4_ofOwner 27 = .ok (.iload_n 2, 1) := by decide +kernel
theorem dX4_ofOwner_28 : decode cX4_ofOwner 28 = .ok (.iconst 3, 1) := by decide +kernel
theorem dX4_ofOwner_29 : decode cX4_ofOwner 29 = .ok (.if_icmp .ne 9, 3) := by decide +kernel
theorem dX4_ofOwner_32 : decode cX4_ofOwner 32 = .ok (.aload_n 0, 1) := by decide +kernel
theorem dX4_ofOwner_33 : decode cX4_ofOwner 33 = .ok (.iload_n 1, 1) := by decide +kernel
theorem dX4_ofOwner_34 : decode cX4_ofOwner 34 = .ok (.invokevirtual 181, 3) := by decide +kernel
theorem dX4_ofOwner_37 : decode cX4_ofOwner 37 = .ok (.ireturn, 1) := by decide +kernel
theorem dX4_ofOwner_38 : decode cX4_ofOwner 38 = .ok (.iload_n 2, 1) := by decide +kernel
theorem dX4_ofOwner_39 : decode cX4_ofOwner 39 = .ok (.iconst 4, 1) := by decide +kernel
theorem dX4_ofOwner_40 : decode cX4_ofOwner 40 = .ok (.if_icmp .ne 9, 3) := by decide +kernel
theorem dX4_ofOwner_43 : decode cX4_ofOwner 43 = .ok (.aload_n 0, 1) := by decide +kernel
theorem dX4_ofOwner_44 : decode cX4_ofOwner 44 = .ok (.iload_n 1, 1) := by decide +kernel
theorem dX4_ofOwner_45 : decode cX4_ofOwner 45 = .ok (.invokevirtual 73, 3) := by decide +kernel
theorem dX4_ofOwner_48 : decode cX4_ofOwner 48 = .ok (.ireturn, 1) := by decide +kernel
theorem dX4_ofOwner_49 : decode cX4_ofOwner 49 = .ok (.iload_n 2, 1) := by decide +kernel
theorem dX4_ofOwner_50 : decode cX4_ofOwner 50 = .ok (.iconst 5, 1) := by decide +kernel
theorem dX4_ofOwner_51 : decode cX4_ofOwner 51 = .ok (.bipush 8, 2) := by decide +kernel
theorem dX4_ofOwner_53 : decode cX4_ofOwner 53 = .ok (.invokestatic 41, 3) := by decide +kernel
theorem dX4_ofOwner_56 : decode cX4_ofOwner 56 = .ok (.ifCond .eq 26, 3) := by decide +kernel
theorem dX4_ofOwner_59 : decode cX4_ofOwner 59 = .ok (.aload_n 0, 1) := by decide +kernel
theorem dX4_ofOwner_60 : decode cX4_ofOwner 60 = .ok (.iload_n 1, 1) := by decide +kernel
theorem dX4_ofOwner_61 : decode cX4_ofOwner 61 = .ok (.iconst 0, 1) := by decide +kernel
theorem dX4_ofOwner_62 : decode cX4_ofOwner 62 = .ok (.invokevirtual 63, 3) := by decide +kernel
theorem dX4_ofOwner_65 : decode cX4_ofOwner 65 = .ok (.ifCond .le 14, 3) := by decide +kernel
theorem dX4_ofOwner_68 : decode cX4_ofOwner 68 = .ok (.aload_n 0, 1) := by decide +kernel
theorem dX4_ofOwner_69 : decode cX4_ofOwner 69 = .ok (.iload_n 1, 1) := by decide +kernel
theorem dX4_ofOwner_70 : decode cX4_ofOwner 70 = .ok (.iload_n 2, 1) := by decide +kernel
theorem dX4_ofOwner_71 : decode cX4_ofOwner 71 = .ok (.iconst 5, 1) := by decide +kernel
theorem dX4_ofOwner_72 : decode cX4_ofOwner 72 = .ok (.isub, 1) := by decide +kernel
theorem dX4_ofOwner_73 : decode cX4_ofOwner 73 = .ok (.invokevirtual 63, 3) := by decide +kernel
theorem dX4_ofOwner_76 : decode cX4_ofOwner 76 = .ok (.goto 5, 3) := by decide +kernel
theorem dX4_ofOwner_79 : decode cX4_ofOwner 79 = .ok (.bipush (-6), 2) := by decide +kernel
theorem dX4_ofOwner_81 : decode cX4_ofOwner 81 = .ok (.ireturn, 1) := by decide +kernel
theorem dX4_ofOwner_82 : decode cX4_ofOwner 82 = .ok (.iload_n 2, 1) := by decide +kernel
theorem dX4_ofOwner_83 : decode cX4_ofOwner 83 = .ok (.bipush 9, 2) := by decide +kernel
theorem dX4_ofOwner_85 : decode cX4_ofOwner 85 = .ok (.bipush 12, 2) := by decide +kernel
theorem dX4_ofOwner_87 : decode cX4_ofOwner 87 = .ok (.invokestatic 41, 3) := by decide +kernel
theorem dX4_ofOwner_90 : decode cX4_ofOwner 90 = .ok (.ifCond .eq 14, 3) := by decide +kernel
theorem dX4_ofOwner_93 : decode cX4_ofOwner 93 = .ok (.aload_n 0, 1) := by decide +kernel
theorem dX4_ofOwner_94 : decode cX4_ofOwner 94 = .ok (.iload_n 1, 1) := by decide +kernel
theorem dX4_ofOwner_95 : decode cX4_ofOwner 95 = .ok (.iload_n 2, 1) := by decide +kernel
theorem dX4_ofOwner_96 : decode cX4_ofOwner 96 = .ok (.iconst 5, 1) := by decide +kernel
theorem dX4_ofOwner_97 : decode cX4_ofOwner 97 = .ok (.isub, 1) := by decide +kernel
theorem dX4_ofOwner_98 : decode cX4_ofOwner 98 = .ok (.invokevirtual 63, 3) := by decide +kernel
theorem dX4_ofOwner_101 : decode cX4_ofOwner 101 = .ok (.goto 5, 3) := by decide +kernel
theorem dX4_ofOwner_104 : decode cX4_ofOwner 104 = .ok (.bipush (-2), 2) := by decide +kernel
theorem dX4_ofOwner_106 : decode cX4_ofOwner 106 = .ok (.ireturn, 1) := by decide +kernel
set_option maxRecDepth 20000 in
theorem ggX4_stretch_X4_isOwner : GoodIn wsX4_stretch wsX4_isOwner := goodIn_r _ [4, 5, 6, 3, 7] (by decide +kernel) (by decide +kernel)
set_option maxRecDepth 20000 in
theorem gX4_stretch_X4_isOwner : GoodIn wsX4_stretch (va_wsS RX4 127 yX4_isOwner wsX4_isOwner) := goodIn_app (goodIn_of _ (by decide +kernel)) ggX4_stretch_X4_isOwner
set_option maxRecDepth 20000 in
theorem ggX4_stretch_X4_stretches : GoodIn wsX4_stretch wsX4_stretches := goodIn_r _ [11, 12, 13, 14, 3, 15, 16, 17, 18, 19, 20, 21, 22, 23, 24, 25, 26, 27, 28, 29, 30, 31, 32, 33, 34, 35, 36] (by decide +kernel) (by decide +kernel)
set_option maxRecDepth 20000 in
theorem gX4_stretch_X4_stretches : GoodIn wsX4_stretch (wsV RX4 181 RX4 yX4_stretches wsX4_stretches) := goodIn_app (goodIn_of _ (by decide +kernel)) ggX4_stretch_X4_stretches
set_option maxRecDepth 20000 in
theorem ggX4_stretch_X4_in : GoodIn wsX4_stretch wsX4_in := goodIn_r _ [7] (by decide +kernel) (by decide +kernel)
set_option maxRecDepth 20000 in
theorem gX4_stretch_X4_in : GoodIn wsX4_stretch (va_wsS RX4 41 yX4_in wsX4_in) := goodIn_app (goodIn_of _ (by decide +kernel)) ggX4_stretch_X4_in
set_option maxRecDepth 20000 in
theorem ggX4_stretch_X4_begins : GoodIn wsX4_stretch wsX4_begins := goodIn_r _ [15, 16, 17, 18, 3, 19, 20, 21, 22, 23, 24, 25, 26, 27, 28, 29, 30, 31, 32, 33, 34, 35, 36] (by decide +kernel) (by decide +kernel)
set_option maxRecDepth 20000 in
theorem gX4_stretch_X4_begins : GoodIn wsX4_stretch (wsV RX4 175 RX4 yX4_begins wsX4_begins) := goodIn_app (goodIn_of _ (by decide +kernel)) ggX4_stretch_X4_begins
set_option maxRecDepth 20000 in
theorem ggX4_stretch_X4_lock : GoodIn wsX4_stretch wsX4_lock := goodIn_r _ [19, 20, 21, 22, 23, 24, 25, 26, 27, 28, 29, 30, 31, 32, 33, 34, 35, 36] (by decide +kernel) (by decide +kernel)
set_option maxRecDepth 20000 in
theorem gX4_stretch_X4_lock : GoodIn wsX4_stretch (wsV RX4 55 RX4 yX4_lock wsX4_lock) := goodIn_app (goodIn_of _ (by decide +kernel)) ggX4_stretch_X4_lock
theorem dX4_stretch_0 : decode cX4_stretch 0 = .ok (.iload_n 1, 1) := by decide +kernel
theorem dX4_stretch_1 : decode cX4_stretch 1 = .ok (.invokestatic 127, 3) := by decide +kernel
theorem dX4_stretch_4 : decode cX4_stretch 4 = .ok (.ifCond .eq 18, 3) := by decide +kernel
theorem dX4_stretch_7 : decode cX4_stretch 7 = .ok (.iload_n 2, 1) := by decide +kernel
theorem dX4_stretch_8 : decode cX4_stretch 8 = .ok (.iconst 0, 1) := by decide +kernel
theorem dX4_stretch_9 : decode cX4_stretch 9 = .ok (.aload_n 0, 1) := by decide +kernel
theorem dX4_stretch_10 : decode cX4_stretch 10 = .ok (.iload_n 1, 1) := by decide +kernel
theorem dX4_stretch_11 : decode cX4_stretch 11 = .ok (.invokevirtual 181, 3) := by decide +kernel
theorem dX4_stretch_14 : decode cX4_stretch 14 = .ok (.iconst 1, 1) := by decide +kernel
theorem dX4_stretch_15 : decode cX4_stretch 15 = .ok (.isub, 1) := by decide +kernel
theorem dX4_stretch_16 : decode cX4_stretch 16 = .ok (.invokestatic 41, 3) := by decide +kernel
theorem dX4_stretch_19 : decode cX4_stretch 19 = .ok (.ifCond .ne 5, 3) := by decide +kernel
theorem dX4_stretch_22 : decode cX4_stretch 22 = .ok (.iconst (-1), 1) := by decide +kernel
theorem dX4_stretch_23 : decode cX4_stretch 23 = .ok (.ireturn, 1) := by decide +kernel
theorem dX4_stretch_24 : decode cX4_stretch 24 = .ok (.iload_n 3, 1) := by decide +kernel
theorem dX4_stretch_25 : decode cX4_stretch 25 = .ok (.iconst 0, 1) := by decide +kernel
theorem dX4_stretch_26 : decode cX4_stretch 26 = .ok (.iconst 2, 1) := by decide +kernel
theorem dX4_stretch_27 : decode cX4_stretch 27 = .ok (.invokestatic 41, 3) := by decide +kernel
theorem dX4_stretch_30 : decode cX4_stretch 30 = .ok (.ifCond .ne 6, 3) := by decide +kernel
theorem dX4_stretch_33 : decode cX4_stretch 33 = .ok (.bipush (-2), 2) := by decide +kernel
theorem dX4_stretch_35 : decode cX4_stretch 35 = .ok (.ireturn, 1) := by decide +kernel
theorem dX4_stretch_36 : decode cX4_stretch 36 = .ok (.iload_n 2, 1) := by decide +kernel
theorem dX4_stretch_37 : decode cX4_stretch 37 = .ok (.istore 4, 2) := by decide +kernel
theorem dX4_stretch_39 : decode cX4_stretch 39 = .ok (.iconst 0, 1) := by decide +kernel
theorem dX4_stretch_40 : decode cX4_stretch 40 = .ok (.istore 5, 2) := by decide +kernel
theorem dX4_stretch_42 : decode cX4_stretch 42 = .ok (.aload_n 0, 1) := by decide +kernel
theorem dX4_stretch_43 : decode cX4_stretch 43 = .ok (.iload_n 1, 1) := by decide +kernel
theorem dX4_stretch_44 : decode cX4_stretch 44 = .ok (.iload 5, 2) := by decide +kernel
theorem dX4_stretch_46 : decode cX4_stretch 46 = .ok (.invokevirtual 175, 3) := by decide +kernel
theorem dX4_stretch_49 : decode cX4_stretch 49 = .ok (.ifCond .eq 8, 3) := by decide +kernel
theorem dX4_stretch_52 : decode cX4_stretch 52 = .ok (.iload 4, 2) := by decide +kernel
theorem dX4_stretch_54 : decode cX4_stretch 54 = .ok (.ifCond .le 29, 3) := by decide +kernel
theorem dX4_stretch_57 : decode cX4_stretch 57 = .ok (.iload 4, 2) := by decide +kernel
theorem dX4_stretch_59 : decode cX4_stretch 59 = .ok (.aload_n 0, 1) := by decide +kernel
theorem dX4_stretch_60 : decode cX4_stretch 60 = .ok (.iload_n 1, 1) := by decide +kernel
theorem dX4_stretch_61 : decode cX4_stretch 61 = .ok (.iload 5, 2) := by decide +kernel
theorem dX4_stretch_63 : decode cX4_stretch 63 = .ok (.invokevirtual 175, 3) := by decide +kernel
theorem dX4_stretch_66 : decode cX4_stretch 66 = .ok (.ifCond .eq 7, 3) := by decide +kernel
theorem dX4_stretch_69 : decode cX4_stretch 69 = .ok (.iconst 1, 1) := by decide +kernel
theorem dX4_stretch_70 : decode cX4_stretch 70 = .ok (.goto 4, 3) := by decide +kernel
theorem dX4_stretch_73 : decode cX4_stretch 73 = .ok (.iconst 0, 1) := by decide +kernel
theorem dX4_stretch_74 : decode cX4_stretch 74 = .ok (.isub, 1) := by decide +kernel
theorem dX4_stretch_75 : decode cX4_stretch 75 = .ok (.istore 4, 2) := by decide +kernel
theorem dX4_stretch_77 : decode cX4_stretch 77 = .ok (.iinc 5 1, 3) := by decide +kernel
theorem dX4_stretch_80 : decode cX4_stretch 80 = .ok (.goto (-38), 3) := by decide +kernel
theorem dX4_stretch_83 : decode cX4_stretch 83 = .ok (.iconst 1, 1) := by decide +kernel
theorem dX4_stretch_84 : decode cX4_stretch 84 = .ok (.istore 6, 2) := by decide +kernel
theorem dX4_stretch_86 : decode cX4_stretch 86 = .ok (.iload 5, 2) := by decide +kernel
theorem dX4_stretch_88 : decode cX4_stretch 88 = .ok (.iload 6, 2) := by decide +kernel
theorem dX4_stretch_90 : decode cX4_stretch 90 = .ok (.iadd, 1) := by decide +kernel
theorem dX4_stretch_91 : decode cX4_stretch 91 = .ok (.sipush 300, 3) := by decide +kernel
theorem dX4_stretch_94 : decode cX4_stretch 94 = .ok (.if_icmp .ge 29, 3) := by decide +kernel
theorem dX4_stretch_97 : decode cX4_stretch 97 = .ok (.aload_n 0, 1) := by decide +kernel
theorem dX4_stretch_98 : decode cX4_stretch 98 = .ok (.iload_n 1, 1) := by decide +kernel
theorem dX4_stretch_99 : decode cX4_stretch 99 = .ok (.iload 5, 2) := by decide +kernel
theorem dX4_stretch_101 : decode cX4_stretch 101 = .ok (.iload 6, 2) := by decide +kernel
theorem dX4_stretch_103 : decode cX4_stretch 103 = .ok (.iadd, 1) := by decide +kernel
theorem dX4_stretch_104 : decode cX4_stretch 104 = .ok (.invokevirtual 55, 3) := by decide +kernel
theorem dX4_stretch_107 : decode cX4_stretch 107 = .ok (.aload_n 0, 1) := by decide +kernel
theorem dX4_stretch_108 : decode cX4_stretch 108 = .ok (.iload_n 1, 1) := by decide +kernel
theorem dX4_stretch_109 : decode cX4_stretch 109 = .ok (.iload 5, 2) := by decide +kernel
theorem dX4_stretch_111 : decode cX4_stretch 111 = .ok (.invokevirtual 55, 3) := by decide +kernel
theorem dX4_stretch_114 : decode cX4_stretch 114 = .ok (.if_icmp .ne 9, 3) := by decide +kernel
theorem dX4_stretch_117 : decode cX4_stretch 117 = .ok (.iinc 6 1, 3) := by decide +kernel
theorem dX4_stretch_120 : decode cX4_stretch 120 = .ok (.goto (-34), 3) := by decide +kernel
theorem dX4_stretch_123 : decode cX4_stretch 123 = .ok (.iload_n 3, 1) := by decide +kernel
theorem dX4_stretch_124 : decode cX4_stretch 124 = .ok (.ifCond .ne 13, 3) := by decide +kernel
theorem dX4_stretch_127 : decode cX4_stretch 127 = .ok (.aload_n 0, 1) := by decide +kernel
theorem dX4_stretch_128 : decode cX4_stretch 128 = .ok (.iload_n 1, 1) := by decide +kernel
theorem dX4_stretch_129 : decode cX4_stretch 129 = .ok (.iload 5, 2) := by decide +kernel
theorem dX4_stretch_131 : decode cX4_stretch 131 = .ok (.invokevirtual 55, 3) := by decide +kernel
theorem dX4_stretch_134 : decode cX4_stretch 134 = .ok (.goto 15, 3) := by decide +kernel
theorem dX4_stretch_137 : decode cX4_stretch 137 = .ok (.iload_n 3, 1) := by decide +kernel
theorem dX4_stretch_138 : decode cX4_stretch 138 = .ok (.iconst 1, 1) := by decide +kernel
theorem dX4_stretch_139 : decode cX4_stretch 139 = .ok (.if_icmp .ne 8, 3) := by decide +kernel
theorem dX4_stretch_142 : decode cX4_stretch 142 = .ok (.iload 5, 2) := by decide +kernel
theorem dX4_stretch_144 : decode cX4_stretch 144 = .ok (.goto 5, 3) := by decide +kernel
theorem dX4_stretch_147 : decode cX4_stretch 147 = .ok (.iload 6, 2) := by decide +kernel
theorem dX4_stretch_149 : decode cX4_stretch 149 = .ok (.ireturn, 1) := by decide +kernel
set_option maxRecDepth 20000 in
theorem ggX4_inRow_X4_in : GoodIn wsX4_inRow wsX4_in := goodIn_r _ [5] (by decide +kernel) (by decide +kernel)
set_option maxRecDepth 20000 in
theorem gX4_inRow_X4_in : GoodIn wsX4_inRow (va_wsS RX4 41 yX4_in wsX4_in) := goodIn_app (goodIn_of _ (by decide +kernel)) ggX4_inRow_X4_in
theorem dX4_inRow_0 : decode cX4_inRow 0 = .ok (.iload_n 1, 1) := by decide +kernel
theorem dX4_inRow_1 : decode cX4_inRow 1 = .ok (.iconst 0, 1) := by decide +kernel
theorem dX4_inRow_2 : decode cX4_inRow 2 = .ok (.aload_n 0, 1) := by decide +kernel
theorem dX4_inRow_3 : decode cX4_inRow 3 = .ok (.getfield 7, 3) := by decide +kernel
theorem dX4_inRow_6 : decode cX4_inRow 6 = .ok (.iconst 1, 1) := by decide +kernel
theorem dX4_inRow_7 : decode cX4_inRow 7 = .ok (.iaload, 1) := by decide +kernel
theorem dX4_inRow_8 : decode cX4_inRow 8 = .ok (.iconst 1, 1) := by decide +kernel
theorem dX4_inRow_9 : decode cX4_inRow 9 = .ok (.isub, 1) := by decide +kernel
theorem dX4_inRow_10 : decode cX4_inRow 10 = .ok (.invokestatic 41, 3) := by decide +kernel
theorem dX4_inRow_13 : decode cX4_inRow 13 = .ok (.ifCond .eq 15, 3) := by decide +kernel
theorem dX4_inRow_16 : decode cX4_inRow 16 = .ok (.aload_n 0, 1) := by decide +kernel
theorem dX4_inRow_17 : decode cX4_inRow 17 = .ok (.getfield 7, 3) := by decide +kernel
theorem dX4_inRow_20 : decode cX4_inRow 20 = .ok (.bipush 8, 2) := by decide +kernel
theorem dX4_inRow_22 : decode cX4_inRow 22 = .ok (.iload_n 1, 1) := by decide +kernel
theorem dX4_inRow_23 : decode cX4_inRow 23 = .ok (.iadd, 1) := by decide +kernel
theorem dX4_inRow_24 : decode cX4_inRow 24 = .ok (.iaload, 1) := by decide +kernel
theorem dX4_inRow_25 : decode cX4_inRow 25 = .ok (.goto 4, 3) := by decide +kernel
theorem dX4_inRow_28 : decode cX4_inRow 28 = .ok (.iconst (-1), 1) := by decide +kernel
theorem dX4_inRow_29 : decode cX4_inRow 29 = .ok (.ireturn, 1) := by decide +kernel
set_option maxRecDepth 20000 in
theorem ggX4_waitsFor_X4_isOwner : GoodIn wsX4_waitsFor wsX4_isOwner := goodIn_r _ [4, 5, 6, 3, 7] (by decide +kernel) (by decide +kernel)
set_option maxRecDepth 20000 in
theorem gX4_waitsFor_X4_isOwner : GoodIn wsX4_waitsFor (va_wsS RX4 127 yX4_isOwner wsX4_isOwner) := goodIn_app (goodIn_of _ (by decide +kernel)) ggX4_waitsFor_X4_isOwner
set_option maxRecDepth 20000 in
theorem ggX4_waitsFor_X4_waitsForNow : GoodIn wsX4_waitsFor wsX4_waitsForNow := goodIn_r _ [11, 12, 13, 14, 3, 15, 16, 17, 18, 19, 20, 21, 22, 23, 24, 25, 26, 27, 28, 29, 30, 31, 32, 33, 34, 35, 36, 37, 38, 39, 40, 41, 42, 43, 44, 45, 46, 47, 48, 49, 50, 51, 52, 53, 54, 55] (by decide +kernel) (by decide +kernel)
set_option maxRecDepth 20000 in
theorem gX4_waitsFor_X4_waitsForNow : GoodIn wsX4_waitsFor (wsV RX4 91 RX4 yX4_waitsForNow wsX4_waitsForNow) := goodIn_app (goodIn_of _ (by decide +kernel)) ggX4_waitsFor_X4_waitsForNow
theorem dX4_waitsFor_0 : decode cX4_waitsFor 0 = .ok (.iload_n 1, 1) := by decide +kernel
theorem dX4_waitsFor_1 : decode cX4_waitsFor 1 = .ok (.invokestatic 127, 3) := by decide +kernel
theorem dX4_waitsFor_4 : decode cX4_waitsFor 4 = .ok (.ifCond .eq 11, 3) := by decide +kernel
theorem dX4_waitsFor_7 : decode cX4_waitsFor 7 = .ok (.aload_n 0, 1) := by decide +kernel
theorem dX4_waitsFor_8 : decode cX4_waitsFor 8 = .ok (.iload_n 1, 1) := by decide +kernel
theorem dX4_waitsFor_9 : decode cX4_waitsFor 9 = .ok (.invokevirtual 91, 3) := by decide +kernel
theorem dX4_waitsFor_12 : decode cX4_waitsFor 12 = .ok (.goto 4, 3) := by decide +kernel
theorem dX4_waitsFor_15 : decode cX4_waitsFor 15 = .ok (.iconst (-1), 1) := by decide +kernel
theorem dX4_waitsFor_16 : decode cX4_waitsFor 16 = .ok (.ireturn, 1) := by decide +kernel
set_option maxRecDepth 20000 in
theorem ggX4_sum_X4_of : GoodIn wsX4_sum wsX4_of := goodIn_r _ [5, 6, 7, 8, 9, 10, 11, 12, 13, 14, 15, 16, 17, 18, 19, 20, 21, 22] (by decide +kernel) (by decide +kernel)
set_option maxRecDepth 20000 in
theorem gX4_sum_X4_of : GoodIn wsX4_sum (wsV RX4 63 RX4 yX4_of wsX4_of) := goodIn_app (goodIn_of _ (by decide +kernel)) ggX4_sum_X4_of
theorem dX4_sum_0 : decode cX4_sum 0 = .ok (.iconst 0, 1) := by decide +kernel
theorem dX4_sum_1 : decode cX4_sum 1 = .ok (.istore_n 2, 1) := by decide +kernel
theorem dX4_sum_2 : decode cX4_sum 2 = .ok (.iconst 0, 1) := by decide +kernel
theorem dX4_sum_3 : decode cX4_sum 3 = .ok (.istore_n 3, 1) := by decide +kernel
theorem dX4_sum_4 : decode cX4_sum 4 = .ok (.iload_n 3, 1) := by decide +kernel
theorem dX4_sum_5 : decode cX4_sum 5 = .ok (.bipush 8, 2) := by decide +kernel
theorem dX4_sum_7 : decode cX4_sum 7 = .ok (.if_icmp .ge 18, 3) := by decide +kernel
theorem dX4_sum_10 : decode cX4_sum 10 = .ok (.iload_n 2, 1) := by decide +kernel
theorem dX4_sum_11 : decode cX4_sum 11 = .ok (.aload_n 0, 1) := by decide +kernel
theorem dX4_sum_12 : decode cX4_sum 12 = .ok (.iload_n 3, 1) := by decide +kernel
theorem dX4_sum_13 : decode cX4_sum 13 = .ok (.iload_n 1, 1) := by decide +kernel
theorem dX4_sum_14 : decode cX4_sum 14 = .ok (.invokevirtual 63, 3) := by decide +kernel
theorem dX4_sum_17 : decode cX4_sum 17 = .ok (.iadd, 1) := by decide +kernel
theorem dX4_sum_18 : decode cX4_sum 18 = .ok (.istore_n 2, 1) := by decide +kernel
theorem dX4_sum_19 : decode cX4_sum 19 = .ok (.iinc 3 1, 3) := by decide +kernel
theorem dX4_sum_22 : decode cX4_sum 22 = .ok (.goto (-18), 3) := by decide +kernel
theorem dX4_sum_25 : decode cX4_sum 25 = .ok (.iload_n 2, 1) := by decide +kernel
theorem dX4_sum_26 : decode cX4_sum 26 = .ok (.ireturn, 1) := by decide +kernel
set_option maxRecDepth 20000 in
theorem ggX4_placesTaken_X4_owners : GoodIn wsX4_placesTaken wsX4_owners := goodIn_r _ [5, 6, 7, 4, 8, 9, 10, 11, 12, 13, 14, 15, 16, 17, 18, 19, 20, 21, 22, 23, 24, 25, 26, 27, 28, 29] (by decide +kernel) (by decide +kernel)
set_option maxRecDepth 20000 in
theorem gX4_placesTaken_X4_owners : GoodIn wsX4_placesTaken (wsV RX4 184 RX4 yX4_owners wsX4_owners) := goodIn_app (goodIn_of _ (by decide +kernel)) ggX4_placesTaken_X4_owners
theorem dX4_placesTaken_0 : decode cX4_placesTaken 0 = .ok (.iconst 0, 1) := by decide +kernel
theorem dX4_placesTaken_1 : decode cX4_placesTaken 1 = .ok (.istore_n 1, 1) := by decide +kernel
theorem dX4_placesTaken_2 : decode cX4_placesTaken 2 = .ok (.iconst 0, 1) := by decide +kernel
theorem dX4_placesTaken_3 : decode cX4_placesTaken 3 = .ok (.istore_n 2, 1) := by decide +kernel
theorem dX4_placesTaken_4 : decode cX4_placesTaken 4 = .ok (.iload_n 2, 1) := by decide +kernel
theorem dX4_placesTaken_5 : decode cX4_placesTaken 5 = .ok (.sipush 300, 3) := by decide +kernel
theorem dX4_placesTaken_8 : decode cX4_placesTaken 8 = .ok (.if_icmp .ge 29, 3) := by decide +kernel
theorem dX4_placesTaken_11 : decode cX4_placesTaken 11 = .ok (.iload_n 1, 1) := by decide +kernel
theorem dX4_placesTaken_12 : decode cX4_placesTaken 12 = .ok (.aload_n 0, 1) := by decide +kernel
theorem dX4_placesTaken_13 : decode cX4_placesTaken 13 = .ok (.iload_n 2, 1) := by decide +kernel
theorem dX4_placesTaken_14 : decode cX4_placesTaken 14 = .ok (.iconst 0, 1) := by decide +kernel
theorem dX4_placesTaken_15 : decode cX4_placesTaken 15 = .ok (.invokevirtual 184, 3) := by decide +kernel
theorem dX4_placesTaken_18 : decode cX4_placesTaken 18 = .ok (.sipush 255, 3) := by decide +kernel
theorem dX4_placesTaken_21 : decode cX4_placesTaken 21 = .ok (.if_icmp .ne 7, 3) := by decide +kernel
theorem dX4_placesTaken_24 : decode cX4_placesTaken 24 = .ok (.iconst 0, 1) := by decide +kernel
theorem dX4_placesTaken_25 : decode cX4_placesTaken 25 = .ok (.goto 4, 3) := by decide +kernel
theorem dX4_placesTaken_28 : decode cX4_placesTaken 28 = .ok (.iconst 1, 1) := by decide +kernel
theorem dX4_placesTaken_29 : decode cX4_placesTaken 29 = .ok (.iadd, 1) := by decide +kernel
theorem dX4_placesTaken_30 : decode cX4_placesTaken 30 = .ok (.istore_n 1, 1) := by decide +kernel
theorem dX4_placesTaken_31 : decode cX4_placesTaken 31 = .ok (.iinc 2 1, 3) := by decide +kernel
theorem dX4_placesTaken_34 : decode cX4_placesTaken 34 = .ok (.goto (-30), 3) := by decide +kernel
theorem dX4_placesTaken_37 : decode cX4_placesTaken 37 = .ok (.iload_n 1, 1) := by decide +kernel
theorem dX4_placesTaken_38 : decode cX4_placesTaken 38 = .ok (.ireturn, 1) := by decide +kernel
set_option maxRecDepth 20000 in
theorem ggX4_count_X4_placesTaken : GoodIn wsX4_count wsX4_placesTaken := goodIn_r _ [8, 9, 10, 11, 7, 12, 13, 14, 15, 16, 17, 18, 19, 1, 28, 29, 30, 31, 32, 33, 34, 35, 36, 37, 38, 39, 40, 41, 42, 43] (by decide +kernel) (by decide +kernel)
set_option maxRecDepth 20000 in
theorem gX4_count_X4_placesTaken : GoodIn wsX4_count (wsV RX4 187 RX4 yX4_placesTaken wsX4_placesTaken) := goodIn_app (goodIn_of _ (by decide +kernel)) ggX4_count_X4_placesTaken
set_option maxRecDepth 20000 in
theorem ggX4_count_X4_sum : GoodIn wsX4_count wsX4_sum := goodIn_r _ [23, 24, 25, 26, 7, 27, 1, 28, 29, 30, 31, 32, 33, 34, 35, 36, 37, 38, 39, 40, 41, 42, 43] (by decide +kernel) (by decide +kernel)
set_option maxRecDepth 20000 in
theorem gX4_count_X4_sum : GoodIn wsX4_count (wsV RX4 190 RX4 yX4_sum wsX4_sum) := goodIn_app (goodIn_of _ (by decide +kernel)) ggX4_count_X4_sum
theorem dX4_count_0 : decode cX4_count 0 = .ok (.iload_n 1, 1) := by decide +kernel
theorem dX4_count_1 : decode cX4_count 1 = .ok (.tableswitch 120 0 10 #[59, 66, 73, 78, 78, 78, 89, 95, 102, 110, 115], 59) := by decide +kernel
theorem dX4_count_60 : decode cX4_count 60 = .ok (.aload_n 0, 1) := by decide +kernel
theorem dX4_count_61 : decode cX4_count 61 = .ok (.getfield 7, 3) := by decide +kernel
theorem dX4_count_64 : decode cX4_count 64 = .ok (.iconst 0, 1) := by decide +kernel
theorem dX4_count_65 : decode cX4_count 65 = .ok (.iaload, 1) := by decide +kernel
theorem dX4_count_66 : decode cX4_count 66 = .ok (.ireturn, 1) := by decide +kernel
theorem dX4_count_67 : decode cX4_count 67 = .ok (.aload_n 0, 1) := by decide +kernel
theorem dX4_count_68 : decode cX4_count 68 = .ok (.getfield 7, 3) := by decide +kernel
theorem dX4_count_71 : decode cX4_count 71 = .ok (.iconst 1, 1) := by decide +kernel
theorem dX4_count_72 : decode cX4_count 72 = .ok (.iaload, 1) := by decide +kernel
theorem dX4_count_73 : decode cX4_count 73 = .ok (.ireturn, 1) := by decide +kernel
theorem dX4_count_74 : decode cX4_count 74 = .ok (.aload_n 0, 1) := by decide +kernel
theorem dX4_count_75 : decode cX4_count 75 = .ok (.invokevirtual 187, 3) := by decide +kernel
theorem dX4_count_78 : decode cX4_count 78 = .ok (.ireturn, 1) := by decide +kernel
theorem dX4_count_79 : decode cX4_count 79 = .ok (.aload_n 0, 1) := by decide +kernel
theorem dX4_count_80 : decode cX4_count 80 = .ok (.getfield 7, 3) := by decide +kernel
theorem dX4_count_83 : decode cX4_count 83 = .ok (.iconst 2, 1) := by decide +kernel
theorem dX4_count_84 : decode cX4_count 84 = .ok (.iload_n 1, 1) := by decide +kernel
theorem dX4_count_85 : decode cX4_count 85 = .ok (.iadd, 1) := by decide +kernel
theorem dX4_count_86 : decode cX4_count 86 = .ok (.iconst 3, 1) := by decide +kernel
theorem dX4_count_87 : decode cX4_count 87 = .ok (.isub, 1) := by decide +kernel
theorem dX4_count_88 : decode cX4_count 88 = .ok (.iaload, 1) := by decide +kernel
theorem dX4_count_89 : decode cX4_count 89 = .ok (.ireturn, 1) := by decide +kernel
theorem dX4_count_90 : decode cX4_count 90 = .ok (.aload_n 0, 1) := by decide +kernel
theorem dX4_count_91 : decode cX4_count 91 = .ok (.iconst 4, 1) := by decide +kernel
theorem dX4_count_92 : decode cX4_count 92 = .ok (.invokevirtual 190, 3) := by decide +kernel
theorem dX4_count_95 : decode cX4_count 95 = .ok (.ireturn, 1) := by decide +kernel
theorem dX4_count_96 : decode cX4_count 96 = .ok (.aload_n 0, 1) := by decide +kernel
theorem dX4_count_97 : decode cX4_count 97 = .ok (.getfield 7, 3) := by decide +kernel
theorem dX4_count_100 : decode cX4_count 100 = .ok (.iconst 5, 1) := by decide +kernel
theorem dX4_count_101 : decode cX4_count 101 = .ok (.iaload, 1) := by decide +kernel
theorem dX4_count_102 : decode cX4_count 102 = .ok (.ireturn, 1) := by decide +kernel
theorem dX4_count_103 : decode cX4_count 103 = .ok (.aload_n 0, 1) := by decide +kernel
theorem dX4_count_104 : decode cX4_count 104 = .ok (.getfield 7, 3) := by decide +kernel
theorem dX4_count_107 : decode cX4_count 107 = .ok (.bipush 6, 2) := by decide +kernel
theorem dX4_count_109 : decode cX4_count 109 = .ok (.iaload, 1) := by decide +kernel
theorem dX4_count_110 : decode cX4_count 110 = .ok (.ireturn, 1) := by decide +kernel
theorem dX4_count_111 : decode cX4_count 111 = .ok (.aload_n 0, 1) := by decide +kernel
theorem dX4_count_112 : decode cX4_count 112 = .ok (.getfield 193, 3) := by decide +kernel
theorem dX4_count_115 : decode cX4_count 115 = .ok (.ireturn, 1) := by decide +kernel
theorem dX4_count_116 : decode cX4_count 116 = .ok (.aload_n 0, 1) := by decide +kernel
theorem dX4_count_117 : decode cX4_count 117 = .ok (.getfield 45, 3) := by decide +kernel
theorem dX4_count_120 : decode cX4_count 120 = .ok (.ireturn, 1) := by decide +kernel
theorem dX4_count_121 : decode cX4_count 121 = .ok (.bipush (-2), 2) := by decide +kernel
theorem dX4_count_123 : decode cX4_count 123 = .ok (.ireturn, 1) := by decide +kernel
set_option maxRecDepth 20000 in
theorem ggX4_whyNotAsk_X4_isOwner : GoodIn wsX4_whyNotAsk wsX4_isOwner := goodIn_r _ [4, 5, 6, 3, 7] (by decide +kernel) (by decide +kernel)
set_option maxRecDepth 20000 in
theorem gX4_whyNotAsk_X4_isOwner : GoodIn wsX4_whyNotAsk (va_wsS RX4 127 yX4_isOwner wsX4_isOwner) := goodIn_app (goodIn_of _ (by decide +kernel)) ggX4_whyNotAsk_X4_isOwner
set_option maxRecDepth 20000 in
theorem ggX4_whyNotAsk_X4_in : GoodIn wsX4_whyNotAsk wsX4_in := goodIn_r _ [7] (by decide +kernel) (by decide +kernel)
set_option maxRecDepth 20000 in
theorem gX4_whyNotAsk_X4_in : GoodIn wsX4_whyNotAsk (va_wsS RX4 41 yX4_in wsX4_in) := goodIn_app (goodIn_of _ (by decide +kernel)) ggX4_whyNotAsk_X4_in
set_option maxRecDepth 20000 in
theorem ggX4_whyNotAsk_X4_isRange : GoodIn wsX4_whyNotAsk wsX4_isRange := goodIn_r _ [10, 5, 6, 3, 7] (by decide +kernel) (by decide +kernel)
set_option maxRecDepth 20000 in
theorem gX4_whyNotAsk_X4_isRange : GoodIn wsX4_whyNotAsk (va_wsS RX4 131 yX4_isRange wsX4_isRange) := goodIn_app (goodIn_of _ (by decide +kernel)) ggX4_whyNotAsk_X4_isRange
theorem dX4_whyNotAsk_0 : decode cX4_whyNotAsk 0 = .ok (.iload_n 0, 1) := by decide +kernel
theorem dX4_whyNotAsk_1 : decode cX4_whyNotAsk 1 = .ok (.invokestatic 127, 3) := by decide +kernel
theorem dX4_whyNotAsk_4 : decode cX4_whyNotAsk 4 = .ok (.ifCond .ne 7, 3) := by decide +kernel
theorem dX4_whyNotAsk_7 : decode cX4_whyNotAsk 7 = .ok (.iconst (-1), 1) := by decide +kernel
theorem dX4_whyNotAsk_8 : decode cX4_whyNotAsk 8 = .ok (.goto 26, 3) := by decide +kernel
theorem dX4_whyNotAsk_11 : decode cX4_whyNotAsk 11 = .ok (.iload_n 1, 1) := by decide +kernel
theorem dX4_whyNotAsk_12 : decode cX4_whyNotAsk 12 = .ok (.iconst 1, 1) := by decide +kernel
theorem dX4_whyNotAsk_13 : decode cX4_whyNotAsk 13 = .ok (.iconst 3, 1) := by decide +kernel
theorem dX4_whyNotAsk_14 : decode cX4_whyNotAsk 14 = .ok (.invokestatic 41, 3) := by decide +kernel
theorem dX4_whyNotAsk_17 : decode cX4_whyNotAsk 17 = .ok (.ifCond .eq 15, 3) := by decide +kernel
theorem dX4_whyNotAsk_20 : decode cX4_whyNotAsk 20 = .ok (.iload_n 2, 1) := by decide +kernel
theorem dX4_whyNotAsk_21 : decode cX4_whyNotAsk 21 = .ok (.iload_n 3, 1) := by decide +kernel
theorem dX4_whyNotAsk_22 : decode cX4_whyNotAsk 22 = .ok (.invokestatic 131, 3) := by decide +kernel
theorem dX4_whyNotAsk_25 : decode cX4_whyNotAsk 25 = .ok (.ifCond .eq 7, 3) := by decide +kernel
theorem dX4_whyNotAsk_28 : decode cX4_whyNotAsk 28 = .ok (.iconst 0, 1) := by decide +kernel
theorem dX4_whyNotAsk_29 : decode cX4_whyNotAsk 29 = .ok (.goto 5, 3) := by decide +kernel
theorem dX4_whyNotAsk_32 : decode cX4_whyNotAsk 32 = .ok (.bipush (-2), 2) := by decide +kernel
theorem dX4_whyNotAsk_34 : decode cX4_whyNotAsk 34 = .ok (.ireturn, 1) := by decide +kernel
set_option maxRecDepth 20000 in
theorem ggX4_couldGive_X4_whyNotAsk : GoodIn wsX4_couldGive wsX4_whyNotAsk := goodIn_r _ [5, 6, 7, 4, 8, 9, 10, 11, 12, 13, 14] (by decide +kernel) (by decide +kernel)
set_option maxRecDepth 20000 in
theorem gX4_couldGive_X4_whyNotAsk : GoodIn wsX4_couldGive (va_wsS RX4 196 yX4_whyNotAsk wsX4_whyNotAsk) := goodIn_app (goodIn_of _ (by decide +kernel)) ggX4_couldGive_X4_whyNotAsk
set_option maxRecDepth 20000 in
theorem ggX4_couldGive_X4_stoppedIn : GoodIn wsX4_couldGive wsX4_stoppedIn := goodIn_r _ [18, 19, 20, 21, 4, 22, 23, 24, 25, 26, 1, 27, 28, 29, 30, 31, 32, 33, 34, 35, 36, 37, 38, 39, 40, 41, 42, 43, 44, 45, 46, 47, 48, 49, 50, 51, 52, 53] (by decide +kernel) (by decide +kernel)
set_option maxRecDepth 20000 in
theorem gX4_couldGive_X4_stoppedIn : GoodIn wsX4_couldGive (wsV RX4 77 RX4 yX4_stoppedIn wsX4_stoppedIn) := goodIn_app (goodIn_of _ (by decide +kernel)) ggX4_couldGive_X4_stoppedIn
theorem dX4_couldGive_0 : decode cX4_couldGive 0 = .ok (.iload_n 1, 1) := by decide +kernel
theorem dX4_couldGive_1 : decode cX4_couldGive 1 = .ok (.iload_n 2, 1) := by decide +kernel
theorem dX4_couldGive_2 : decode cX4_couldGive 2 = .ok (.iload_n 3, 1) := by decide +kernel
theorem dX4_couldGive_3 : decode cX4_couldGive 3 = .ok (.iload 4, 2) := by decide +kernel
theorem dX4_couldGive_5 : decode cX4_couldGive 5 = .ok (.invokestatic 196, 3) := by decide +kernel
theorem dX4_couldGive_8 : decode cX4_couldGive 8 = .ok (.istore 5, 2) := by decide +kernel
theorem dX4_couldGive_10 : decode cX4_couldGive 10 = .ok (.iload 5, 2) := by decide +kernel
theorem dX4_couldGive_12 : decode cX4_couldGive 12 = .ok (.ifCond .ge 8, 3) := by decide +kernel
theorem dX4_couldGive_15 : decode cX4_couldGive 15 = .ok (.iload 5, 2) := by decide +kernel
theorem dX4_couldGive_17 : decode cX4_couldGive 17 = .ok (.goto 26, 3) := by decide +kernel
theorem dX4_couldGive_20 : decode cX4_couldGive 20 = .ok (.aload_n 0, 1) := by decide +kernel
theorem dX4_couldGive_21 : decode cX4_couldGive 21 = .ok (.iload_n 1, 1) := by decide +kernel
theorem dX4_couldGive_22 : decode cX4_couldGive 22 = .ok (.iload_n 2, 1) := by decide +kernel
theorem dX4_couldGive_23 : decode cX4_couldGive 23 = .ok (.iload_n 3, 1) := by decide +kernel
theorem dX4_couldGive_24 : decode cX4_couldGive 24 = .ok (.iload 4, 2) := by decide +kernel
theorem dX4_couldGive_26 : decode cX4_couldGive 26 = .ok (.aload_n 0, 1) := by decide +kernel
theorem dX4_couldGive_27 : decode cX4_couldGive 27 = .ok (.getfield 7, 3) := by decide +kernel
theorem dX4_couldGive_30 : decode cX4_couldGive 30 = .ok (.iconst 1, 1) := by decide +kernel
theorem dX4_couldGive_31 : decode cX4_couldGive 31 = .ok (.iaload, 1) := by decide +kernel
theorem dX4_couldGive_32 : decode cX4_couldGive 32 = .ok (.invokevirtual 77, 3) := by decide +kernel
theorem dX4_couldGive_35 : decode cX4_couldGive 35 = .ok (.ifCond .ne 7, 3) := by decide +kernel
theorem dX4_couldGive_38 : decode cX4_couldGive 38 = .ok (.iconst 1, 1) := by decide +kernel
theorem dX4_couldGive_39 : decode cX4_couldGive 39 = .ok (.goto 4, 3) := by decide +kernel
theorem dX4_couldGive_42 : decode cX4_couldGive 42 = .ok (.iconst 0, 1) := by decide +kernel
theorem dX4_couldGive_43 : decode cX4_couldGive 43 = .ok (.ireturn, 1) := by decide +kernel
set_option maxRecDepth 20000 in
theorem ggX4_inTheWay_X4_whyNotAsk : GoodIn wsX4_inTheWay wsX4_whyNotAsk := goodIn_r _ [5, 6, 7, 4, 8, 9, 10, 11, 12, 13, 14] (by decide +kernel) (by decide +kernel)
set_option maxRecDepth 20000 in
theorem gX4_inTheWay_X4_whyNotAsk : GoodIn wsX4_inTheWay (va_wsS RX4 196 yX4_whyNotAsk wsX4_whyNotAsk) := goodIn_app (goodIn_of _ (by decide +kernel)) ggX4_inTheWay_X4_whyNotAsk
set_option maxRecDepth 20000 in
theorem ggX4_inTheWay_X4_stoppedIn : GoodIn wsX4_inTheWay wsX4_stoppedIn := goodIn_r _ [18, 19, 20, 21, 4, 22, 23, 24, 25, 26, 1, 27, 28, 29, 30, 31, 32, 33, 34, 35, 36, 37, 38, 39, 40, 41, 42, 43, 44, 45, 46, 47, 48, 49, 50, 51, 52, 53] (by decide +kernel) (by decide +kernel)
set_option maxRecDepth 20000 in
theorem gX4_inTheWay_X4_stoppedIn : GoodIn wsX4_inTheWay (wsV RX4 77 RX4 yX4_stoppedIn wsX4_stoppedIn) := goodIn_app (goodIn_of _ (by decide +kernel)) ggX4_inTheWay_X4_stoppedIn
theorem dX4_inTheWay_0 : decode cX4_inTheWay 0 = .ok (.iload_n 1, 1) := by decide +kernel
theorem dX4_inTheWay_1 : decode cX4_inTheWay 1 = .ok (.iload_n 2, 1) := by decide +kernel
theorem dX4_inTheWay_2 : decode cX4_inTheWay 2 = .ok (.iload_n 3, 1) := by decide +kernel
theorem dX4_inTheWay_3 : decode cX4_inTheWay 3 = .ok (.iload 4, 2) := by decide +kernel
theorem dX4_inTheWay_5 : decode cX4_inTheWay 5 = .ok (.invokestatic 196, 3) := by decide +kernel
theorem dX4_inTheWay_8 : decode cX4_inTheWay 8 = .ok (.istore 5, 2) := by decide +kernel
theorem dX4_inTheWay_10 : decode cX4_inTheWay 10 = .ok (.iload 5, 2) := by decide +kernel
theorem dX4_inTheWay_12 : decode cX4_inTheWay 12 = .ok (.ifCond .ge 8, 3) := by decide +kernel
theorem dX4_inTheWay_15 : decode cX4_inTheWay 15 = .ok (.iload 5, 2) := by decide +kernel
theorem dX4_inTheWay_17 : decode cX4_inTheWay 17 = .ok (.goto 18, 3) := by decide +kernel
theorem dX4_inTheWay_20 : decode cX4_inTheWay 20 = .ok (.aload_n 0, 1) := by decide +kernel
theorem dX4_inTheWay_21 : decode cX4_inTheWay 21 = .ok (.iload_n 1, 1) := by decide +kernel
theorem dX4_inTheWay_22 : decode cX4_inTheWay 22 = .ok (.iload_n 2, 1) := by decide +kernel
theorem dX4_inTheWay_23 : decode cX4_inTheWay 23 = .ok (.iload_n 3, 1) := by decide +kernel
theorem dX4_inTheWay_24 : decode cX4_inTheWay 24 = .ok (.iload 4, 2) := by decide +kernel
theorem dX4_inTheWay_26 : decode cX4_inTheWay 26 = .ok (.aload_n 0, 1) := by decide +kernel
theorem dX4_inTheWay_27 : decode cX4_inTheWay 27 = .ok (.getfield 7, 3) := by decide +kernel
theorem dX4_inTheWay_30 : decode cX4_inTheWay 30 = .ok (.iconst 1, 1) := by decide +kernel
theorem dX4_inTheWay_31 : decode cX4_inTheWay 31 = .ok (.iaload, 1) := by decide +kernel
theorem dX4_inTheWay_32 : decode cX4_inTheWay 32 = .ok (.invokevirtual 77, 3) := by decide +kernel
theorem dX4_inTheWay_35 : decode cX4_inTheWay 35 = .ok (.ireturn, 1) := by decide +kernel
set_option maxRecDepth 20000 in
theorem ggX4_ring_X4_whyNotAsk : GoodIn wsX4_ring wsX4_whyNotAsk := goodIn_r _ [4, 5, 6, 3, 7, 8, 9, 10, 11, 12, 13] (by decide +kernel) (by decide +kernel)
set_option maxRecDepth 20000 in
theorem gX4_ring_X4_whyNotAsk : GoodIn wsX4_ring (va_wsS RX4 196 yX4_whyNotAsk wsX4_whyNotAsk) := goodIn_app (goodIn_of _ (by decide +kernel)) ggX4_ring_X4_whyNotAsk
set_option maxRecDepth 20000 in
theorem ggX4_ring_X4_layAside : GoodIn wsX4_ring wsX4_layAside := goodIn_r _ [17, 18, 19, 88, 89, 90, 91, 92, 93, 94, 95, 96, 97, 98, 99, 100, 101, 102, 103] (by decide +kernel) (by decide +kernel)
set_option maxRecDepth 20000 in
theorem gX4_ring_X4_layAside : GoodIn wsX4_ring (wsV RX4 199 RX4 yX4_layAside wsX4_layAside) := goodIn_app (goodIn_of _ (by decide +kernel)) ggX4_ring_X4_layAside
set_option maxRecDepth 20000 in
theorem ggX4_ring_X4_of : GoodIn wsX4_ring wsX4_of := goodIn_r _ [23, 19, 88, 89, 90, 91, 92, 93, 94, 95, 96, 97, 98, 99, 100, 101, 102, 103] (by decide +kernel) (by decide +kernel)
set_option maxRecDepth 20000 in
theorem gX4_ring_X4_of : GoodIn wsX4_ring (wsV RX4 63 RX4 yX4_of wsX4_of) := goodIn_app (goodIn_of _ (by decide +kernel)) ggX4_ring_X4_of
set_option maxRecDepth 20000 in
theorem ggX4_ring_X4_leaveRow : GoodIn wsX4_ring wsX4_leaveRow := goodIn_r _ [27, 19, 28, 29, 30, 3, 31, 32, 33, 34, 35, 88, 89, 90, 91, 92, 93, 94, 95, 96, 97, 98, 99, 100, 101, 102, 103] (by decide +kernel) (by decide +kernel)
set_option maxRecDepth 20000 in
theorem gX4_ring_X4_leaveRow : GoodIn wsX4_ring (wsV RX4 102 RX4 yX4_leaveRow wsX4_leaveRow) := goodIn_app (goodIn_of _ (by decide +kernel)) ggX4_ring_X4_leaveRow
set_option maxRecDepth 20000 in
theorem ggX4_ring_X4_joinRow : GoodIn wsX4_ring wsX4_joinRow := goodIn_r _ [39, 19, 32, 33, 34, 3, 35, 88, 89, 90, 91, 92, 93, 94, 95, 96, 97, 98, 99, 100, 101, 102, 103] (by decide +kernel) (by decide +kernel)
set_option maxRecDepth 20000 in
theorem gX4_ring_X4_joinRow : GoodIn wsX4_ring (wsV RX4 138 RX4 yX4_joinRow wsX4_joinRow) := goodIn_app (goodIn_of _ (by decide +kernel)) ggX4_ring_X4_joinRow
set_option maxRecDepth 20000 in
theorem ggX4_ring_X4_ringNow : GoodIn wsX4_ring wsX4_ringNow := goodIn_r _ [43, 44, 45, 46, 3, 47, 48, 49, 50, 51, 52, 28, 29, 30, 31, 19, 20, 21, 22, 23, 53, 54, 55, 56, 57, 58, 59, 60, 61, 62, 63, 64, 65, 66, 67, 68, 69, 70, 71, 72, 73, 74, 75, 76, 77, 78, 79, 80, 81, 82, 83, 88, 89, 90, 91, 92, 93, 94, 95, 96, 97, 98, 99, 100, 101, 102, 103] (by decide +kernel) (by decide +kernel)
set_option maxRecDepth 20000 in
theorem gX4_ring_X4_ringNow : GoodIn wsX4_ring (wsV RX4 141 RX4 yX4_ringNow wsX4_ringNow) := goodIn_app (goodIn_of _ (by decide +kernel)) ggX4_ring_X4_ringNow
set_option maxRecDepth 20000 in
theorem ggX4_ring_X4_layBack : GoodIn wsX4_ring wsX4_layBack := goodIn_r _ [87, 19, 18, 88, 89, 90, 91, 92, 93, 94, 95, 96, 97, 98, 99, 100, 101, 102, 103] (by decide +kernel) (by decide +kernel)
set_option maxRecDepth 20000 in
theorem gX4_ring_X4_layBack : GoodIn wsX4_ring (wsV RX4 202 RX4 yX4_layBack wsX4_layBack) := goodIn_app (goodIn_of _ (by decide +kernel)) ggX4_ring_X4_layBack
theorem dX4_ring_0 : decode cX4_ring 0 = .ok (.iload_n 1, 1) := by decide +kernel
theorem dX4_ring_1 : decode cX4_ring 1 = .ok (.iload_n 2, 1) := by decide +kernel
theorem dX4_ring_2 : decode cX4_ring 2 = .ok (.iload_n 3, 1) := by decide +kernel
theorem dX4_ring_3 : decode cX4_ring 3 = .ok (.iload 4, 2) := by decide +kernel
theorem dX4_ring_5 : decode cX4_ring 5 = .ok (.invokestatic 196, 3) := by decide +kernel
theorem dX4_ring_8 : decode cX4_ring 8 = .ok (.istore 5, 2) := by decide +kernel
theorem dX4_ring_10 : decode cX4_ring 10 = .ok (.iload 5, 2) := by decide +kernel
theorem dX4_ring_12 : decode cX4_ring 12 = .ok (.ifCond .ge 6, 3) := by decide +kernel
theorem dX4_ring_15 : decode cX4_ring 15 = .ok (.iload 5, 2) := by decide +kernel
theorem dX4_ring_17 : decode cX4_ring 17 = .ok (.ireturn, 1) := by decide +kernel
theorem dX4_ring_18 : decode cX4_ring 18 = .ok (.aload_n 0, 1) := by decide +kernel
theorem dX4_ring_19 : decode cX4_ring 19 = .ok (.invokevirtual 199, 3) := by decide +kernel
theorem dX4_ring_22 : decode cX4_ring 22 = .ok (.aload_n 0, 1) := by decide +kernel
theorem dX4_ring_23 : decode cX4_ring 23 = .ok (.iload_n 1, 1) := by decide +kernel
theorem dX4_ring_24 : decode cX4_ring 24 = .ok (.iconst 0, 1) := by decide +kernel
theorem dX4_ring_25 : decode cX4_ring 25 = .ok (.invokevirtual 63, 3) := by decide +kernel
theorem dX4_ring_28 : decode cX4_ring 28 = .ok (.ifCond .le 8, 3) := by decide +kernel
theorem dX4_ring_31 : decode cX4_ring 31 = .ok (.aload_n 0, 1) := by decide +kernel
theorem dX4_ring_32 : decode cX4_ring 32 = .ok (.iload_n 1, 1) := by decide +kernel
theorem dX4_ring_33 : decode cX4_ring 33 = .ok (.invokevirtual 102, 3) := by decide +kernel
theorem dX4_ring_36 : decode cX4_ring 36 = .ok (.aload_n 0, 1) := by decide +kernel
theorem dX4_ring_37 : decode cX4_ring 37 = .ok (.iload_n 1, 1) := by decide +kernel
theorem dX4_ring_38 : decode cX4_ring 38 = .ok (.iload_n 2, 1) := by decide +kernel
theorem dX4_ring_39 : decode cX4_ring 39 = .ok (.iload_n 3, 1) := by decide +kernel
theorem dX4_ring_40 : decode cX4_ring 40 = .ok (.iload 4, 2) := by decide +kernel
theorem dX4_ring_42 : decode cX4_ring 42 = .ok (.invokevirtual 138, 3) := by decide +kernel
theorem dX4_ring_45 : decode cX4_ring 45 = .ok (.aload_n 0, 1) := by decide +kernel
theorem dX4_ring_46 : decode cX4_ring 46 = .ok (.iload_n 1, 1) := by decide +kernel
theorem dX4_ring_47 : decode cX4_ring 47 = .ok (.invokevirtual 141, 3) := by decide +kernel
theorem dX4_ring_50 : decode cX4_ring 50 = .ok (.istore 6, 2) := by decide +kernel
theorem dX4_ring_52 : decode cX4_ring 52 = .ok (.aload_n 0, 1) := by decide +kernel
theorem dX4_ring_53 : decode cX4_ring 53 = .ok (.invokevirtual 202, 3) := by decide +kernel
theorem dX4_ring_56 : decode cX4_ring 56 = .ok (.iload 6, 2) := by decide +kernel
theorem dX4_ring_58 : decode cX4_ring 58 = .ok (.ireturn, 1) := by decide +kernel
set_option maxRecDepth 20000 in
theorem ggX4_firstFor_X4_isOwner : GoodIn wsX4_firstFor wsX4_isOwner := goodIn_r _ [5, 6, 7, 4, 8] (by decide +kernel) (by decide +kernel)
set_option maxRecDepth 20000 in
theorem gX4_firstFor_X4_isOwner : GoodIn wsX4_firstFor (va_wsS RX4 127 yX4_isOwner wsX4_isOwner) := goodIn_app (goodIn_of _ (by decide +kernel)) ggX4_firstFor_X4_isOwner
set_option maxRecDepth 20000 in
theorem ggX4_firstFor_X4_in : GoodIn wsX4_firstFor wsX4_in := goodIn_r _ [8] (by decide +kernel) (by decide +kernel)
set_option maxRecDepth 20000 in
theorem gX4_firstFor_X4_in : GoodIn wsX4_firstFor (va_wsS RX4 41 yX4_in wsX4_in) := goodIn_app (goodIn_of _ (by decide +kernel)) ggX4_firstFor_X4_in
set_option maxRecDepth 20000 in
theorem ggX4_firstFor_X4_stoppedBy : GoodIn wsX4_firstFor wsX4_stoppedBy := goodIn_r _ [12, 13, 14, 15, 4, 16, 1, 17, 18, 19, 20, 21, 22, 23, 24, 25, 26, 27, 28, 29, 30, 31, 32, 33, 34, 35, 36, 37, 38, 39, 40, 41, 42, 43] (by decide +kernel) (by decide +kernel)
set_option maxRecDepth 20000 in
theorem gX4_firstFor_X4_stoppedBy : GoodIn wsX4_firstFor (wsV RX4 70 RX4 yX4_stoppedBy wsX4_stoppedBy) := goodIn_app (goodIn_of _ (by decide +kernel)) ggX4_firstFor_X4_stoppedBy
theorem dX4_firstFor_0 : decode cX4_firstFor 0 = .ok (.iload_n 1, 1) := by decide +kernel
theorem dX4_firstFor_1 : decode cX4_firstFor 1 = .ok (.invokestatic 127, 3) := by decide +kernel
theorem dX4_firstFor_4 : decode cX4_firstFor 4 = .ok (.ifCond .ne 5, 3) := by decide +kernel
theorem dX4_firstFor_7 : decode cX4_firstFor 7 = .ok (.iconst (-1), 1) := by decide +kernel
theorem dX4_firstFor_8 : decode cX4_firstFor 8 = .ok (.ireturn, 1) := by decide +kernel
theorem dX4_firstFor_9 : decode cX4_firstFor 9 = .ok (.iload_n 2, 1) := by decide +kernel
theorem dX4_firstFor_10 : decode cX4_firstFor 10 = .ok (.iconst 1, 1) := by decide +kernel
theorem dX4_firstFor_11 : decode cX4_firstFor 11 = .ok (.iconst 3, 1) := by decide +kernel
theorem dX4_firstFor_12 : decode cX4_firstFor 12 = .ok (.invokestatic 41, 3) := by decide +kernel
theorem dX4_firstFor_15 : decode cX4_firstFor 15 = .ok (.ifCond .eq 26, 3) := by decide +kernel
theorem dX4_firstFor_18 : decode cX4_firstFor 18 = .ok (.iload_n 3, 1) := by decide +kernel
theorem dX4_firstFor_19 : decode cX4_firstFor 19 = .ok (.iconst 1, 1) := by decide +kernel
theorem dX4_firstFor_20 : decode cX4_firstFor 20 = .ok (.sipush 300, 3) := by decide +kernel
theorem dX4_firstFor_23 : decode cX4_firstFor 23 = .ok (.invokestatic 41, 3) := by decide +kernel
theorem dX4_firstFor_26 : decode cX4_firstFor 26 = .ok (.ifCond .eq 15, 3) := by decide +kernel
theorem dX4_firstFor_29 : decode cX4_firstFor 29 = .ok (.iload 4, 2) := by decide +kernel
theorem dX4_firstFor_31 : decode cX4_firstFor 31 = .ok (.iconst 0, 1) := by decide +kernel
theorem dX4_firstFor_32 : decode cX4_firstFor 32 = .ok (.sipush 299, 3) := by decide +kernel
theorem dX4_firstFor_35 : decode cX4_firstFor 35 = .ok (.invokestatic 41, 3) := by decide +kernel
theorem dX4_firstFor_38 : decode cX4_firstFor 38 = .ok (.ifCond .ne 6, 3) := by decide +kernel
theorem dX4_firstFor_41 : decode cX4_firstFor 41 = .ok (.bipush (-2), 2) := by decide +kernel
theorem dX4_firstFor_43 : decode cX4_firstFor 43 = .ok (.ireturn, 1) := by decide +kernel
theorem dX4_firstFor_44 : decode cX4_firstFor 44 = .ok (.iconst 0, 1) := by decide +kernel
theorem dX4_firstFor_45 : decode cX4_firstFor 45 = .ok (.istore 5, 2) := by decide +kernel
theorem dX4_firstFor_47 : decode cX4_firstFor 47 = .ok (.iload 4, 2) := by decide +kernel
theorem dX4_firstFor_49 : decode cX4_firstFor 49 = .ok (.istore 6, 2) := by decide +kernel
theorem dX4_firstFor_51 : decode cX4_firstFor 51 = .ok (.iload 6, 2) := by decide +kernel
theorem dX4_firstFor_53 : decode cX4_firstFor 53 = .ok (.sipush 300, 3) := by decide +kernel
theorem dX4_firstFor_56 : decode cX4_firstFor 56 = .ok (.if_icmp .ge 49, 3) := by decide +kernel
theorem dX4_firstFor_59 : decode cX4_firstFor 59 = .ok (.aload_n 0, 1) := by decide +kernel
theorem dX4_firstFor_60 : decode cX4_firstFor 60 = .ok (.iload_n 1, 1) := by decide +kernel
theorem dX4_firstFor_61 : decode cX4_firstFor 61 = .ok (.iload_n 2, 1) := by decide +kernel
theorem dX4_firstFor_62 : decode cX4_firstFor 62 = .ok (.iload 6, 2) := by decide +kernel
theorem dX4_firstFor_64 : decode cX4_firstFor 64 = .ok (.aload_n 0, 1) := by decide +kernel
theorem dX4_firstFor_65 : decode cX4_firstFor 65 = .ok (.getfield 7, 3) := by decide +kernel
theorem dX4_firstFor_68 : decode cX4_firstFor 68 = .ok (.iconst 1, 1) := by decide +kernel
theorem dX4_firstFor_69 : decode cX4_firstFor 69 = .ok (.iaload, 1) := by decide +kernel
theorem dX4_firstFor_70 : decode cX4_firstFor 70 = .ok (.invokevirtual 70, 3) := by decide +kernel
theorem dX4_firstFor_73 : decode cX4_firstFor 73 = .ok (.ifCond .ne 10, 3) := by decide +kernel
theorem dX4_firstFor_76 : decode cX4_firstFor 76 = .ok (.iload 5, 2) := by decide +kernel
theorem dX4_firstFor_78 : decode cX4_firstFor 78 = .ok (.iconst 1, 1) := by decide +kernel
theorem dX4_firstFor_79 : decode cX4_firstFor 79 = .ok (.iadd, 1) := by decide +kernel
theorem dX4_firstFor_80 : decode cX4_firstFor 80 = .ok (.goto 4, 3) := by decide +kernel
theorem dX4_firstFor_83 : decode cX4_firstFor 83 = .ok (.iconst 0, 1) := by decide +kernel
theorem dX4_firstFor_84 : decode cX4_firstFor 84 = .ok (.istore 5, 2) := by decide +kernel
theorem dX4_firstFor_86 : decode cX4_firstFor 86 = .ok (.iload 5, 2) := by decide +kernel
theorem dX4_firstFor_88 : decode cX4_firstFor 88 = .ok (.iload_n 3, 1) := by decide +kernel
theorem dX4_firstFor_89 : decode cX4_firstFor 89 = .ok (.if_icmp .ne 10, 3) := by decide +kernel
theorem dX4_firstFor_92 : decode cX4_firstFor 92 = .ok (.iload 6, 2) := by decide +kernel
theorem dX4_firstFor_94 : decode cX4_firstFor 94 = .ok (.iconst 1, 1) := by decide +kernel
theorem dX4_firstFor_95 : decode cX4_firstFor 95 = .ok (.iadd, 1) := by decide +kernel
theorem dX4_firstFor_96 : decode cX4_firstFor 96 = .ok (.iload_n 3, 1) := by decide +kernel
theorem dX4_firstFor_97 : decode cX4_firstFor 97 = .ok (.isub, 1) := by decide +kernel
theorem dX4_firstFor_98 : decode cX4_firstFor 98 = .ok (.ireturn, 1) := by decide +kernel
theorem dX4_firstFor_99 : decode cX4_firstFor 99 = .ok (.iinc 6 1, 3) := by decide +kernel
theorem dX4_firstFor_102 : decode cX4_firstFor 102 = .ok (.goto (-51), 3) := by decide +kernel
theorem dX4_firstFor_105 : decode cX4_firstFor 105 = .ok (.bipush (-6), 2) := by decide +kernel
theorem dX4_firstFor_107 : decode cX4_firstFor 107 = .ok (.ireturn, 1) := by decide +kernel
set_option maxRecDepth 20000 in
theorem ggX4_longestFor_X4_isOwner : GoodIn wsX4_longestFor wsX4_isOwner := goodIn_r _ [5, 6, 7, 4, 8] (by decide +kernel) (by decide +kernel)
set_option maxRecDepth 20000 in
theorem gX4_longestFor_X4_isOwner : GoodIn wsX4_longestFor (va_wsS RX4 127 yX4_isOwner wsX4_isOwner) := goodIn_app (goodIn_of _ (by decide +kernel)) ggX4_longestFor_X4_isOwner
set_option maxRecDepth 20000 in
theorem ggX4_longestFor_X4_in : GoodIn wsX4_longestFor wsX4_in := goodIn_r _ [8] (by decide +kernel) (by decide +kernel)
set_option maxRecDepth 20000 in
theorem gX4_longestFor_X4_in : GoodIn wsX4_longestFor (va_wsS RX4 41 yX4_in wsX4_in) := goodIn_app (goodIn_of _ (by decide +kernel)) ggX4_longestFor_X4_in
set_option maxRecDepth 20000 in
theorem ggX4_longestFor_X4_stoppedBy : GoodIn wsX4_longestFor wsX4_stoppedBy := goodIn_r _ [12, 13, 14, 15, 4, 16, 1, 17, 18, 19, 20, 21, 22, 23, 24, 25, 26, 27, 28, 29, 30, 31, 32, 33, 34, 35, 36, 37, 38, 39, 40, 41, 42, 43] (by decide +kernel) (by decide +kernel)
set_option maxRecDepth 20000 in
theorem gX4_longestFor_X4_stoppedBy : GoodIn wsX4_longestFor (wsV RX4 70 RX4 yX4_stoppedBy wsX4_stoppedBy) := goodIn_app (goodIn_of _ (by decide +kernel)) ggX4_longestFor_X4_stoppedBy
theorem dX4_longestFor_0 : decode cX4_longestFor 0 = .ok (.iload_n 1, 1) := by decide +kernel
theorem dX4_longestFor_1 : decode cX4_longestFor 1 = .ok (.invokestatic 127, 3) := by decide +kernel
theorem dX4_longestFor_4 : decode cX4_longestFor 4 = .ok (.ifCond .ne 5, 3) := by decide +kernel
theorem dX4_longestFor_7 : decode cX4_longestFor 7 = .ok (.iconst (-1), 1) := by decide +kernel
theorem dX4_longestFor_8 : decode cX4_longestFor 8 = .ok (.ireturn, 1) := by decide +kernel
theorem dX4_longestFor_9 : decode cX4_longestFor 9 = .ok (.iload_n 2, 1) := by decide +kernel
theorem dX4_longestFor_10 : decode cX4_longestFor 10 = .ok (.iconst 1, 1) := by decide +kernel
theorem dX4_longestFor_11 : decode cX4_longestFor 11 = .ok (.iconst 3, 1) := by decide +kernel
theorem dX4_longestFor_12 : decode cX4_longestFor 12 = .ok (.invokestatic 41, 3) := by decide +kernel
theorem dX4_longestFor_15 : decode cX4_longestFor 15 = .ok (.ifCond .eq 12, 3) := by decide +kernel
theorem dX4_longestFor_18 : decode cX4_longestFor 18 = .ok (.iload_n 3, 1) := by decide +kernel
theorem dX4_longestFor_19 : decode cX4_longestFor 19 = .ok (.iconst 0, 1) := by decide +kernel
theorem dX4_longestFor_20 : decode cX4_longestFor 20 = .ok (.iconst 1, 1) := by decide +kernel
theorem dX4_longestFor_21 : decode cX4_longestFor 21 = .ok (.invokestatic 41, 3) := by decide +kernel
theorem dX4_longestFor_24 : decode cX4_longestFor 24 = .ok (.ifCond .ne 6, 3) := by decide +kernel
theorem dX4_longestFor_27 : decode cX4_longestFor 27 = .ok (.bipush (-2), 2) := by decide +kernel
theorem dX4_longestFor_29 : decode cX4_longestFor 29 = .ok (.ireturn, 1) := by decide +kernel
theorem dX4_longestFor_30 : decode cX4_longestFor 30 = .ok (.iconst 0, 1) := by decide +kernel
theorem dX4_longestFor_31 : decode cX4_longestFor 31 = .ok (.istore 4, 2) := by decide +kernel
theorem dX4_longestFor_33 : decode cX4_longestFor 33 = .ok (.iconst 0, 1) := by decide +kernel
theorem dX4_longestFor_34 : decode cX4_longestFor 34 = .ok (.istore 5, 2) := by decide +kernel
theorem dX4_longestFor_36 : decode cX4_longestFor 36 = .ok (.iconst 0, 1) := by decide +kernel
theorem dX4_longestFor_37 : decode cX4_longestFor 37 = .ok (.istore 6, 2) := by decide +kernel
theorem dX4_longestFor_39 : decode cX4_longestFor 39 = .ok (.iconst 0, 1) := by decide +kernel
theorem dX4_longestFor_40 : decode cX4_longestFor 40 = .ok (.istore 7, 2) := by decide +kernel
theorem dX4_longestFor_42 : decode cX4_longestFor 42 = .ok (.iload 7, 2) := by decide +kernel
theorem dX4_longestFor_44 : decode cX4_longestFor 44 = .ok (.sipush 300, 3) := by decide +kernel
theorem dX4_longestFor_47 : decode cX4_longestFor 47 = .ok (.if_icmp .ge 73, 3) := by decide +kernel
theorem dX4_longestFor_50 : decode cX4_longestFor 50 = .ok (.aload_n 0, 1) := by decide +kernel
theorem dX4_longestFor_51 : decode cX4_longestFor 51 = .ok (.iload_n 1, 1) := by decide +kernel
theorem dX4_longestFor_52 : decode cX4_longestFor 52 = .ok (.iload_n 2, 1) := by decide +kernel
theorem dX4_longestFor_53 : decode cX4_longestFor 53 = .ok (.iload 7, 2) := by decide +kernel
theorem dX4_longestFor_55 : decode cX4_longestFor 55 = .ok (.aload_n 0, 1) := by decide +kernel
theorem dX4_longestFor_56 : decode cX4_longestFor 56 = .ok (.getfield 7, 3) := by decide +kernel
theorem dX4_longestFor_59 : decode cX4_longestFor 59 = .ok (.iconst 1, 1) := by decide +kernel
theorem dX4_longestFor_60 : decode cX4_longestFor 60 = .ok (.iaload, 1) := by decide +kernel
theorem dX4_longestFor_61 : decode cX4_longestFor 61 = .ok (.invokevirtual 70, 3) := by decide +kernel
theorem dX4_longestFor_64 : decode cX4_longestFor 64 = .ok (.ifCond .ne 10, 3) := by decide +kernel
theorem dX4_longestFor_67 : decode cX4_longestFor 67 = .ok (.iload 4, 2) := by decide +kernel
theorem dX4_longestFor_69 : decode cX4_longestFor 69 = .ok (.iconst 1, 1) := by decide +kernel
theorem dX4_longestFor_70 : decode cX4_longestFor 70 = .ok (.iadd, 1) := by decide +kernel
theorem dX4_longestFor_71 : decode cX4_longestFor 71 = .ok (.goto 4, 3) := by decide +kernel
theorem dX4_longestFor_74 : decode cX4_longestFor 74 = .ok (.iconst 0, 1) := by decide +kernel
theorem dX4_longestFor_75 : decode cX4_longestFor 75 = .ok (.istore 4, 2) := by decide +kernel
theorem dX4_longestFor_77 : decode cX4_longestFor 77 = .ok (.iload 4, 2) := by decide +kernel
theorem dX4_longestFor_79 : decode cX4_longestFor 79 = .ok (.iload 6, 2) := by decide +kernel
theorem dX4_longestFor_81 : decode cX4_longestFor 81 = .ok (.if_icmp .le 13, 3) := by decide +kernel
theorem dX4_longestFor_84 : decode cX4_longestFor 84 = .ok (.iload 7, 2) := by decide +kernel
theorem dX4_longestFor_86 : decode cX4_longestFor 86 = .ok (.iconst 1, 1) := by decide +kernel
theorem dX4_longestFor_87 : decode cX4_longestFor 87 = .ok (.iadd, 1) := by decide +kernel
theorem dX4_longestFor_88 : decode cX4_longestFor 88 = .ok (.iload 4, 2) := by decide +kernel
theorem dX4_longestFor_90 : decode cX4_longestFor 90 = .ok (.isub, 1) := by decide +kernel
theorem dX4_longestFor_91 : decode cX4_longestFor 91 = .ok (.goto 5, 3) := by decide +kernel
theorem dX4_longestFor_94 : decode cX4_longestFor 94 = .ok (.iload 5, 2) := by decide +kernel
theorem dX4_longestFor_96 : decode cX4_longestFor 96 = .ok (.istore 5, 2) := by decide +kernel
theorem dX4_longestFor_98 : decode cX4_longestFor 98 = .ok (.iload 4, 2) := by decide +kernel
theorem dX4_longestFor_100 : decode cX4_longestFor 100 = .ok (.iload 6, 2) := by decide +kernel
theorem dX4_longestFor_102 : decode cX4_longestFor 102 = .ok (.if_icmp .le 8, 3) := by decide +kernel
theorem dX4_longestFor_105 : decode cX4_longestFor 105 = .ok (.iload 4, 2) := by decide +kernel
theorem dX4_longestFor_107 : decode cX4_longestFor 107 = .ok (.goto 5, 3) := by decide +kernel
theorem dX4_longestFor_110 : decode cX4_longestFor 110 = .ok (.iload 6, 2) := by decide +kernel
theorem dX4_longestFor_112 : decode cX4_longestFor 112 = .ok (.istore 6, 2) := by decide +kernel
theorem dX4_longestFor_114 : decode cX4_longestFor 114 = .ok (.iinc 7 1, 3) := by decide +kernel
theorem dX4_longestFor_117 : decode cX4_longestFor 117 = .ok (.goto (-75), 3) := by decide +kernel
theorem dX4_longestFor_120 : decode cX4_longestFor 120 = .ok (.iload 6, 2) := by decide +kernel
theorem dX4_longestFor_122 : decode cX4_longestFor 122 = .ok (.ifCond .ne 8, 3) := by decide +kernel
theorem dX4_longestFor_125 : decode cX4_longestFor 125 = .ok (.bipush (-6), 2) := by decide +kernel
theorem dX4_longestFor_127 : decode cX4_longestFor 127 = .ok (.goto 14, 3) := by decide +kernel
theorem dX4_longestFor_130 : decode cX4_longestFor 130 = .ok (.iload_n 3, 1) := by decide +kernel
theorem dX4_longestFor_131 : decode cX4_longestFor 131 = .ok (.ifCond .ne 8, 3) := by decide +kernel
theorem dX4_longestFor_134 : decode cX4_longestFor 134 = .ok (.iload 5, 2) := by decide +kernel
theorem dX4_longestFor_136 : decode cX4_longestFor 136 = .ok (.goto 5, 3) := by decide +kernel
theorem dX4_longestFor_139 : decode cX4_longestFor 139 = .ok (.iload 6, 2) := by decide +kernel
theorem dX4_longestFor_141 : decode cX4_longestFor 141 = .ok (.ireturn, 1) := by decide +kernel
set_option maxRecDepth 20000 in
theorem ggX4_waitingNow_X4_of : GoodIn wsX4_waitingNow wsX4_of := goodIn_r _ [5, 6, 7, 8, 9, 10, 11, 12, 13, 14, 15, 16, 17, 18, 19, 20, 21, 22] (by decide +kernel) (by decide +kernel)
set_option maxRecDepth 20000 in
theorem gX4_waitingNow_X4_of : GoodIn wsX4_waitingNow (wsV RX4 63 RX4 yX4_of wsX4_of) := goodIn_app (goodIn_of _ (by decide +kernel)) ggX4_waitingNow_X4_of
theorem dX4_waitingNow_0 : decode cX4_waitingNow 0 = .ok (.iconst 0, 1) := by decide +kernel
theorem dX4_waitingNow_1 : decode cX4_waitingNow 1 = .ok (.istore_n 1, 1) := by decide +kernel
theorem dX4_waitingNow_2 : decode cX4_waitingNow 2 = .ok (.iconst 0, 1) := by decide +kernel
theorem dX4_waitingNow_3 : decode cX4_waitingNow 3 = .ok (.istore_n 2, 1) := by decide +kernel
theorem dX4_waitingNow_4 : decode cX4_waitingNow 4 = .ok (.iload_n 2, 1) := by decide +kernel
theorem dX4_waitingNow_5 : decode cX4_waitingNow 5 = .ok (.bipush 8, 2) := by decide +kernel
theorem dX4_waitingNow_7 : decode cX4_waitingNow 7 = .ok (.if_icmp .ge 28, 3) := by decide +kernel
theorem dX4_waitingNow_10 : decode cX4_waitingNow 10 = .ok (.iload_n 1, 1) := by decide +kernel
theorem dX4_waitingNow_11 : decode cX4_waitingNow 11 = .ok (.aload_n 0, 1) := by decide +kernel
theorem dX4_waitingNow_12 : decode cX4_waitingNow 12 = .ok (.iload_n 2, 1) := by decide +kernel
theorem dX4_waitingNow_13 : decode cX4_waitingNow 13 = .ok (.iconst 0, 1) := by decide +kernel
theorem dX4_waitingNow_14 : decode cX4_waitingNow 14 = .ok (.invokevirtual 63, 3) := by decide +kernel
theorem dX4_waitingNow_17 : decode cX4_waitingNow 17 = .ok (.ifCond .le 9, 3) := by decide +kernel
theorem dX4_waitingNow_20 : decode cX4_waitingNow 20 = .ok (.iconst 1, 1) := by decide +kernel
theorem dX4_waitingNow_21 : decode cX4_waitingNow 21 = .ok (.iload_n 2, 1) := by decide +kernel
theorem dX4_waitingNow_22 : decode cX4_waitingNow 22 = .ok (.ishl, 1) := by decide +kernel
theorem dX4_waitingNow_23 : decode cX4_waitingNow 23 = .ok (.goto 4, 3) := by decide +kernel
theorem dX4_waitingNow_26 : decode cX4_waitingNow 26 = .ok (.iconst 0, 1) := by decide +kernel
theorem dX4_waitingNow_27 : decode cX4_waitingNow 27 = .ok (.ior, 1) := by decide +kernel
theorem dX4_waitingNow_28 : decode cX4_waitingNow 28 = .ok (.istore_n 1, 1) := by decide +kernel
theorem dX4_waitingNow_29 : decode cX4_waitingNow 29 = .ok (.iinc 2 1, 3) := by decide +kernel
theorem dX4_waitingNow_32 : decode cX4_waitingNow 32 = .ok (.goto (-28), 3) := by decide +kernel
theorem dX4_waitingNow_35 : decode cX4_waitingNow 35 = .ok (.iload_n 1, 1) := by decide +kernel
theorem dX4_waitingNow_36 : decode cX4_waitingNow 36 = .ok (.ireturn, 1) := by decide +kernel
set_option maxRecDepth 20000 in
theorem ggX4_givenWithout_X4_layAside : GoodIn wsX4_givenWithout wsX4_layAside := goodIn_r _ [5, 6, 7, 83, 84, 85, 86, 87, 88, 89, 90, 91, 92, 93, 94, 95, 96, 97, 98] (by decide +kernel) (by decide +kernel)
set_option maxRecDepth 20000 in
theorem gX4_givenWithout_X4_layAside : GoodIn wsX4_givenWithout (wsV RX4 199 RX4 yX4_layAside wsX4_layAside) := goodIn_app (goodIn_of _ (by decide +kernel)) ggX4_givenWithout_X4_layAside
set_option maxRecDepth 20000 in
theorem ggX4_givenWithout_X4_waitingNow : GoodIn wsX4_givenWithout wsX4_waitingNow := goodIn_r _ [11, 12, 13, 14, 4, 15, 7, 83, 84, 85, 86, 87, 88, 89, 90, 91, 92, 93, 94, 95, 96, 97, 98] (by decide +kernel) (by decide +kernel)
set_option maxRecDepth 20000 in
theorem gX4_givenWithout_X4_waitingNow : GoodIn wsX4_givenWithout (wsV RX4 205 RX4 yX4_waitingNow wsX4_waitingNow) := goodIn_app (goodIn_of _ (by decide +kernel)) ggX4_givenWithout_X4_waitingNow
set_option maxRecDepth 20000 in
theorem ggX4_givenWithout_X4_goAway : GoodIn wsX4_givenWithout wsX4_goAway := goodIn_r _ [19, 12, 13, 14, 4, 15, 7, 20, 21, 22, 23, 24, 25, 26, 27, 28, 29, 30, 31, 32, 33, 34, 35, 36, 37, 38, 39, 40, 41, 42, 43, 44, 45, 46, 47, 48, 49, 50, 51, 52, 53, 54, 55, 56, 57, 58, 59, 60, 61, 62, 63, 64, 65, 66, 67, 68, 69, 70, 71, 72, 73, 74, 75, 76, 77, 78, 83, 84, 85, 86, 87, 88, 89, 90, 91, 92, 93, 94, 95, 96, 97, 98] (by decide +kernel) (by decide +kernel)
set_option maxRecDepth 20000 in
theorem gX4_givenWithout_X4_goAway : GoodIn wsX4_givenWithout (wsV RX4 163 RX4 yX4_goAway wsX4_goAway) := goodIn_app (goodIn_of _ (by decide +kernel)) ggX4_givenWithout_X4_goAway
set_option maxRecDepth 20000 in
theorem ggX4_givenWithout_X4_layBack : GoodIn wsX4_givenWithout wsX4_layBack := goodIn_r _ [82, 7, 6, 83, 84, 85, 86, 87, 88, 89, 90, 91, 92, 93, 94, 95, 96, 97, 98] (by decide +kernel) (by decide +kernel)
set_option maxRecDepth 20000 in
theorem gX4_givenWithout_X4_layBack : GoodIn wsX4_givenWithout (wsV RX4 202 RX4 yX4_layBack wsX4_layBack) := goodIn_app (goodIn_of _ (by decide +kernel)) ggX4_givenWithout_X4_layBack
theorem dX4_givenWithout_0 : decode cX4_givenWithout 0 = .ok (.aload_n 0, 1) := by decide +kernel
theorem dX4_givenWithout_1 : decode cX4_givenWithout 1 = .ok (.invokevirtual 199, 3) := by decide +kernel
theorem dX4_givenWithout_4 : decode cX4_givenWithout 4 = .ok (.aload_n 0, 1) := by decide +kernel
theorem dX4_givenWithout_5 : decode cX4_givenWithout 5 = .ok (.invokevirtual 205, 3) := by decide +kernel
theorem dX4_givenWithout_8 : decode cX4_givenWithout 8 = .ok (.iconst 1, 1) := by decide +kernel
theorem dX4_givenWithout_9 : decode cX4_givenWithout 9 = .ok (.iload_n 1, 1) := by decide +kernel
theorem dX4_givenWithout_10 : decode cX4_givenWithout 10 = .ok (.ishl, 1) := by decide +kernel
theorem dX4_givenWithout_11 : decode cX4_givenWithout 11 = .ok (.iconst (-1), 1) := by decide +kernel
theorem dX4_givenWithout_12 : decode cX4_givenWithout 12 = .ok (.ixor, 1) := by decide +kernel
theorem dX4_givenWithout_13 : decode cX4_givenWithout 13 = .ok (.iand, 1) := by decide +kernel
theorem dX4_givenWithout_14 : decode cX4_givenWithout 14 = .ok (.istore_n 2, 1) := by decide +kernel
theorem dX4_givenWithout_15 : decode cX4_givenWithout 15 = .ok (.aload_n 0, 1) := by decide +kernel
theorem dX4_givenWithout_16 : decode cX4_givenWithout 16 = .ok (.iload_n 1, 1) := by decide +kernel
theorem dX4_givenWithout_17 : decode cX4_givenWithout 17 = .ok (.invokevirtual 163, 3) := by decide +kernel
theorem dX4_givenWithout_20 : decode cX4_givenWithout 20 = .ok (.pop, 1) := by decide +kernel
theorem dX4_givenWithout_21 : decode cX4_givenWithout 21 = .ok (.aload_n 0, 1) := by decide +kernel
theorem dX4_givenWithout_22 : decode cX4_givenWithout 22 = .ok (.invokevirtual 205, 3) := by decide +kernel
theorem dX4_givenWithout_25 : decode cX4_givenWithout 25 = .ok (.istore_n 3, 1) := by decide +kernel
theorem dX4_givenWithout_26 : decode cX4_givenWithout 26 = .ok (.aload_n 0, 1) := by decide +kernel
theorem dX4_givenWithout_27 : decode cX4_givenWithout 27 = .ok (.invokevirtual 202, 3) := by decide +kernel
theorem dX4_givenWithout_30 : decode cX4_givenWithout 30 = .ok (.iload_n 2, 1) := by decide +kernel
theorem dX4_givenWithout_31 : decode cX4_givenWithout 31 = .ok (.iload_n 3, 1) := by decide +kernel
theorem dX4_givenWithout_32 : decode cX4_givenWithout 32 = .ok (.iconst (-1), 1) := by decide +kernel
theorem dX4_givenWithout_33 : decode cX4_givenWithout 33 = .ok (.ixor, 1) := by decide +kernel
theorem dX4_givenWithout_34 : decode cX4_givenWithout 34 = .ok (.iand, 1) := by decide +kernel
theorem dX4_givenWithout_35 : decode cX4_givenWithout 35 = .ok (.ireturn, 1) := by decide +kernel
set_option maxRecDepth 20000 in
theorem ggX4_givenIf_X4_isOwner : GoodIn wsX4_givenIf wsX4_isOwner := goodIn_r _ [4, 5, 6, 3, 7] (by decide +kernel) (by decide +kernel)
set_option maxRecDepth 20000 in
theorem gX4_givenIf_X4_isOwner : GoodIn wsX4_givenIf (va_wsS RX4 127 yX4_isOwner wsX4_isOwner) := goodIn_app (goodIn_of _ (by decide +kernel)) ggX4_givenIf_X4_isOwner
set_option maxRecDepth 20000 in
theorem ggX4_givenIf_X4_givenWithout : GoodIn wsX4_givenIf wsX4_givenWithout := goodIn_r _ [11, 12, 13, 14, 3, 15, 16, 17, 18, 19, 20, 21, 22, 23, 24, 25, 26, 27, 28, 29, 30, 31, 32, 33, 34, 35, 36, 37, 38, 39, 40, 41, 42, 43, 44, 45, 46, 47, 48, 49, 50, 51, 52, 53, 54, 55, 56, 57, 58, 59, 60, 61, 62, 63, 64, 65, 66, 67, 68, 69, 70, 71, 72, 73, 74, 75, 76, 77, 78, 79, 80, 81, 82, 83, 84, 85, 86, 87, 88, 89, 90, 91, 92, 93, 94, 95, 96, 97, 98, 99, 100, 101, 102, 103, 104, 105, 106, 107, 108] (by decide +kernel) (by decide +kernel)
set_option maxRecDepth 20000 in
theorem gX4_givenIf_X4_givenWithout : GoodIn wsX4_givenIf (wsV RX4 208 RX4 yX4_givenWithout wsX4_givenWithout) := goodIn_app (goodIn_of _ (by decide +kernel)) ggX4_givenIf_X4_givenWithout
theorem dX4_givenIf_0 : decode cX4_givenIf 0 = .ok (.iload_n 1, 1) := by decide +kernel
theorem dX4_givenIf_1 : decode cX4_givenIf 1 = .ok (.invokestatic 127, 3) := by decide +kernel
theorem dX4_givenIf_4 : decode cX4_givenIf 4 = .ok (.ifCond .eq 11, 3) := by decide +kernel
theorem dX4_givenIf_7 : decode cX4_givenIf 7 = .ok (.aload_n 0, 1) := by decide +kernel
theorem dX4_givenIf_8 : decode cX4_givenIf 8 = .ok (.iload_n 1, 1) := by decide +kernel
theorem dX4_givenIf_9 : decode cX4_givenIf 9 = .ok (.invokevirtual 208, 3) := by decide +kernel
theorem dX4_givenIf_12 : decode cX4_givenIf 12 = .ok (.goto 4, 3) := by decide +kernel
theorem dX4_givenIf_15 : decode cX4_givenIf 15 = .ok (.iconst (-1), 1) := by decide +kernel
theorem dX4_givenIf_16 : decode cX4_givenIf 16 = .ok (.ireturn, 1) := by decide +kernel
set_option maxRecDepth 20000 in
theorem ggX4_many_X4_has : GoodIn wsX4_many wsX4_has := goodIn_r _ [4] (by decide +kernel) (by decide +kernel)
set_option maxRecDepth 20000 in
theorem gX4_many_X4_has : GoodIn wsX4_many (va_wsS RX4 106 yX4_has wsX4_has) := goodIn_app (goodIn_of _ (by decide +kernel)) ggX4_many_X4_has
theorem dX4_many_0 : decode cX4_many 0 = .ok (.iconst 0, 1) := by decide +kernel
theorem dX4_many_1 : decode cX4_many 1 = .ok (.istore_n 1, 1) := by decide +kernel
theorem dX4_many_2 : decode cX4_many 2 = .ok (.iconst 0, 1) := by decide +kernel
theorem dX4_many_3 : decode cX4_many 3 = .ok (.istore_n 2, 1) := by decide +kernel
theorem dX4_many_4 : decode cX4_many 4 = .ok (.iload_n 2, 1) := by decide +kernel
theorem dX4_many_5 : decode cX4_many 5 = .ok (.bipush 8, 2) := by decide +kernel
theorem dX4_many_7 : decode cX4_many 7 = .ok (.if_icmp .ge 25, 3) := by decide +kernel
theorem dX4_many_10 : decode cX4_many 10 = .ok (.iload_n 1, 1) := by decide +kernel
theorem dX4_many_11 : decode cX4_many 11 = .ok (.iload_n 0, 1) := by decide +kernel
theorem dX4_many_12 : decode cX4_many 12 = .ok (.iload_n 2, 1) := by decide +kernel
theorem dX4_many_13 : decode cX4_many 13 = .ok (.invokestatic 106, 3) := by decide +kernel
theorem dX4_many_16 : decode cX4_many 16 = .ok (.ifCond .eq 7, 3) := by decide +kernel
theorem dX4_many_19 : decode cX4_many 19 = .ok (.iconst 1, 1) := by decide +kernel
theorem dX4_many_20 : decode cX4_many 20 = .ok (.goto 4, 3) := by decide +kernel
theorem dX4_many_23 : decode cX4_many 23 = .ok (.iconst 0, 1) := by decide +kernel
theorem dX4_many_24 : decode cX4_many 24 = .ok (.iadd, 1) := by decide +kernel
theorem dX4_many_25 : decode cX4_many 25 = .ok (.istore_n 1, 1) := by decide +kernel
theorem dX4_many_26 : decode cX4_many 26 = .ok (.iinc 2 1, 3) := by decide +kernel
theorem dX4_many_29 : decode cX4_many 29 = .ok (.goto (-25), 3) := by decide +kernel
theorem dX4_many_32 : decode cX4_many 32 = .ok (.iload_n 1, 1) := by decide +kernel
theorem dX4_many_33 : decode cX4_many 33 = .ok (.ireturn, 1) := by decide +kernel
set_option maxRecDepth 20000 in
theorem ggX4_greatestBar_X4_in : GoodIn wsX4_greatestBar wsX4_in := goodIn_r _ [4] (by decide +kernel) (by decide +kernel)
set_option maxRecDepth 20000 in
theorem gX4_greatestBar_X4_in : GoodIn wsX4_greatestBar (va_wsS RX4 41 yX4_in wsX4_in) := goodIn_app (goodIn_of _ (by decide +kernel)) ggX4_greatestBar_X4_in
set_option maxRecDepth 20000 in
theorem ggX4_greatestBar_X4_givenWithout : GoodIn wsX4_greatestBar wsX4_givenWithout := goodIn_r _ [8, 9, 10, 11, 3, 12, 13, 14, 15, 16, 17, 18, 19, 20, 21, 22, 23, 24, 25, 26, 27, 28, 29, 30, 31, 32, 33, 34, 35, 36, 37, 38, 39, 40, 41, 42, 43, 44, 45, 46, 47, 48, 49, 50, 51, 52, 53, 54, 55, 56, 57, 58, 59, 60, 61, 62, 63, 64, 65, 66, 67, 68, 69, 70, 71, 72, 73, 74, 75, 76, 77, 78, 79, 80, 81, 82, 83, 84, 85, 86, 87, 88, 89, 96, 97, 98, 99, 100, 101, 102, 103, 104, 105, 106, 107, 108, 109, 110, 111] (by decide +kernel) (by decide +kernel)
set_option maxRecDepth 20000 in
theorem gX4_greatestBar_X4_givenWithout : GoodIn wsX4_greatestBar (wsV RX4 208 RX4 yX4_givenWithout wsX4_givenWithout) := goodIn_app (goodIn_of _ (by decide +kernel)) ggX4_greatestBar_X4_givenWithout
set_option maxRecDepth 20000 in
theorem ggX4_greatestBar_X4_many : GoodIn wsX4_greatestBar wsX4_many := goodIn_r _ [92, 93, 94, 3, 95] (by decide +kernel) (by decide +kernel)
set_option maxRecDepth 20000 in
theorem gX4_greatestBar_X4_many : GoodIn wsX4_greatestBar (va_wsS RX4 211 yX4_many wsX4_many) := goodIn_app (goodIn_of _ (by decide +kernel)) ggX4_greatestBar_X4_many
theorem dX4_greatestBar_0 : decode cX4_greatestBar 0 = .ok (.iload_n 1, 1) := by decide +kernel
theorem dX4_greatestBar_1 : decode cX4_greatestBar 1 = .ok (.iconst 0, 1) := by decide +kernel
theorem dX4_greatestBar_2 : decode cX4_greatestBar 2 = .ok (.iconst 1, 1) := by decide +kernel
theorem dX4_greatestBar_3 : decode cX4_greatestBar 3 = .ok (.invokestatic 41, 3) := by decide +kernel
theorem dX4_greatestBar_6 : decode cX4_greatestBar 6 = .ok (.ifCond .ne 6, 3) := by decide +kernel
theorem dX4_greatestBar_9 : decode cX4_greatestBar 9 = .ok (.bipush (-2), 2) := by decide +kernel
theorem dX4_greatestBar_11 : decode cX4_greatestBar 11 = .ok (.ireturn, 1) := by decide +kernel
theorem dX4_greatestBar_12 : decode cX4_greatestBar 12 = .ok (.bipush (-6), 2) := by decide +kernel
theorem dX4_greatestBar_14 : decode cX4_greatestBar 14 = .ok (.istore_n 2, 1) := by decide +kernel
theorem dX4_greatestBar_15 : decode cX4_greatestBar 15 = .ok (.iconst 0, 1) := by decide +kernel
theorem dX4_greatestBar_16 : decode cX4_greatestBar 16 = .ok (.istore_n 3, 1) := by decide +kernel
theorem dX4_greatestBar_17 : decode cX4_greatestBar 17 = .ok (.iconst 0, 1) := by decide +kernel
theorem dX4_greatestBar_18 : decode cX4_greatestBar 18 = .ok (.istore 4, 2) := by decide +kernel
theorem dX4_greatestBar_20 : decode cX4_greatestBar 20 = .ok (.iload 4, 2) := by decide +kernel
theorem dX4_greatestBar_22 : decode cX4_greatestBar 22 = .ok (.bipush 8, 2) := by decide +kernel
theorem dX4_greatestBar_24 : decode cX4_greatestBar 24 = .ok (.if_icmp .ge 46, 3) := by decide +kernel
theorem dX4_greatestBar_27 : decode cX4_greatestBar 27 = .ok (.aload_n 0, 1) := by decide +kernel
theorem dX4_greatestBar_28 : decode cX4_greatestBar 28 = .ok (.iload 4, 2) := by decide +kernel
theorem dX4_greatestBar_30 : decode cX4_greatestBar 30 = .ok (.invokevirtual 208, 3) := by decide +kernel
theorem dX4_greatestBar_33 : decode cX4_greatestBar 33 = .ok (.invokestatic 211, 3) := by decide +kernel
theorem dX4_greatestBar_36 : decode cX4_greatestBar 36 = .ok (.istore 5, 2) := by decide +kernel
theorem dX4_greatestBar_38 : decode cX4_greatestBar 38 = .ok (.iload 5, 2) := by decide +kernel
theorem dX4_greatestBar_40 : decode cX4_greatestBar 40 = .ok (.iload_n 3, 1) := by decide +kernel
theorem dX4_greatestBar_41 : decode cX4_greatestBar 41 = .ok (.if_icmp .le 8, 3) := by decide +kernel
theorem dX4_greatestBar_44 : decode cX4_greatestBar 44 = .ok (.iload 4, 2) := by decide +kernel
theorem dX4_greatestBar_46 : decode cX4_greatestBar 46 = .ok (.goto 4, 3) := by decide +kernel
theorem dX4_greatestBar_49 : decode cX4_greatestBar 49 = .ok (.iload_n 2, 1) := by decide +kernel
theorem dX4_greatestBar_50 : decode cX4_greatestBar 50 = .ok (.istore_n 2, 1) := by decide +kernel
theorem dX4_greatestBar_51 : decode cX4_greatestBar 51 = .ok (.iload 5, 2) := by decide +kernel
theorem dX4_greatestBar_53 : decode cX4_greatestBar 53 = .ok (.iload_n 3, 1) := by decide +kernel
theorem dX4_greatestBar_54 : decode cX4_greatestBar 54 = .ok (.if_icmp .le 8, 3) := by decide +kernel
theorem dX4_greatestBar_57 : decode cX4_greatestBar 57 = .ok (.iload 5, 2) := by decide +kernel
theorem dX4_greatestBar_59 : decode cX4_greatestBar 59 = .ok (.goto 4, 3) := by decide +kernel
theorem dX4_greatestBar_62 : decode cX4_greatestBar 62 = .ok (.iload_n 3, 1) := by decide +kernel
theorem dX4_greatestBar_63 : decode cX4_greatestBar 63 = .ok (.istore_n 3, 1) := by decide +kernel
theorem dX4_greatestBar_64 : decode cX4_greatestBar 64 = .ok (.iinc 4 1, 3) := by decide +kernel
theorem dX4_greatestBar_67 : decode cX4_greatestBar 67 = .ok (.goto (-47), 3) := by decide +kernel
theorem dX4_greatestBar_70 : decode cX4_greatestBar 70 = .ok (.iload_n 2, 1) := by decide +kernel
theorem dX4_greatestBar_71 : decode cX4_greatestBar 71 = .ok (.ifCond .lt 7, 3) := by decide +kernel
theorem dX4_greatestBar_74 : decode cX4_greatestBar 74 = .ok (.iload_n 1, 1) := by decide +kernel
theorem dX4_greatestBar_75 : decode cX4_greatestBar 75 = .ok (.ifCond .ne 7, 3) := by decide +kernel
theorem dX4_greatestBar_78 : decode cX4_greatestBar 78 = .ok (.iload_n 2, 1) := by decide +kernel
theorem dX4_greatestBar_79 : decode cX4_greatestBar 79 = .ok (.goto 4, 3) := by decide +kernel
theorem dX4_greatestBar_82 : decode cX4_greatestBar 82 = .ok (.iload_n 3, 1) := by decide +kernel
theorem dX4_greatestBar_83 : decode cX4_greatestBar 83 = .ok (.ireturn, 1) := by decide +kernel
set_option maxRecDepth 20000 in
theorem ggX4_put_X4_in : GoodIn wsX4_put wsX4_in := goodIn_r _ [7] (by decide +kernel) (by decide +kernel)
set_option maxRecDepth 20000 in
theorem gX4_put_X4_in : GoodIn wsX4_put (va_wsS RX4 41 yX4_in wsX4_in) := goodIn_app (goodIn_of _ (by decide +kernel)) ggX4_put_X4_in
theorem dX4_put_0 : decode cX4_put 0 = .ok (.iconst 0, 1) := by decide +kernel
theorem dX4_put_1 : decode cX4_put 1 = .ok (.istore_n 3, 1) := by decide +kernel
theorem dX4_put_2 : decode cX4_put 2 = .ok (.lload_n 1, 1) := by decide +kernel
theorem dX4_put_3 : decode cX4_put 3 = .ok (.lstore 4, 2) := by decide +kernel
theorem dX4_put_5 : decode cX4_put 5 = .ok (.iload_n 3, 1) := by decide +kernel
theorem dX4_put_6 : decode cX4_put 6 = .ok (.bipush 8, 2) := by decide +kernel
theorem dX4_put_8 : decode cX4_put 8 = .ok (.if_icmp .ge 47, 3) := by decide +kernel
theorem dX4_put_11 : decode cX4_put 11 = .ok (.lload 4, 2) := by decide +kernel
theorem dX4_put_13 : decode cX4_put 13 = .ok (.ldc2_w 214, 3) := by decide +kernel
theorem dX4_put_16 : decode cX4_put 16 = .ok (.land, 1) := by decide +kernel
theorem dX4_put_17 : decode cX4_put 17 = .ok (.lconst 0, 1) := by decide +kernel
theorem dX4_put_18 : decode cX4_put 18 = .ok (.lcmp, 1) := by decide +kernel
theorem dX4_put_19 : decode cX4_put 19 = .ok (.ifCond .eq 36, 3) := by decide +kernel
theorem dX4_put_22 : decode cX4_put 22 = .ok (.lload 4, 2) := by decide +kernel
theorem dX4_put_24 : decode cX4_put 24 = .ok (.ldc2_w 214, 3) := by decide +kernel
theorem dX4_put_27 : decode cX4_put 27 = .ok (.land, 1) := by decide +kernel
theorem dX4_put_28 : decode cX4_put 28 = .ok (.l2i, 1) := by decide +kernel
theorem dX4_put_29 : decode cX4_put 29 = .ok (.bipush 33, 2) := by decide +kernel
theorem dX4_put_31 : decode cX4_put 31 = .ok (.bipush 126, 2) := by decide +kernel
theorem dX4_put_33 : decode cX4_put 33 = .ok (.invokestatic 41, 3) := by decide +kernel
theorem dX4_put_36 : decode cX4_put 36 = .ok (.ifCond .ne 6, 3) := by decide +kernel
theorem dX4_put_39 : decode cX4_put 39 = .ok (.bipush (-2), 2) := by decide +kernel
theorem dX4_put_41 : decode cX4_put 41 = .ok (.ireturn, 1) := by decide +kernel
theorem dX4_put_42 : decode cX4_put 42 = .ok (.iinc 3 1, 3) := by decide +kernel
theorem dX4_put_45 : decode cX4_put 45 = .ok (.lload 4, 2) := by decide +kernel
theorem dX4_put_47 : decode cX4_put 47 = .ok (.bipush 8, 2) := by decide +kernel
theorem dX4_put_49 : decode cX4_put 49 = .ok (.lushr, 1) := by decide +kernel
theorem dX4_put_50 : decode cX4_put 50 = .ok (.lstore 4, 2) := by decide +kernel
theorem dX4_put_52 : decode cX4_put 52 = .ok (.goto (-47), 3) := by decide +kernel
theorem dX4_put_55 : decode cX4_put 55 = .ok (.iload_n 3, 1) := by decide +kernel
theorem dX4_put_56 : decode cX4_put 56 = .ok (.ifCond .eq 10, 3) := by decide +kernel
theorem dX4_put_59 : decode cX4_put 59 = .ok (.lload 4, 2) := by decide +kernel
theorem dX4_put_61 : decode cX4_put 61 = .ok (.lconst 0, 1) := by decide +kernel
theorem dX4_put_62 : decode cX4_put 62 = .ok (.lcmp, 1) := by decide +kernel
theorem dX4_put_63 : decode cX4_put 63 = .ok (.ifCond .eq 6, 3) := by decide +kernel
theorem dX4_put_66 : decode cX4_put 66 = .ok (.bipush (-2), 2) := by decide +kernel
theorem dX4_put_68 : decode cX4_put 68 = .ok (.ireturn, 1) := by decide +kernel
theorem dX4_put_69 : decode cX4_put 69 = .ok (.aload_n 0, 1) := by decide +kernel
theorem dX4_put_70 : decode cX4_put 70 = .ok (.getfield 193, 3) := by decide +kernel
theorem dX4_put_73 : decode cX4_put 73 = .ok (.iload_n 3, 1) := by decide +kernel
theorem dX4_put_74 : decode cX4_put 74 = .ok (.iadd, 1) := by decide +kernel
theorem dX4_put_75 : decode cX4_put 75 = .ok (.bipush 80, 2) := by decide +kernel
theorem dX4_put_77 : decode cX4_put 77 = .ok (.if_icmp .le 6, 3) := by decide +kernel
theorem dX4_put_80 : decode cX4_put 80 = .ok (.bipush (-4), 2) := by decide +kernel
theorem dX4_put_82 : decode cX4_put 82 = .ok (.ireturn, 1) := by decide +kernel
theorem dX4_put_83 : decode cX4_put 83 = .ok (.iconst 0, 1) := by decide +kernel
theorem dX4_put_84 : decode cX4_put 84 = .ok (.istore 6, 2) := by decide +kernel
theorem dX4_put_86 : decode cX4_put 86 = .ok (.iload 6, 2) := by decide +kernel
theorem dX4_put_88 : decode cX4_put 88 = .ok (.iload_n 3, 1) := by decide +kernel
theorem dX4_put_89 : decode cX4_put 89 = .ok (.if_icmp .ge 37, 3) := by decide +kernel
theorem dX4_put_92 : decode cX4_put 92 = .ok (.aload_n 0, 1) := by decide +kernel
theorem dX4_put_93 : decode cX4_put 93 = .ok (.getfield 26, 3) := by decide +kernel
theorem dX4_put_96 : decode cX4_put 96 = .ok (.aload_n 0, 1) := by decide +kernel
theorem dX4_put_97 : decode cX4_put 97 = .ok (.getfield 193, 3) := by decide +kernel
theorem dX4_put_100 : decode cX4_put 100 = .ok (.iload 6, 2) := by decide +kernel
theorem dX4_put_102 : decode cX4_put 102 = .ok (.iadd, 1) := by decide +kernel
theorem dX4_put_103 : decode cX4_put 103 = .ok (.lload_n 1, 1) := by decide +kernel
theorem dX4_put_104 : decode cX4_put 104 = .ok (.bipush 8, 2) := by decide +kernel
theorem dX4_put_106 : decode cX4_put 106 = .ok (.iload_n 3, 1) := by decide +kernel
theorem dX4_put_107 : decode cX4_put 107 = .ok (.iconst 1, 1) := by decide +kernel
theorem dX4_put_108 : decode cX4_put 108 = .ok (.isub, 1) := by decide +kernel
theorem dX4_put_109 : decode cX4_put 109 = .ok (.iload 6, 2) := by decide +kernel
theorem dX4_put_111 : decode cX4_put 111 = .ok (.isub, 1) := by decide +kernel
theorem dX4_put_112 : decode cX4_put 112 = .ok (.imul, 1) := by decide +kernel
theorem dX4_put_113 : decode cX4_put 113 = .ok (.lshr, 1) := by decide +kernel
theorem dX4_put_114 : decode cX4_put 114 = .ok (.ldc2_w 214, 3) := by decide +kernel
theorem dX4_put_117 : decode cX4_put 117 = .ok (.land, 1) := by decide +kernel
theorem dX4_put_118 : decode cX4_put 118 = .ok (.l2i, 1) := by decide +kernel
theorem dX4_put_119 : decode cX4_put 119 = .ok (.iastore, 1) := by decide +kernel
theorem dX4_put_120 : decode cX4_put 120 = .ok (.iinc 6 1, 3) := by decide +kernel
theorem dX4_put_123 : decode cX4_put 123 = .ok (.goto (-37), 3) := by decide +kernel
theorem dX4_put_126 : decode cX4_put 126 = .ok (.aload_n 0, 1) := by decide +kernel
theorem dX4_put_127 : decode cX4_put 127 = .ok (.dup, 1) := by decide +kernel
theorem dX4_put_128 : decode cX4_put 128 = .ok (.getfield 193, 3) := by decide +kernel
theorem dX4_put_131 : decode cX4_put 131 = .ok (.iload_n 3, 1) := by decide +kernel
theorem dX4_put_132 : decode cX4_put 132 = .ok (.iadd, 1) := by decide +kernel
theorem dX4_put_133 : decode cX4_put 133 = .ok (.putfield 193, 3) := by decide +kernel
theorem dX4_put_136 : decode cX4_put 136 = .ok (.aload_n 0, 1) := by decide +kernel
theorem dX4_put_137 : decode cX4_put 137 = .ok (.getfield 193, 3) := by decide +kernel
theorem dX4_put_140 : decode cX4_put 140 = .ok (.ireturn, 1) := by decide +kernel
theorem dX4_wipe_0 : decode cX4_wipe 0 = .ok (.aload_n 0, 1) := by decide +kernel
theorem dX4_wipe_1 : decode cX4_wipe 1 = .ok (.getfield 193, 3) := by decide +kernel
theorem dX4_wipe_4 : decode cX4_wipe 4 = .ok (.istore_n 1, 1) := by decide +kernel
theorem dX4_wipe_5 : decode cX4_wipe 5 = .ok (.aload_n 0, 1) := by decide +kernel
theorem dX4_wipe_6 : decode cX4_wipe 6 = .ok (.iconst 0, 1) := by decide +kernel
