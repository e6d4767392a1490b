theorem dX2_sign_1 : decode cX2_sign 1 = .ok (.getfield 25, 3) := by decide +kernel
theorem dX2_sign_4 : decode cX2_sign 4 = .ok (.ifCond .lt 26, 3) := by decide +kernel
theorem dX2_sign_7 : decode cX2_sign 7 = .ok (.aload_n 0, 1) := by decide +kernel
theorem dX2_sign_8 : decode cX2_sign 8 = .ok (.getfield 25, 3) := by decide +kernel
theorem dX2_sign_11 : decode cX2_sign 11 = .ok (.aload_n 0, 1) := by decide +kernel
theorem dX2_sign_12 : decode cX2_sign 12 = .ok (.getfield 21, 3) := by decide +kernel
theorem dX2_sign_15 : decode cX2_sign 15 = .ok (.if_icmp .ge 15, 3) := by decide +kernel
theorem dX2_sign_18 : decode cX2_sign 18 = .ok (.aload_n 0, 1) := by decide +kernel
theorem dX2_sign_19 : decode cX2_sign 19 = .ok (.getfield 9, 3) := by decide +kernel
theorem dX2_sign_22 : decode cX2_sign 22 = .ok (.aload_n 0, 1) := by decide +kernel
theorem dX2_sign_23 : decode cX2_sign 23 = .ok (.getfield 25, 3) := by decide +kernel
theorem dX2_sign_26 : decode cX2_sign 26 = .ok (.caload, 1) := by decide +kernel
theorem dX2_sign_27 : decode cX2_sign 27 = .ok (.goto 4, 3) := by decide +kernel
theorem dX2_sign_30 : decode cX2_sign 30 = .ok (.iconst 0, 1) := by decide +kernel
theorem dX2_sign_31 : decode cX2_sign 31 = .ok (.ireturn, 1) := by decide +kernel
set_option maxRecDepth 20000 in
theorem ggX3_init_X1_init : GoodIn wsX3_init wsX1_init := goodIn_r _ [20, 21, 2, 3, 22, 23, 24, 25, 26, 27, 28, 29, 30, 31, 32, 33, 34, 35, 46, 47, 48, 49, 50, 51, 52, 53, 54, 55, 56, 57, 58, 59, 60, 61] (by decide +kernel) (by decide +kernel)
set_option maxRecDepth 20000 in
theorem gX3_init_X1_init_n11 : GoodIn wsX3_init (wsX1_init) := ggX3_init_X1_init
set_option maxRecDepth 20000 in
theorem ggX3_init_X0_init : GoodIn wsX3_init wsX0_init := goodIn_r _ [37, 38, 2, 3, 39, 40, 67, 68, 69] (by decide +kernel) (by decide +kernel)
set_option maxRecDepth 20000 in
theorem gX3_init_X0_init_n21 : GoodIn wsX3_init (wsX0_init) := ggX3_init_X0_init
set_option maxRecDepth 20000 in
theorem ggX3_init_X2_init : GoodIn wsX3_init wsX2_init := goodIn_r _ [42, 43, 2, 3, 44, 45, 70, 71, 72, 73, 74, 75, 76, 77] (by decide +kernel) (by decide +kernel)
set_option maxRecDepth 20000 in
theorem gX3_init_X2_init_n32 : GoodIn wsX3_init (wsX2_init) := ggX3_init_X2_init
theorem dX3_init_0 : decode cX3_init 0 = .ok (.aload_n 0, 1) := by decide +kernel
theorem dX3_init_1 : decode cX3_init 1 = .ok (.invokespecial 3, 3) := by decide +kernel
theorem dX3_init_4 : decode cX3_init 4 = .ok (.aload_n 0, 1) := by decide +kernel
theorem dX3_init_5 : decode cX3_init 5 = .ok (.new 9, 3) := by decide +kernel
theorem dX3_init_8 : decode cX3_init 8 = .ok (.dup, 1) := by decide +kernel
theorem dX3_init_9 : decode cX3_init 9 = .ok (.invokespecial 11, 3) := by decide +kernel
theorem dX3_init_12 : decode cX3_init 12 = .ok (.putfield 12, 3) := by decide +kernel
theorem dX3_init_15 : decode cX3_init 15 = .ok (.aload_n 0, 1) := by decide +kernel
theorem dX3_init_16 : decode cX3_init 16 = .ok (.new 9, 3) := by decide +kernel
theorem dX3_init_19 : decode cX3_init 19 = .ok (.dup, 1) := by decide +kernel
theorem dX3_init_20 : decode cX3_init 20 = .ok (.invokespecial 11, 3) := by decide +kernel
theorem dX3_init_23 : decode cX3_init 23 = .ok (.putfield 16, 3) := by decide +kernel
theorem dX3_init_26 : decode cX3_init 26 = .ok (.aload_n 0, 1) := by decide +kernel
theorem dX3_init_27 : decode cX3_init 27 = .ok (.new 19, 3) := by decide +kernel
theorem dX3_init_30 : decode cX3_init 30 = .ok (.dup, 1) := by decide +kernel
theorem dX3_init_31 : decode cX3_init 31 = .ok (.invokespecial 21, 3) := by decide +kernel
theorem dX3_init_34 : decode cX3_init 34 = .ok (.putfield 22, 3) := by decide +kernel
theorem dX3_init_37 : decode cX3_init 37 = .ok (.aload_n 0, 1) := by decide +kernel
theorem dX3_init_38 : decode cX3_init 38 = .ok (.iconst 2, 1) := by decide +kernel
theorem dX3_init_39 : decode cX3_init 39 = .ok (.anewarray 9, 3) := by decide +kernel
theorem dX3_init_42 : decode cX3_init 42 = .ok (.putfield 26, 3) := by decide +kernel
theorem dX3_init_45 : decode cX3_init 45 = .ok (.aload_n 0, 1) := by decide +kernel
theorem dX3_init_46 : decode cX3_init 46 = .ok (.new 30, 3) := by decide +kernel
theorem dX3_init_49 : decode cX3_init 49 = .ok (.dup, 1) := by decide +kernel
theorem dX3_init_50 : decode cX3_init 50 = .ok (.invokespecial 32, 3) := by decide +kernel
theorem dX3_init_53 : decode cX3_init 53 = .ok (.putfield 33, 3) := by decide +kernel
theorem dX3_init_56 : decode cX3_init 56 = .ok (.aload_n 0, 1) := by decide +kernel
theorem dX3_init_57 : decode cX3_init 57 = .ok (.getfield 12, 3) := by decide +kernel
theorem dX3_init_60 : decode cX3_init 60 = .ok (.getfield 37, 3) := by decide +kernel
theorem dX3_init_63 : decode cX3_init 63 = .ok (.iconst 0, 1) := by decide +kernel
theorem dX3_init_64 : decode cX3_init 64 = .ok (.iconst 1, 1) := by decide +kernel
theorem dX3_init_65 : decode cX3_init 65 = .ok (.iastore, 1) := by decide +kernel
theorem dX3_init_66 : decode cX3_init 66 = .ok (.return_, 1) := by decide +kernel
set_option maxRecDepth 20000 in
theorem ggX3_set_X0_note : GoodIn wsX3_set wsX0_note := goodIn_r _ [7, 8, 9, 10, 11, 12, 13, 14, 15, 16, 17, 18, 19, 20, 21, 22, 23, 24, 25, 26, 27, 28, 29, 30, 31, 32, 33, 34, 35, 36, 37, 38, 39, 40, 41, 42, 43, 62, 63, 64, 65, 66, 67, 68, 69, 70, 71, 72, 73, 74, 75, 76, 77, 78, 79, 80] (by decide +kernel) (by decide +kernel)
set_option maxRecDepth 20000 in
theorem gX3_set_X0_note : GoodIn wsX3_set (wsV RX3 41 RX0 yX0_note wsX0_note) := goodIn_app (goodIn_of _ (by decide +kernel)) ggX3_set_X0_note
set_option maxRecDepth 20000 in
theorem ggX3_set_X1_change : GoodIn wsX3_set wsX1_change := goodIn_r _ [47, 37, 19, 65, 66, 67, 68, 69, 70, 71, 72, 73, 74, 75, 76, 77, 78, 79, 80] (by decide +kernel) (by decide +kernel)
set_option maxRecDepth 20000 in
theorem gX3_set_X1_change : GoodIn wsX3_set (wsV RX3 45 RX1 yX1_change wsX1_change) := goodIn_app (goodIn_of _ (by decide +kernel)) ggX3_set_X1_change
set_option maxRecDepth 20000 in
theorem ggX3_set_X0_settle : GoodIn wsX3_set wsX0_settle := goodIn_r _ [51, 9, 52, 53, 54, 55, 56, 62, 63, 64] (by decide +kernel) (by decide +kernel)
set_option maxRecDepth 20000 in
theorem gX3_set_X0_settle : GoodIn wsX3_set (wsV RX3 49 RX0 yX0_settle wsX0_settle) := goodIn_app (goodIn_of _ (by decide +kernel)) ggX3_set_X0_settle
theorem dX3_set_0 : decode cX3_set 0 = .ok (.aload_n 0, 1) := by decide +kernel
theorem dX3_set_1 : decode cX3_set 1 = .ok (.getfield 22, 3) := by decide +kernel
theorem dX3_set_4 : decode cX3_set 4 = .ok (.aload_n 0, 1) := by decide +kernel
theorem dX3_set_5 : decode cX3_set 5 = .ok (.getfield 12, 3) := by decide +kernel
theorem dX3_set_8 : decode cX3_set 8 = .ok (.invokevirtual 41, 3) := by decide +kernel
theorem dX3_set_11 : decode cX3_set 11 = .ok (.aload_n 0, 1) := by decide +kernel
theorem dX3_set_12 : decode cX3_set 12 = .ok (.getfield 22, 3) := by decide +kernel
theorem dX3_set_15 : decode cX3_set 15 = .ok (.aload_n 0, 1) := by decide +kernel
theorem dX3_set_16 : decode cX3_set 16 = .ok (.getfield 12, 3) := by decide +kernel
theorem dX3_set_19 : decode cX3_set 19 = .ok (.iload_n 1, 1) := by decide +kernel
theorem dX3_set_20 : decode cX3_set 20 = .ok (.iload_n 2, 1) := by decide +kernel
theorem dX3_set_21 : decode cX3_set 21 = .ok (.invokevirtual 45, 3) := by decide +kernel
theorem dX3_set_24 : decode cX3_set 24 = .ok (.invokevirtual 49, 3) := by decide +kernel
theorem dX3_set_27 : decode cX3_set 27 = .ok (.ireturn, 1) := by decide +kernel
set_option maxRecDepth 20000 in
theorem ggX3_request_X0_note : GoodIn wsX3_request wsX0_note := goodIn_r _ [7, 8, 9, 10, 11, 12, 13, 14, 15, 16, 17, 18, 19, 20, 21, 22, 23, 24, 25, 26, 27, 28, 29, 30, 31, 32, 33, 34, 35, 36, 37, 38, 39, 40, 41, 42, 43, 138, 139, 140, 141, 142, 143, 144, 145, 146, 147, 148, 149, 150, 151, 152, 153, 154, 155, 156] (by decide +kernel) (by decide +kernel)
set_option maxRecDepth 20000 in
theorem gX3_request_X0_note : GoodIn wsX3_request (wsV RX3 41 RX0 yX0_note wsX0_note) := goodIn_app (goodIn_of _ (by decide +kernel)) ggX3_request_X0_note
set_option maxRecDepth 20000 in
theorem ggX3_request_X1_ask : GoodIn wsX3_request wsX1_ask := goodIn_r _ [47, 23, 37, 19, 28, 48, 49, 50, 51, 52, 53, 54, 55, 56, 57, 58, 59, 60, 12, 61, 21, 22, 24, 62, 63, 64, 65, 25, 66, 67, 68, 69, 70, 71, 72, 73, 74, 75, 76, 77, 78, 27, 79, 80, 81, 82, 83, 84, 85, 86, 30, 26, 87, 88, 89, 90, 91, 92, 93, 94, 95, 96, 97, 98, 99, 100, 101, 102, 103, 104, 105, 106, 31, 107, 108, 109, 110, 111, 112, 113, 114, 115, 116, 117, 118, 119, 120, 121, 122, 123, 124, 125, 126, 29, 39, 141, 142, 143, 144, 145, 146, 147, 148, 149, 150, 151, 152, 153, 154, 155, 156] (by decide +kernel) (by decide +kernel)
set_option maxRecDepth 20000 in
theorem gX3_request_X1_ask : GoodIn wsX3_request (wsV RX3 53 RX1 yX1_ask wsX1_ask) := goodIn_app (goodIn_of _ (by decide +kernel)) ggX3_request_X1_ask
set_option maxRecDepth 20000 in
theorem ggX3_request_X0_settle : GoodIn wsX3_request wsX0_settle := goodIn_r _ [130, 9, 131, 132, 67, 64, 68, 138, 139, 140] (by decide +kernel) (by decide +kernel)
set_option maxRecDepth 20000 in
theorem gX3_request_X0_settle : GoodIn wsX3_request (wsV RX3 49 RX0 yX0_settle wsX0_settle) := goodIn_app (goodIn_of _ (by decide +kernel)) ggX3_request_X0_settle
theorem dX3_request_0 : decode cX3_request 0 = .ok (.aload_n 0, 1) := by decide +kernel
theorem dX3_request_1 : decode cX3_request 1 = .ok (.getfield 22, 3) := by decide +kernel
theorem dX3_request_4 : decode cX3_request 4 = .ok (.aload_n 0, 1) := by decide +kernel
theorem dX3_request_5 : decode cX3_request 5 = .ok (.getfield 12, 3) := by decide +kernel
theorem dX3_request_8 : decode cX3_request 8 = .ok (.invokevirtual 41, 3) := by decide +kernel
theorem dX3_request_11 : decode cX3_request 11 = .ok (.aload_n 0, 1) := by decide +kernel
theorem dX3_request_12 : decode cX3_request 12 = .ok (.getfield 22, 3) := by decide +kernel
theorem dX3_request_15 : decode cX3_request 15 = .ok (.aload_n 0, 1) := by decide +kernel
theorem dX3_request_16 : decode cX3_request 16 = .ok (.getfield 12, 3) := by decide +kernel
theorem dX3_request_19 : decode cX3_request 19 = .ok (.iload_n 1, 1) := by decide +kernel
theorem dX3_request_20 : decode cX3_request 20 = .ok (.iload_n 2, 1) := by decide +kernel
theorem dX3_request_21 : decode cX3_request 21 = .ok (.iload_n 3, 1) := by decide +kernel
theorem dX3_request_22 : decode cX3_request 22 = .ok (.iload 4, 2) := by decide +kernel
theorem dX3_request_24 : decode cX3_request 24 = .ok (.iload 5, 2) := by decide +kernel
theorem dX3_request_26 : decode cX3_request 26 = .ok (.invokevirtual 53, 3) := by decide +kernel
theorem dX3_request_29 : decode cX3_request 29 = .ok (.invokevirtual 49, 3) := by decide +kernel
theorem dX3_request_32 : decode cX3_request 32 = .ok (.ireturn, 1) := by decide +kernel
set_option maxRecDepth 20000 in
theorem ggX3_free_X0_note : GoodIn wsX3_free wsX0_note := goodIn_r _ [7, 8, 9, 10, 11, 12, 13, 14, 15, 16, 17, 18, 19, 20, 21, 22, 23, 24, 25, 26, 27, 28, 29, 30, 31, 32, 33, 34, 35, 36, 37, 38, 39, 40, 41, 42, 43, 116, 117, 118, 119, 120, 121, 122, 123, 124, 125, 126, 127, 128, 129, 130, 131, 132, 133, 134] (by decide +kernel) (by decide +kernel)
set_option maxRecDepth 20000 in
theorem gX3_free_X0_note : GoodIn wsX3_free (wsV RX3 41 RX0 yX0_note wsX0_note) := goodIn_app (goodIn_of _ (by decide +kernel)) ggX3_free_X0_note
set_option maxRecDepth 20000 in
theorem ggX3_free_X1_release : GoodIn wsX3_free wsX1_release := goodIn_r _ [47, 48, 49, 50, 51, 52, 53, 54, 55, 56, 57, 58, 12, 59, 60, 61, 62, 63, 21, 64, 65, 66, 67, 68, 69, 70, 71, 37, 22, 23, 24, 25, 30, 26, 72, 73, 74, 75, 76, 77, 78, 79, 80, 81, 82, 83, 19, 84, 85, 86, 87, 88, 89, 90, 91, 92, 93, 94, 95, 96, 27, 97, 98, 99, 100, 101, 102, 103, 104, 119, 120, 121, 122, 123, 124, 125, 126, 127, 128, 129, 130, 131, 132, 133, 134] (by decide +kernel) (by decide +kernel)
set_option maxRecDepth 20000 in
theorem gX3_free_X1_release : GoodIn wsX3_free (wsV RX3 57 RX1 yX1_release wsX1_release) := goodIn_app (goodIn_of _ (by decide +kernel)) ggX3_free_X1_release
set_option maxRecDepth 20000 in
theorem ggX3_free_X0_settle : GoodIn wsX3_free wsX0_settle := goodIn_r _ [108, 9, 109, 110, 85, 74, 86, 116, 117, 118] (by decide +kernel) (by decide +kernel)
set_option maxRecDepth 20000 in
theorem gX3_free_X0_settle : GoodIn wsX3_free (wsV RX3 49 RX0 yX0_settle wsX0_settle) := goodIn_app (goodIn_of _ (by decide +kernel)) ggX3_free_X0_settle
theorem dX3_free_0 : decode cX3_free 0 = .ok (.aload_n 0, 1) := by decide +kernel
theorem dX3_free_1 : decode cX3_free 1 = .ok (.getfield 22, 3) := by decide +kernel
theorem dX3_free_4 : decode cX3_free 4 = .ok (.aload_n 0, 1) := by decide +kernel
theorem dX3_free_5 : decode cX3_free 5 = .ok (.getfield 12, 3) := by decide +kernel
theorem dX3_free_8 : decode cX3_free 8 = .ok (.invokevirtual 41, 3) := by decide +kernel
theorem dX3_free_11 : decode cX3_free 11 = .ok (.aload_n 0, 1) := by decide +kernel
theorem dX3_free_12 : decode cX3_free 12 = .ok (.getfield 22, 3) := by decide +kernel
theorem dX3_free_15 : decode cX3_free 15 = .ok (.aload_n 0, 1) := by decide +kernel
theorem dX3_free_16 : decode cX3_free 16 = .ok (.getfield 12, 3) := by decide +kernel
theorem dX3_free_19 : decode cX3_free 19 = .ok (.iload_n 1, 1) := by decide +kernel
theorem dX3_free_20 : decode cX3_free 20 = .ok (.iload_n 2, 1) := by decide +kernel
theorem dX3_free_21 : decode cX3_free 21 = .ok (.iload_n 3, 1) := by decide +kernel
theorem dX3_free_22 : decode cX3_free 22 = .ok (.invokevirtual 57, 3) := by decide +kernel
theorem dX3_free_25 : decode cX3_free 25 = .ok (.invokevirtual 49, 3) := by decide +kernel
theorem dX3_free_28 : decode cX3_free 28 = .ok (.ireturn, 1) := by decide +kernel
set_option maxRecDepth 20000 in
theorem ggX3_cancel_X0_note : GoodIn wsX3_cancel wsX0_note := goodIn_r _ [7, 8, 9, 10, 11, 12, 13, 14, 15, 16, 17, 18, 19, 20, 21, 22, 23, 24, 25, 26, 27, 28, 29, 30, 31, 32, 33, 34, 35, 36, 37, 38, 39, 40, 41, 42, 43, 103, 104, 105, 106, 107, 108, 109, 110, 111, 112, 113, 114, 115, 116, 117, 118, 119, 120, 121] (by decide +kernel) (by decide +kernel)
set_option maxRecDepth 20000 in
theorem gX3_cancel_X0_note : GoodIn wsX3_cancel (wsV RX3 41 RX0 yX0_note wsX0_note) := goodIn_app (goodIn_of _ (by decide +kernel)) ggX3_cancel_X0_note
set_option maxRecDepth 20000 in
theorem ggX3_cancel_X1_withdraw : GoodIn wsX3_cancel wsX1_withdraw := goodIn_r _ [47, 23, 26, 48, 49, 50, 51, 52, 53, 12, 54, 37, 22, 55, 56, 57, 58, 59, 60, 61, 62, 24, 25, 30, 63, 64, 65, 66, 67, 68, 69, 70, 71, 72, 73, 74, 21, 19, 75, 76, 77, 78, 79, 80, 81, 82, 83, 84, 85, 86, 87, 27, 88, 89, 90, 91, 106, 107, 108, 109, 110, 111, 112, 113, 114, 115, 116, 117, 118, 119, 120, 121] (by decide +kernel) (by decide +kernel)
set_option maxRecDepth 20000 in
theorem gX3_cancel_X1_withdraw : GoodIn wsX3_cancel (wsV RX3 61 RX1 yX1_withdraw wsX1_withdraw) := goodIn_app (goodIn_of _ (by decide +kernel)) ggX3_cancel_X1_withdraw
set_option maxRecDepth 20000 in
theorem ggX3_cancel_X0_settle : GoodIn wsX3_cancel wsX0_settle := goodIn_r _ [95, 9, 96, 97, 76, 65, 77, 103, 104, 105] (by decide +kernel) (by decide +kernel)
set_option maxRecDepth 20000 in
theorem gX3_cancel_X0_settle : GoodIn wsX3_cancel (wsV RX3 49 RX0 yX0_settle wsX0_settle) := goodIn_app (goodIn_of _ (by decide +kernel)) ggX3_cancel_X0_settle
theorem dX3_cancel_0 : decode cX3_cancel 0 = .ok (.aload_n 0, 1) := by decide +kernel
theorem dX3_cancel_1 : decode cX3_cancel 1 = .ok (.getfield 22, 3) := by decide +kernel
theorem dX3_cancel_4 : decode cX3_cancel 4 = .ok (.aload_n 0, 1) := by decide +kernel
theorem dX3_cancel_5 : decode cX3_cancel 5 = .ok (.getfield 12, 3) := by decide +kernel
theorem dX3_cancel_8 : decode cX3_cancel 8 = .ok (.invokevirtual 41, 3) := by decide +kernel
theorem dX3_cancel_11 : decode cX3_cancel 11 = .ok (.aload_n 0, 1) := by decide +kernel
theorem dX3_cancel_12 : decode cX3_cancel 12 = .ok (.getfield 22, 3) := by decide +kernel
theorem dX3_cancel_15 : decode cX3_cancel 15 = .ok (.aload_n 0, 1) := by decide +kernel
theorem dX3_cancel_16 : decode cX3_cancel 16 = .ok (.getfield 12, 3) := by decide +kernel
theorem dX3_cancel_19 : decode cX3_cancel 19 = .ok (.iload_n 1, 1) := by decide +kernel
theorem dX3_cancel_20 : decode cX3_cancel 20 = .ok (.invokevirtual 61, 3) := by decide +kernel
theorem dX3_cancel_23 : decode cX3_cancel 23 = .ok (.invokevirtual 49, 3) := by decide +kernel
theorem dX3_cancel_26 : decode cX3_cancel 26 = .ok (.ireturn, 1) := by decide +kernel
set_option maxRecDepth 20000 in
theorem ggX3_leave_X0_note : GoodIn wsX3_leave wsX0_note := goodIn_r _ [7, 8, 9, 10, 11, 12, 13, 14, 15, 16, 17, 18, 19, 20, 21, 22, 23, 24, 25, 26, 27, 28, 29, 30, 31, 32, 33, 34, 35, 36, 37, 38, 39, 40, 41, 42, 43, 115, 116, 117, 118, 119, 120, 121, 122, 123, 124, 125, 126, 127, 128, 129, 130, 131, 132, 133] (by decide +kernel) (by decide +kernel)
set_option maxRecDepth 20000 in
theorem gX3_leave_X0_note : GoodIn wsX3_leave (wsV RX3 41 RX0 yX0_note wsX0_note) := goodIn_app (goodIn_of _ (by decide +kernel)) ggX3_leave_X0_note
set_option maxRecDepth 20000 in
theorem ggX3_leave_X1_depart : GoodIn wsX3_leave wsX1_depart := goodIn_r _ [47, 48, 49, 50, 51, 52, 53, 12, 54, 55, 56, 57, 58, 37, 22, 23, 59, 60, 61, 62, 63, 64, 65, 66, 67, 68, 69, 70, 21, 71, 72, 73, 74, 75, 76, 77, 78, 24, 25, 30, 26, 79, 80, 81, 82, 83, 84, 85, 86, 87, 88, 89, 90, 19, 91, 92, 93, 94, 95, 96, 97, 98, 99, 100, 101, 102, 103, 27, 118, 119, 120, 121, 122, 123, 124, 125, 126, 127, 128, 129, 130, 131, 132, 133] (by decide +kernel) (by decide +kernel)
set_option maxRecDepth 20000 in
theorem gX3_leave_X1_depart : GoodIn wsX3_leave (wsV RX3 64 RX1 yX1_depart wsX1_depart) := goodIn_app (goodIn_of _ (by decide +kernel)) ggX3_leave_X1_depart
set_option maxRecDepth 20000 in
theorem ggX3_leave_X0_settle : GoodIn wsX3_leave wsX0_settle := goodIn_r _ [107, 9, 108, 109, 92, 81, 93, 115, 116, 117] (by decide +kernel) (by decide +kernel)
set_option maxRecDepth 20000 in
theorem gX3_leave_X0_settle : GoodIn wsX3_leave (wsV RX3 49 RX0 yX0_settle wsX0_settle) := goodIn_app (goodIn_of _ (by decide +kernel)) ggX3_leave_X0_settle
theorem dX3_leave_0 : decode cX3_leave 0 = .ok (.aload_n 0, 1) := by decide +kernel
theorem dX3_leave_1 : decode cX3_leave 1 = .ok (.getfield 22, 3) := by decide +kernel
theorem dX3_leave_4 : decode cX3_leave 4 = .ok (.aload_n 0, 1) := by decide +kernel
theorem dX3_leave_5 : decode cX3_leave 5 = .ok (.getfield 12, 3) := by decide +kernel
theorem dX3_leave_8 : decode cX3_leave 8 = .ok (.invokevirtual 41, 3) := by decide +kernel
theorem dX3_leave_11 : decode cX3_leave 11 = .ok (.aload_n 0, 1) := by decide +kernel
theorem dX3_leave_12 : decode cX3_leave 12 = .ok (.getfield 22, 3) := by decide +kernel
theorem dX3_leave_15 : decode cX3_leave 15 = .ok (.aload_n 0, 1) := by decide +kernel
theorem dX3_leave_16 : decode cX3_leave 16 = .ok (.getfield 12, 3) := by decide +kernel
theorem dX3_leave_19 : decode cX3_leave 19 = .ok (.iload_n 1, 1) := by decide +kernel
theorem dX3_leave_20 : decode cX3_leave 20 = .ok (.invokevirtual 64, 3) := by decide +kernel
theorem dX3_leave_23 : decode cX3_leave 23 = .ok (.invokevirtual 49, 3) := by decide +kernel
theorem dX3_leave_26 : decode cX3_leave 26 = .ok (.ireturn, 1) := by decide +kernel
set_option maxRecDepth 20000 in
theorem ggX3_ticks_X0_note : GoodIn wsX3_ticks wsX0_note := goodIn_r _ [7, 8, 9, 10, 11, 12, 13, 14, 15, 16, 17, 18, 19, 20, 21, 22, 23, 24, 25, 26, 27, 28, 29, 30, 31, 32, 33, 34, 35, 36, 37, 38, 39, 40, 41, 42, 43, 105, 106, 107, 108, 109, 110, 111, 112, 113, 114, 115, 116, 117, 118, 119, 120, 121, 122, 123] (by decide +kernel) (by decide +kernel)
set_option maxRecDepth 20000 in
theorem gX3_ticks_X0_note : GoodIn wsX3_ticks (wsV RX3 41 RX0 yX0_note wsX0_note) := goodIn_app (goodIn_of _ (by decide +kernel)) ggX3_ticks_X0_note
set_option maxRecDepth 20000 in
theorem ggX3_ticks_X1_pass : GoodIn wsX3_ticks wsX1_pass := goodIn_r _ [47, 38, 36, 48, 49, 50, 12, 51, 19, 37, 22, 26, 52, 53, 54, 55, 23, 56, 57, 58, 59, 60, 61, 62, 63, 24, 25, 30, 64, 65, 66, 67, 68, 69, 70, 71, 72, 73, 74, 75, 21, 76, 77, 78, 79, 80, 81, 82, 83, 84, 85, 86, 87, 88, 89, 27, 90, 91, 92, 93, 108, 109, 110, 111, 112, 113, 114, 115, 116, 117, 118, 119, 120, 121, 122, 123] (by decide +kernel) (by decide +kernel)
set_option maxRecDepth 20000 in
theorem gX3_ticks_X1_pass : GoodIn wsX3_ticks (wsV RX3 67 RX1 yX1_pass wsX1_pass) := goodIn_app (goodIn_of _ (by decide +kernel)) ggX3_ticks_X1_pass
set_option maxRecDepth 20000 in
theorem ggX3_ticks_X0_settle : GoodIn wsX3_ticks wsX0_settle := goodIn_r _ [97, 9, 98, 99, 77, 66, 78, 105, 106, 107] (by decide +kernel) (by decide +kernel)
set_option maxRecDepth 20000 in
theorem gX3_ticks_X0_settle : GoodIn wsX3_ticks (wsV RX3 49 RX0 yX0_settle wsX0_settle) := goodIn_app (goodIn_of _ (by decide +kernel)) ggX3_ticks_X0_settle
theorem dX3_ticks_0 : decode cX3_ticks 0 = .ok (.aload_n 0, 1) := by decide +kernel
theorem dX3_ticks_1 : decode cX3_ticks 1 = .ok (.getfield 22, 3) := by decide +kernel
theorem dX3_ticks_4 : decode cX3_ticks 4 = .ok (.aload_n 0, 1) := by decide +kernel
theorem dX3_ticks_5 : decode cX3_ticks 5 = .ok (.getfield 12, 3) := by decide +kernel
theorem dX3_ticks_8 : decode cX3_ticks 8 = .ok (.invokevirtual 41, 3) := by decide +kernel
theorem dX3_ticks_11 : decode cX3_ticks 11 = .ok (.aload_n 0, 1) := by decide +kernel
theorem dX3_ticks_12 : decode cX3_ticks 12 = .ok (.getfield 22, 3) := by decide +kernel
theorem dX3_ticks_15 : decode cX3_ticks 15 = .ok (.aload_n 0, 1) := by decide +kernel
theorem dX3_ticks_16 : decode cX3_ticks 16 = .ok (.getfield 12, 3) := by decide +kernel
theorem dX3_ticks_19 : decode cX3_ticks 19 = .ok (.iload_n 1, 1) := by decide +kernel
theorem dX3_ticks_20 : decode cX3_ticks 20 = .ok (.invokevirtual 67, 3) := by decide +kernel
theorem dX3_ticks_23 : decode cX3_ticks 23 = .ok (.invokevirtual 49, 3) := by decide +kernel
theorem dX3_ticks_26 : decode cX3_ticks 26 = .ok (.ireturn, 1) := by decide +kernel
set_option maxRecDepth 20000 in
theorem ggX3_at_X3_isOwner : GoodIn wsX3_at wsX3_isOwner := goodIn_r _ [5] (by decide +kernel) (by decide +kernel)
set_option maxRecDepth 20000 in
theorem gX3_at_X3_isOwner : GoodIn wsX3_at (va_wsS RX3 70 yX3_isOwner wsX3_isOwner) := goodIn_app (goodIn_of _ (by decide +kernel)) ggX3_at_X3_isOwner
set_option maxRecDepth 20000 in
theorem ggX3_at_X3_isPlace : GoodIn wsX3_at wsX3_isPlace := goodIn_r _ [8] (by decide +kernel) (by decide +kernel)
set_option maxRecDepth 20000 in
theorem gX3_at_X3_isPlace : GoodIn wsX3_at (va_wsS RX3 74 yX3_isPlace wsX3_isPlace) := goodIn_app (goodIn_of _ (by decide +kernel)) ggX3_at_X3_isPlace
set_option maxRecDepth 20000 in
theorem ggX3_at_X1_kindAt : GoodIn wsX3_at wsX1_kindAt := goodIn_r _ [13, 14, 20, 21, 22, 23, 24, 25, 26, 27, 28, 29, 30, 31, 32, 33, 34, 35] (by decide +kernel) (by decide +kernel)
set_option maxRecDepth 20000 in
theorem gX3_at_X1_kindAt : GoodIn wsX3_at (wsV RX3 77 RX1 yX1_kindAt wsX1_kindAt) := goodIn_app (goodIn_of _ (by decide +kernel)) ggX3_at_X1_kindAt
theorem dX3_at_0 : decode cX3_at 0 = .ok (.iload_n 1, 1) := by decide +kernel
theorem dX3_at_1 : decode cX3_at 1 = .ok (.invokestatic 70, 3) := by decide +kernel
theorem dX3_at_4 : decode cX3_at 4 = .ok (.ifCond .eq 10, 3) := by decide +kernel
theorem dX3_at_7 : decode cX3_at 7 = .ok (.iload_n 2, 1) := by decide +kernel
theorem dX3_at_8 : decode cX3_at 8 = .ok (.invokestatic 74, 3) := by decide +kernel
theorem dX3_at_11 : decode cX3_at 11 = .ok (.ifCond .ne 5, 3) := by decide +kernel
theorem dX3_at_14 : decode cX3_at 14 = .ok (.iconst (-1), 1) := by decide +kernel
theorem dX3_at_15 : decode cX3_at 15 = .ok (.ireturn, 1) := by decide +kernel
theorem dX3_at_16 : decode cX3_at 16 = .ok (.aload_n 0, 1) := by decide +kernel
theorem dX3_at_17 : decode cX3_at 17 = .ok (.getfield 12, 3) := by decide +kernel
theorem dX3_at_20 : decode cX3_at 20 = .ok (.iload_n 1, 1) := by decide +kernel
theorem dX3_at_21 : decode cX3_at 21 = .ok (.iload_n 2, 1) := by decide +kernel
theorem dX3_at_22 : decode cX3_at 22 = .ok (.invokevirtual 77, 3) := by decide +kernel
theorem dX3_at_25 : decode cX3_at 25 = .ok (.ireturn, 1) := by decide +kernel
set_option maxRecDepth 20000 in
theorem ggX3_owners_X3_isPlace : GoodIn wsX3_owners wsX3_isPlace := goodIn_r _ [5] (by decide +kernel) (by decide +kernel)
set_option maxRecDepth 20000 in
theorem gX3_owners_X3_isPlace : GoodIn wsX3_owners (va_wsS RX3 74 yX3_isPlace wsX3_isPlace) := goodIn_app (goodIn_of _ (by decide +kernel)) ggX3_owners_X3_isPlace
set_option maxRecDepth 20000 in
theorem ggX3_owners_X1_kindAt : GoodIn wsX3_owners wsX1_kindAt := goodIn_r _ [10, 11, 17, 18, 19, 20, 21, 22, 23, 24, 25, 26, 27, 28, 29, 30, 31, 32] (by decide +kernel) (by decide +kernel)
set_option maxRecDepth 20000 in
theorem gX3_owners_X1_kindAt : GoodIn wsX3_owners (wsV RX3 77 RX1 yX1_kindAt wsX1_kindAt) := goodIn_app (goodIn_of _ (by decide +kernel)) ggX3_owners_X1_kindAt
theorem dX3_owners_0 : decode cX3_owners 0 = .ok (.iload_n 1, 1) := by decide +kernel
theorem dX3_owners_1 : decode cX3_owners 1 = .ok (.invokestatic 74, 3) := by decide +kernel
theorem dX3_owners_4 : decode cX3_owners 4 = .ok (.ifCond .ne 5, 3) := by decide +kernel
theorem dX3_owners_7 : decode cX3_owners 7 = .ok (.iconst (-1), 1) := by decide +kernel
theorem dX3_owners_8 : decode cX3_owners 8 = .ok (.ireturn, 1) := by decide +kernel
theorem dX3_owners_9 : decode cX3_owners 9 = .ok (.iload_n 2, 1) := by decide +kernel
theorem dX3_owners_10 : decode cX3_owners 10 = .ok (.ifCond .lt 8, 3) := by decide +kernel
theorem dX3_owners_13 : decode cX3_owners 13 = .ok (.iload_n 2, 1) := by decide +kernel
theorem dX3_owners_14 : decode cX3_owners 14 = .ok (.iconst 3, 1) := by decide +kernel
theorem dX3_owners_15 : decode cX3_owners 15 = .ok (.if_icmp .le 6, 3) := by decide +kernel
theorem dX3_owners_18 : decode cX3_owners 18 = .ok (.bipush (-2), 2) := by decide +kernel
theorem dX3_owners_20 : decode cX3_owners 20 = .ok (.ireturn, 1) := by decide +kernel
theorem dX3_owners_21 : decode cX3_owners 21 = .ok (.iconst 0, 1) := by decide +kernel
theorem dX3_owners_22 : decode cX3_owners 22 = .ok (.istore_n 3, 1) := by decide +kernel
theorem dX3_owners_23 : decode cX3_owners 23 = .ok (.iconst 0, 1) := by decide +kernel
theorem dX3_owners_24 : decode cX3_owners 24 = .ok (.istore 4, 2) := by decide +kernel
theorem dX3_owners_26 : decode cX3_owners 26 = .ok (.iload 4, 2) := by decide +kernel
theorem dX3_owners_28 : decode cX3_owners 28 = .ok (.bipush 8, 2) := by decide +kernel
theorem dX3_owners_30 : decode cX3_owners 30 = .ok (.if_icmp .ge 30, 3) := by decide +kernel
theorem dX3_owners_33 : decode cX3_owners 33 = .ok (.aload_n 0, 1) := by decide +kernel
theorem dX3_owners_34 : decode cX3_owners 34 = .ok (.getfield 12, 3) := by decide +kernel
theorem dX3_owners_37 : decode cX3_owners 37 = .ok (.iload 4, 2) := by decide +kernel
theorem dX3_owners_39 : decode cX3_owners 39 = .ok (.iload_n 1, 1) := by decide +kernel
theorem dX3_owners_40 : decode cX3_owners 40 = .ok (.invokevirtual 77, 3) := by decide +kernel
theorem dX3_owners_43 : decode cX3_owners 43 = .ok (.iload_n 2, 1) := by decide +kernel
theorem dX3_owners_44 : decode cX3_owners 44 = .ok (.if_icmp .ne 10, 3) := by decide +kernel
theorem dX3_owners_47 : decode cX3_owners 47 = .ok (.iload_n 3, 1) := by decide +kernel
theorem dX3_owners_48 : decode cX3_owners 48 = .ok (.iconst 1, 1) := by decide +kernel
theorem dX3_owners_49 : decode cX3_owners 49 = .ok (.iload 4, 2) := by decide +kernel
theorem dX3_owners_51 : decode cX3_owners 51 = .ok (.ishl, 1) := by decide +kernel
theorem dX3_owners_52 : decode cX3_owners 52 = .ok (.ior, 1) := by decide +kernel
theorem dX3_owners_53 : decode cX3_owners 53 = .ok (.istore_n 3, 1) := by decide +kernel
theorem dX3_owners_54 : decode cX3_owners 54 = .ok (.iinc 4 1, 3) := by decide +kernel
theorem dX3_owners_57 : decode cX3_owners 57 = .ok (.goto (-31), 3) := by decide +kernel
theorem dX3_owners_60 : decode cX3_owners 60 = .ok (.iload_n 3, 1) := by decide +kernel
theorem dX3_owners_61 : decode cX3_owners 61 = .ok (.ireturn, 1) := by decide +kernel
set_option maxRecDepth 20000 in
theorem ggX3_ofOwner_X3_isOwner : GoodIn wsX3_ofOwner wsX3_isOwner := goodIn_r _ [9] (by decide +kernel) (by decide +kernel)
set_option maxRecDepth 20000 in
theorem gX3_ofOwner_X3_isOwner : GoodIn wsX3_ofOwner (va_wsS RX3 70 yX3_isOwner wsX3_isOwner) := goodIn_app (goodIn_of _ (by decide +kernel)) ggX3_ofOwner_X3_isOwner
set_option maxRecDepth 20000 in
theorem ggX3_ofOwner_X1_placesOf : GoodIn wsX3_ofOwner wsX1_placesOf := goodIn_r _ [14, 15, 16, 17, 13, 18, 19, 47, 48, 49, 50, 51, 52, 53, 54, 55, 56, 57, 58, 59, 60, 61, 62] (by decide +kernel) (by decide +kernel)
set_option maxRecDepth 20000 in
theorem gX3_ofOwner_X1_placesOf : GoodIn wsX3_ofOwner (wsV RX3 80 RX1 yX1_placesOf wsX1_placesOf) := goodIn_app (goodIn_of _ (by decide +kernel)) ggX3_ofOwner_X1_placesOf
set_option maxRecDepth 20000 in
theorem ggX3_ofOwner_X1_stretchesOf : GoodIn wsX3_ofOwner wsX1_stretchesOf := goodIn_r _ [23, 24, 25, 26, 13, 27, 15, 16, 17, 18, 19, 47, 48, 49, 50, 51, 52, 53, 54, 55, 56, 57, 58, 59, 60, 61, 62] (by decide +kernel) (by decide +kernel)
set_option maxRecDepth 20000 in
theorem gX3_ofOwner_X1_stretchesOf : GoodIn wsX3_ofOwner (wsV RX3 83 RX1 yX1_stretchesOf wsX1_stretchesOf) := goodIn_app (goodIn_of _ (by decide +kernel)) ggX3_ofOwner_X1_stretchesOf
set_option maxRecDepth 20000 in
theorem ggX3_ofOwner_X3_ofRequest : GoodIn wsX3_ofOwner wsX3_ofRequest := goodIn_r _ [31, 1, 32, 33, 34, 35, 36, 37, 38, 13, 39, 40, 41, 42, 43, 44, 45, 46, 47, 48, 49, 50, 51, 52, 53, 54, 55, 56, 57, 58, 59, 60, 61, 62] (by decide +kernel) (by decide +kernel)
set_option maxRecDepth 20000 in
theorem gX3_ofOwner_X3_ofRequest : GoodIn wsX3_ofOwner (wsV RX3 86 RX3 yX3_ofRequest wsX3_ofRequest) := goodIn_app (goodIn_of _ (by decide +kernel)) ggX3_ofOwner_X3_ofRequest
theorem dX3_ofOwner_0 : decode cX3_ofOwner 0 = .ok (.iload_n 1, 1) := by decide +kernel
theorem dX3_ofOwner_1 : decode cX3_ofOwner 1 = .ok (.invokestatic 70, 3) := by decide +kernel
theorem dX3_ofOwner_4 : decode cX3_ofOwner 4 = .ok (.ifCond .ne 5, 3) := by decide +kernel
theorem dX3_ofOwner_7 : decode cX3_ofOwner 7 = .ok (.iconst (-1), 1) := by decide +kernel
theorem dX3_ofOwner_8 : decode cX3_ofOwner 8 = .ok (.ireturn, 1) := by decide +kernel
theorem dX3_ofOwner_9 : decode cX3_ofOwner 9 = .ok (.iload_n 2, 1) := by decide +kernel
theorem dX3_ofOwner_10 : decode cX3_ofOwner 10 = .ok (.tableswitch 152 0 12 #[66, 76, 86, 96, 105, 105, 105, 105, 105, 112, 122, 132, 142], 66) := by decide +kernel
theorem dX3_ofOwner_76 : decode cX3_ofOwner 76 = .ok (.aload_n 0, 1) := by decide +kernel
theorem dX3_ofOwner_77 : decode cX3_ofOwner 77 = .ok (.getfield 12, 3) := by decide +kernel
theorem dX3_ofOwner_80 : decode cX3_ofOwner 80 = .ok (.iload_n 1, 1) := by decide +kernel
theorem dX3_ofOwner_81 : decode cX3_ofOwner 81 = .ok (.iconst 1, 1) := by decide +kernel
theorem dX3_ofOwner_82 : decode cX3_ofOwner 82 = .ok (.invokevirtual 80, 3) := by decide +kernel
theorem dX3_ofOwner_85 : decode cX3_ofOwner 85 = .ok (.ireturn, 1) := by decide +kernel
theorem dX3_ofOwner_86 : decode cX3_ofOwner 86 = .ok (.aload_n 0, 1) := by decide +kernel
theorem dX3_ofOwner_87 : decode cX3_ofOwner 87 = .ok (.getfield 12, 3) := by decide +kernel
theorem dX3_ofOwner_90 : decode cX3_ofOwner 90 = .ok (.iload_n 1, 1) := by decide +kernel
theorem dX3_ofOwner_91 : decode cX3_ofOwner 91 = .ok (.iconst 2, 1) := by decide +kernel
theorem dX3_ofOwner_92 : decode cX3_ofOwner 92 = .ok (.invokevirtual 80, 3) := by decide +kernel
theorem dX3_ofOwner_95 : decode cX3_ofOwner 95 = .ok (.ireturn, 1) := by decide +kernel
theorem dX3_ofOwner_96 : decode cX3_ofOwner 96 = .ok (.aload_n 0, 1) := by decide +kernel
theorem dX3_ofOwner_97 : decode cX3_ofOwner 97 = .ok (.getfield 12, 3) := by decide +kernel
theorem dX3_ofOwner_100 : decode cX3_ofOwner 100 = .ok (.iload_n 1, 1) := by decide +kernel
theorem dX3_ofOwner_101 : decode cX3_ofOwner 101 = .ok (.iconst 3, 1) := by decide +kernel
theorem dX3_ofOwner_102 : decode cX3_ofOwner 102 = .ok (.invokevirtual 80, 3) := by decide +kernel
theorem dX3_ofOwner_105 : decode cX3_ofOwner 105 = .ok (.ireturn, 1) := by decide +kernel
theorem dX3_ofOwner_106 : decode cX3_ofOwner 106 = .ok (.aload_n 0, 1) := by decide +kernel
theorem dX3_ofOwner_107 : decode cX3_ofOwner 107 = .ok (.getfield 12, 3) := by decide +kernel
theorem dX3_ofOwner_110 : decode cX3_ofOwner 110 = .ok (.iload_n 1, 1) := by decide +kernel
theorem dX3_ofOwner_111 : decode cX3_ofOwner 111 = .ok (.invokevirtual 83, 3) := by decide +kernel
theorem dX3_ofOwner_114 : decode cX3_ofOwner 114 = .ok (.ireturn, 1) := by decide +kernel
theorem dX3_ofOwner_115 : decode cX3_ofOwner 115 = .ok (.aload_n 0, 1) := by decide +kernel
theorem dX3_ofOwner_116 : decode cX3_ofOwner 116 = .ok (.iload_n 1, 1) := by decide +kernel
theorem dX3_ofOwner_117 : decode cX3_ofOwner 117 = .ok (.iload_n 2, 1) := by decide +kernel
theorem dX3_ofOwner_118 : decode cX3_ofOwner 118 = .ok (.invokevirtual 86, 3) := by decide +kernel
theorem dX3_ofOwner_121 : decode cX3_ofOwner 121 = .ok (.ireturn, 1) := by decide +kernel
theorem dX3_ofOwner_122 : decode cX3_ofOwner 122 = .ok (.aload_n 0, 1) := by decide +kernel
theorem dX3_ofOwner_123 : decode cX3_ofOwner 123 = .ok (.getfield 12, 3) := by decide +kernel
theorem dX3_ofOwner_126 : decode cX3_ofOwner 126 = .ok (.getfield 89, 3) := by decide +kernel
theorem dX3_ofOwner_129 : decode cX3_ofOwner 129 = .ok (.iload_n 1, 1) := by decide +kernel
theorem dX3_ofOwner_130 : decode cX3_ofOwner 130 = .ok (.iaload, 1) := by decide +kernel
theorem dX3_ofOwner_131 : decode cX3_ofOwner 131 = .ok (.ireturn, 1) := by decide +kernel
theorem dX3_ofOwner_132 : decode cX3_ofOwner 132 = .ok (.aload_n 0, 1) := by decide +kernel
theorem dX3_ofOwner_133 : decode cX3_ofOwner 133 = .ok (.getfield 12, 3) := by decide +kernel
theorem dX3_ofOwner_136 : decode cX3_ofOwner 136 = .ok (.getfield 92, 3) := by decide +kernel
theorem dX3_ofOwner_139 : decode cX3_ofOwner 139 = .ok (.iload_n 1, 1) := by decide +kernel
theorem dX3_ofOwner_140 : decode cX3_ofOwner 140 = .ok (.iaload, 1) := by decide +kernel
theorem dX3_ofOwner_141 : decode cX3_ofOwner 141 = .ok (.ireturn, 1) := by decide +kernel
theorem dX3_ofOwner_142 : decode cX3_ofOwner 142 = .ok (.aload_n 0, 1) := by decide +kernel
theorem dX3_ofOwner_143 : decode cX3_ofOwner 143 = .ok (.getfield 12, 3) := by decide +kernel
theorem dX3_ofOwner_146 : decode cX3_ofOwner 146 = .ok (.getfield 95, 3) := by decide +kernel
theorem dX3_ofOwner_149 : decode cX3_ofOwner 149 = .ok (.iload_n 1, 1) := by decide +kernel
theorem dX3_ofOwner_150 : decode cX3_ofOwner 150 = .ok (.iaload, 1) := by decide +kernel
theorem dX3_ofOwner_151 : decode cX3_ofOwner 151 = .ok (.ireturn, 1) := by decide +kernel
theorem dX3_ofOwner_152 : decode cX3_ofOwner 152 = .ok (.aload_n 0, 1) := by decide +kernel
theorem dX3_ofOwner_153 : decode cX3_ofOwner 153 = .ok (.getfield 12, 3) := by decide +kernel
theorem dX3_ofOwner_156 : decode cX3_ofOwner 156 = .ok (.getfield 98, 3) := by decide +kernel
theorem dX3_ofOwner_159 : decode cX3_ofOwner 159 = .ok (.iload_n 1, 1) := by decide +kernel
theorem dX3_ofOwner_160 : decode cX3_ofOwner 160 = .ok (.iaload, 1) := by decide +kernel
theorem dX3_ofOwner_161 : decode cX3_ofOwner 161 = .ok (.ireturn, 1) := by decide +kernel
theorem dX3_ofOwner_162 : decode cX3_ofOwner 162 = .ok (.bipush (-2), 2) := by decide +kernel
theorem dX3_ofOwner_164 : decode cX3_ofOwner 164 = .ok (.ireturn, 1) := by decide +kernel
set_option maxRecDepth 20000 in
theorem ggX3_stretch_X3_isOwner : GoodIn wsX3_stretch wsX3_isOwner := goodIn_r _ [5] (by decide +kernel) (by decide +kernel)
set_option maxRecDepth 20000 in
theorem gX3_stretch_X3_isOwner : GoodIn wsX3_stretch (va_wsS RX3 70 yX3_isOwner wsX3_isOwner) := goodIn_app (goodIn_of _ (by decide +kernel)) ggX3_stretch_X3_isOwner
set_option maxRecDepth 20000 in
theorem ggX3_stretch_X1_startOfStretch : GoodIn wsX3_stretch wsX1_startOfStretch := goodIn_r _ [10, 11, 12, 13, 9, 14, 15, 16, 17, 18, 19, 30, 31, 32, 33, 34, 35, 36, 37, 38, 39, 40, 41, 42, 43, 44, 45] (by decide +kernel) (by decide +kernel)
set_option maxRecDepth 20000 in
theorem gX3_stretch_X1_startOfStretch : GoodIn wsX3_stretch (wsV RX3 101 RX1 yX1_startOfStretch wsX1_startOfStretch) := goodIn_app (goodIn_of _ (by decide +kernel)) ggX3_stretch_X1_startOfStretch
set_option maxRecDepth 20000 in
theorem ggX3_stretch_X1_kindAt : GoodIn wsX3_stretch wsX1_kindAt := goodIn_r _ [18, 19, 30, 31, 32, 33, 34, 35, 36, 37, 38, 39, 40, 41, 42, 43, 44, 45] (by decide +kernel) (by decide +kernel)
set_option maxRecDepth 20000 in
theorem gX3_stretch_X1_kindAt : GoodIn wsX3_stretch (wsV RX3 77 RX1 yX1_kindAt wsX1_kindAt) := goodIn_app (goodIn_of _ (by decide +kernel)) ggX3_stretch_X1_kindAt
set_option maxRecDepth 20000 in
theorem ggX3_stretch_X1_lengthOfStretch : GoodIn wsX3_stretch wsX1_lengthOfStretch := goodIn_r _ [24, 15, 16, 17, 9, 18, 19, 30, 31, 32, 33, 34, 35, 36, 37, 38, 39, 40, 41, 42, 43, 44, 45] (by decide +kernel) (by decide +kernel)
set_option maxRecDepth 20000 in
theorem gX3_stretch_X1_lengthOfStretch : GoodIn wsX3_stretch (wsV RX3 104 RX1 yX1_lengthOfStretch wsX1_lengthOfStretch) := goodIn_app (goodIn_of _ (by decide +kernel)) ggX3_stretch_X1_lengthOfStretch
theorem dX3_stretch_0 : decode cX3_stretch 0 = .ok (.iload_n 1, 1) := by decide +kernel
theorem dX3_stretch_1 : decode cX3_stretch 1 = .ok (.invokestatic 70, 3) := by decide +kernel
theorem dX3_stretch_4 : decode cX3_stretch 4 = .ok (.ifCond .ne 5, 3) := by decide +kernel
theorem dX3_stretch_7 : decode cX3_stretch 7 = .ok (.iconst (-1), 1) := by decide +kernel
theorem dX3_stretch_8 : decode cX3_stretch 8 = .ok (.ireturn, 1) := by decide +kernel
theorem dX3_stretch_9 : decode cX3_stretch 9 = .ok (.aload_n 0, 1) := by decide +kernel
theorem dX3_stretch_10 : decode cX3_stretch 10 = .ok (.getfield 12, 3) := by decide +kernel
theorem dX3_stretch_13 : decode cX3_stretch 13 = .ok (.iload_n 1, 1) := by decide +kernel
theorem dX3_stretch_14 : decode cX3_stretch 14 = .ok (.iload_n 2, 1) := by decide +kernel
theorem dX3_stretch_15 : decode cX3_stretch 15 = .ok (.invokevirtual 101, 3) := by decide +kernel
theorem dX3_stretch_18 : decode cX3_stretch 18 = .ok (.istore 4, 2) := by decide +kernel
theorem dX3_stretch_20 : decode cX3_stretch 20 = .ok (.iload 4, 2) := by decide +kernel
theorem dX3_stretch_22 : decode cX3_stretch 22 = .ok (.ifCond .ge 5, 3) := by decide +kernel
theorem dX3_stretch_25 : decode cX3_stretch 25 = .ok (.iconst (-1), 1) := by decide +kernel
theorem dX3_stretch_26 : decode cX3_stretch 26 = .ok (.ireturn, 1) := by decide +kernel
theorem dX3_stretch_27 : decode cX3_stretch 27 = .ok (.iload_n 3, 1) := by decide +kernel
theorem dX3_stretch_28 : decode cX3_stretch 28 = .ok (.tableswitch 53 0 2 #[28, 39, 42], 28) := by decide +kernel
theorem dX3_stretch_56 : decode cX3_stretch 56 = .ok (.aload_n 0, 1) := by decide +kernel
theorem dX3_stretch_57 : decode cX3_stretch 57 = .ok (.getfield 12, 3) := by decide +kernel
theorem dX3_stretch_60 : decode cX3_stretch 60 = .ok (.iload_n 1, 1) := by decide +kernel
theorem dX3_stretch_61 : decode cX3_stretch 61 = .ok (.iload 4, 2) := by decide +kernel
theorem dX3_stretch_63 : decode cX3_stretch 63 = .ok (.invokevirtual 77, 3) := by decide +kernel
theorem dX3_stretch_66 : decode cX3_stretch 66 = .ok (.ireturn, 1) := by decide +kernel
theorem dX3_stretch_67 : decode cX3_stretch 67 = .ok (.iload 4, 2) := by decide +kernel
theorem dX3_stretch_69 : decode cX3_stretch 69 = .ok (.ireturn, 1) := by decide +kernel
theorem dX3_stretch_70 : decode cX3_stretch 70 = .ok (.aload_n 0, 1) := by decide +kernel
theorem dX3_stretch_71 : decode cX3_stretch 71 = .ok (.getfield 12, 3) := by decide +kernel
theorem dX3_stretch_74 : decode cX3_stretch 74 = .ok (.iload_n 1, 1) := by decide +kernel
theorem dX3_stretch_75 : decode cX3_stretch 75 = .ok (.iload 4, 2) := by decide +kernel
theorem dX3_stretch_77 : decode cX3_stretch 77 = .ok (.invokevirtual 104, 3) := by decide +kernel
theorem dX3_stretch_80 : decode cX3_stretch 80 = .ok (.ireturn, 1) := by decide +kernel
theorem dX3_stretch_81 : decode cX3_stretch 81 = .ok (.bipush (-2), 2) := by decide +kernel
theorem dX3_stretch_83 : decode cX3_stretch 83 = .ok (.ireturn, 1) := by decide +kernel
theorem dX3_inRow_0 : decode cX3_inRow 0 = .ok (.iload_n 1, 1) := by decide +kernel
theorem dX3_inRow_1 : decode cX3_inRow 1 = .ok (.ifCond .lt 14, 3) := by decide +kernel
theorem dX3_inRow_4 : decode cX3_inRow 4 = .ok (.iload_n 1, 1) := by decide +kernel
theorem dX3_inRow_5 : decode cX3_inRow 5 = .ok (.aload_n 0, 1) := by decide +kernel
theorem dX3_inRow_6 : decode cX3_inRow 6 = .ok (.getfield 12, 3) := by decide +kernel
theorem dX3_inRow_9 : decode cX3_inRow 9 = .ok (.getfield 107, 3) := by decide +kernel
theorem dX3_inRow_12 : decode cX3_inRow 12 = .ok (.if_icmp .lt 5, 3) := by decide +kernel
theorem dX3_inRow_15 : decode cX3_inRow 15 = .ok (.iconst (-1), 1) := by decide +kernel
theorem dX3_inRow_16 : decode cX3_inRow 16 = .ok (.ireturn, 1) := by decide +kernel
theorem dX3_inRow_17 : decode cX3_inRow 17 = .ok (.aload_n 0, 1) := by decide +kernel
theorem dX3_inRow_18 : decode cX3_inRow 18 = .ok (.getfield 12, 3) := by decide +kernel
theorem dX3_inRow_21 : decode cX3_inRow 21 = .ok (.getfield 111, 3) := by decide +kernel
theorem dX3_inRow_24 : decode cX3_inRow 24 = .ok (.iload_n 1, 1) := by decide +kernel
theorem dX3_inRow_25 : decode cX3_inRow 25 = .ok (.iaload, 1) := by decide +kernel
theorem dX3_inRow_26 : decode cX3_inRow 26 = .ok (.ireturn, 1) := by decide +kernel
set_option maxRecDepth 20000 in
theorem ggX3_waitsFor_X3_isOwner : GoodIn wsX3_waitsFor wsX3_isOwner := goodIn_r _ [5] (by decide +kernel) (by decide +kernel)
set_option maxRecDepth 20000 in
theorem gX3_waitsFor_X3_isOwner : GoodIn wsX3_waitsFor (va_wsS RX3 70 yX3_isOwner wsX3_isOwner) := goodIn_app (goodIn_of _ (by decide +kernel)) ggX3_waitsFor_X3_isOwner
set_option maxRecDepth 20000 in
theorem ggX3_waitsFor_X1_waitedFor : GoodIn wsX3_waitsFor wsX1_waitedFor := goodIn_r _ [10, 11, 12, 13, 9, 14, 15, 16, 17, 18, 19, 20, 21, 22, 23, 24, 25, 26, 27, 28, 29, 30, 31, 32, 33, 34, 35, 36, 37, 4, 38, 39, 40, 41, 42, 48, 49, 50, 51, 52, 53, 54, 55, 56, 57, 58, 59, 60, 61, 62, 63] (by decide +kernel) (by decide +kernel)
set_option maxRecDepth 20000 in
theorem gX3_waitsFor_X1_waitedFor : GoodIn wsX3_waitsFor (wsV RX3 114 RX1 yX1_waitedFor wsX1_waitedFor) := goodIn_app (goodIn_of _ (by decide +kernel)) ggX3_waitsFor_X1_waitedFor
theorem dX3_waitsFor_0 : decode cX3_waitsFor 0 = .ok (.iload_n 1, 1) := by decide +kernel
theorem dX3_waitsFor_1 : decode cX3_waitsFor 1 = .ok (.invokestatic 70, 3) := by decide +kernel
theorem dX3_waitsFor_4 : decode cX3_waitsFor 4 = .ok (.ifCond .ne 5, 3) := by decide +kernel
theorem dX3_waitsFor_7 : decode cX3_waitsFor 7 = .ok (.iconst (-1), 1) := by decide +kernel
theorem dX3_waitsFor_8 : decode cX3_waitsFor 8 = .ok (.ireturn, 1) := by decide +kernel
theorem dX3_waitsFor_9 : decode cX3_waitsFor 9 = .ok (.aload_n 0, 1) := by decide +kernel
theorem dX3_waitsFor_10 : decode cX3_waitsFor 10 = .ok (.getfield 12, 3) := by decide +kernel
theorem dX3_waitsFor_13 : decode cX3_waitsFor 13 = .ok (.iload_n 1, 1) := by decide +kernel
theorem dX3_waitsFor_14 : decode cX3_waitsFor 14 = .ok (.invokevirtual 114, 3) := by decide +kernel
theorem dX3_waitsFor_17 : decode cX3_waitsFor 17 = .ok (.ireturn, 1) := by decide +kernel
set_option maxRecDepth 20000 in
theorem ggX3_count_X1_placesLocked : GoodIn wsX3_count wsX1_placesLocked := goodIn_r _ [15, 16, 27, 28, 29, 30, 31, 32, 33, 34, 35, 36, 37, 38, 39, 40, 41, 42] (by decide +kernel) (by decide +kernel)
set_option maxRecDepth 20000 in
theorem gX3_count_X1_placesLocked : GoodIn wsX3_count (wsV RX3 120 RX1 yX1_placesLocked wsX1_placesLocked) := goodIn_app (goodIn_of _ (by decide +kernel)) ggX3_count_X1_placesLocked
set_option maxRecDepth 20000 in
theorem ggX3_count_X1_allGiven : GoodIn wsX3_count wsX1_allGiven := goodIn_r _ [20, 21, 27, 28, 29, 30, 31, 32, 33, 34, 35, 36, 37, 38, 39, 40, 41, 42] (by decide +kernel) (by decide +kernel)
set_option maxRecDepth 20000 in
theorem gX3_count_X1_allGiven : GoodIn wsX3_count (wsV RX3 124 RX1 yX1_allGiven wsX1_allGiven) := goodIn_app (goodIn_of _ (by decide +kernel)) ggX3_count_X1_allGiven
theorem dX3_count_0 : decode cX3_count 0 = .ok (.iload_n 1, 1) := by decide +kernel
theorem dX3_count_1 : decode cX3_count 1 = .ok (.tableswitch 153 0 10 #[59, 67, 75, 83, 93, 103, 113, 121, 129, 137, 145], 59) := by decide +kernel
theorem dX3_count_60 : decode cX3_count 60 = .ok (.aload_n 0, 1) := by decide +kernel
theorem dX3_count_61 : decode cX3_count 61 = .ok (.getfield 12, 3) := by decide +kernel
theorem dX3_count_64 : decode cX3_count 64 = .ok (.getfield 117, 3) := by decide +kernel
theorem dX3_count_67 : decode cX3_count 67 = .ok (.ireturn, 1) := by decide +kernel
theorem dX3_count_68 : decode cX3_count 68 = .ok (.aload_n 0, 1) := by decide +kernel
theorem dX3_count_69 : decode cX3_count 69 = .ok (.getfield 12, 3) := by decide +kernel
theorem dX3_count_72 : decode cX3_count 72 = .ok (.getfield 107, 3) := by decide +kernel
theorem dX3_count_75 : decode cX3_count 75 = .ok (.ireturn, 1) := by decide +kernel
theorem dX3_count_76 : decode cX3_count 76 = .ok (.aload_n 0, 1) := by decide +kernel
theorem dX3_count_77 : decode cX3_count 77 = .ok (.getfield 12, 3) := by decide +kernel
theorem dX3_count_80 : decode cX3_count 80 = .ok (.invokevirtual 120, 3) := by decide +kernel
theorem dX3_count_83 : decode cX3_count 83 = .ok (.ireturn, 1) := by decide +kernel
theorem dX3_count_84 : decode cX3_count 84 = .ok (.aload_n 0, 1) := by decide +kernel
theorem dX3_count_85 : decode cX3_count 85 = .ok (.getfield 12, 3) := by decide +kernel
theorem dX3_count_88 : decode cX3_count 88 = .ok (.getfield 37, 3) := by decide +kernel
theorem dX3_count_91 : decode cX3_count 91 = .ok (.iconst 0, 1) := by decide +kernel
theorem dX3_count_92 : decode cX3_count 92 = .ok (.iaload, 1) := by decide +kernel
theorem dX3_count_93 : decode cX3_count 93 = .ok (.ireturn, 1) := by decide +kernel
theorem dX3_count_94 : decode cX3_count 94 = .ok (.aload_n 0, 1) := by decide +kernel
theorem dX3_count_95 : decode cX3_count 95 = .ok (.getfield 12, 3) := by decide +kernel
theorem dX3_count_98 : decode cX3_count 98 = .ok (.getfield 37, 3) := by decide +kernel
theorem dX3_count_101 : decode cX3_count 101 = .ok (.iconst 1, 1) := by decide +kernel
theorem dX3_count_102 : decode cX3_count 102 = .ok (.iaload, 1) := by decide +kernel
theorem dX3_count_103 : decode cX3_count 103 = .ok (.ireturn, 1) := by decide +kernel
theorem dX3_count_104 : decode cX3_count 104 = .ok (.aload_n 0, 1) := by decide +kernel
theorem dX3_count_105 : decode cX3_count 105 = .ok (.getfield 12, 3) := by decide +kernel
theorem dX3_count_108 : decode cX3_count 108 = .ok (.getfield 37, 3) := by decide +kernel
theorem dX3_count_111 : decode cX3_count 111 = .ok (.iconst 2, 1) := by decide +kernel
theorem dX3_count_112 : decode cX3_count 112 = .ok (.iaload, 1) := by decide +kernel
theorem dX3_count_113 : decode cX3_count 113 = .ok (.ireturn, 1) := by decide +kernel
theorem dX3_count_114 : decode cX3_count 114 = .ok (.aload_n 0, 1) := by decide +kernel
theorem dX3_count_115 : decode cX3_count 115 = .ok (.getfield 12, 3) := by decide +kernel
theorem dX3_count_118 : decode cX3_count 118 = .ok (.invokevirtual 124, 3) := by decide +kernel
theorem dX3_count_121 : decode cX3_count 121 = .ok (.ireturn, 1) := by decide +kernel
theorem dX3_count_122 : decode cX3_count 122 = .ok (.aload_n 0, 1) := by decide +kernel
theorem dX3_count_123 : decode cX3_count 123 = .ok (.getfield 12, 3) := by decide +kernel
theorem dX3_count_126 : decode cX3_count 126 = .ok (.getfield 127, 3) := by decide +kernel
theorem dX3_count_129 : decode cX3_count 129 = .ok (.ireturn, 1) := by decide +kernel
theorem dX3_count_130 : decode cX3_count 130 = .ok (.aload_n 0, 1) := by decide +kernel
theorem dX3_count_131 : decode cX3_count 131 = .ok (.getfield 12, 3) := by decide +kernel
theorem dX3_count_134 : decode cX3_count 134 = .ok (.getfield 130, 3) := by decide +kernel
theorem dX3_count_137 : decode cX3_count 137 = .ok (.ireturn, 1) := by decide +kernel
theorem dX3_count_138 : decode cX3_count 138 = .ok (.aload_n 0, 1) := by decide +kernel
theorem dX3_count_139 : decode cX3_count 139 = .ok (.getfield 33, 3) := by decide +kernel
theorem dX3_count_142 : decode cX3_count 142 = .ok (.getfield 133, 3) := by decide +kernel
theorem dX3_count_145 : decode cX3_count 145 = .ok (.ireturn, 1) := by decide +kernel
theorem dX3_count_146 : decode cX3_count 146 = .ok (.aload_n 0, 1) := by decide +kernel
theorem dX3_count_147 : decode cX3_count 147 = .ok (.getfield 22, 3) := by decide +kernel
theorem dX3_count_150 : decode cX3_count 150 = .ok (.getfield 136, 3) := by decide +kernel
theorem dX3_count_153 : decode cX3_count 153 = .ok (.ireturn, 1) := by decide +kernel
theorem dX3_count_154 : decode cX3_count 154 = .ok (.bipush (-2), 2) := by decide +kernel
theorem dX3_count_156 : decode cX3_count 156 = .ok (.ireturn, 1) := by decide +kernel
set_option maxRecDepth 20000 in
theorem ggX3_couldGive_X3_inTheWay : GoodIn wsX3_couldGive wsX3_inTheWay := goodIn_r _ [5, 6, 7, 8, 9, 4, 10, 11, 12, 13, 14, 15, 16, 17, 18, 19, 20, 21, 22, 23, 24, 25, 26, 27, 28, 29, 30, 31, 32, 33, 34, 35, 36, 37, 38, 39, 40, 41, 42, 43, 44, 45, 46, 47, 48, 49, 50, 51, 52, 53, 54, 55, 56, 57, 58, 59, 60, 61, 62, 63, 64] (by decide +kernel) (by decide +kernel)
set_option maxRecDepth 20000 in
theorem gX3_couldGive_X3_inTheWay : GoodIn wsX3_couldGive (wsV RX3 139 RX3 yX3_inTheWay wsX3_inTheWay) := goodIn_app (goodIn_of _ (by decide +kernel)) ggX3_couldGive_X3_inTheWay
theorem dX3_couldGive_0 : decode cX3_couldGive 0 = .ok (.aload_n 0, 1) := by decide +kernel
theorem dX3_couldGive_1 : decode cX3_couldGive 1 = .ok (.iload_n 1, 1) := by decide +kernel
theorem dX3_couldGive_2 : decode cX3_couldGive 2 = .ok (.iload_n 2, 1) := by decide +kernel
theorem dX3_couldGive_3 : decode cX3_couldGive 3 = .ok (.iload_n 3, 1) := by decide +kernel
theorem dX3_couldGive_4 : decode cX3_couldGive 4 = .ok (.iload 4, 2) := by decide +kernel
theorem dX3_couldGive_6 : decode cX3_couldGive 6 = .ok (.invokevirtual 139, 3) := by decide +kernel
theorem dX3_couldGive_9 : decode cX3_couldGive 9 = .ok (.istore 5, 2) := by decide +kernel
theorem dX3_couldGive_11 : decode cX3_couldGive 11 = .ok (.iload 5, 2) := by decide +kernel
theorem dX3_couldGive_13 : decode cX3_couldGive 13 = .ok (.ifCond .ge 6, 3) := by decide +kernel
theorem dX3_couldGive_16 : decode cX3_couldGive 16 = .ok (.iload 5, 2) := by decide +kernel
theorem dX3_couldGive_18 : decode cX3_couldGive 18 = .ok (.ireturn, 1) := by decide +kernel
theorem dX3_couldGive_19 : decode cX3_couldGive 19 = .ok (.iload 5, 2) := by decide +kernel
theorem dX3_couldGive_21 : decode cX3_couldGive 21 = .ok (.ifCond .ne 7, 3) := by decide +kernel
theorem dX3_couldGive_24 : decode cX3_couldGive 24 = .ok (.iconst 1, 1) := by decide +kernel
theorem dX3_couldGive_25 : decode cX3_couldGive 25 = .ok (.goto 4, 3) := by decide +kernel
theorem dX3_couldGive_28 : decode cX3_couldGive 28 = .ok (.iconst 0, 1) := by decide +kernel
theorem dX3_couldGive_29 : decode cX3_couldGive 29 = .ok (.ireturn, 1) := by decide +kernel
set_option maxRecDepth 20000 in
theorem ggX3_inTheWay_X3_isOwner : GoodIn wsX3_inTheWay wsX3_isOwner := goodIn_r _ [6] (by decide +kernel) (by decide +kernel)
set_option maxRecDepth 20000 in
theorem gX3_inTheWay_X3_isOwner : GoodIn wsX3_inTheWay (va_wsS RX3 70 yX3_isOwner wsX3_isOwner) := goodIn_app (goodIn_of _ (by decide +kernel)) ggX3_inTheWay_X3_isOwner
set_option maxRecDepth 20000 in
theorem ggX3_inTheWay_X3_isLock : GoodIn wsX3_inTheWay wsX3_isLock := goodIn_r _ [9] (by decide +kernel) (by decide +kernel)
set_option maxRecDepth 20000 in
theorem gX3_inTheWay_X3_isLock : GoodIn wsX3_inTheWay (va_wsS RX3 143 yX3_isLock wsX3_isLock) := goodIn_app (goodIn_of _ (by decide +kernel)) ggX3_inTheWay_X3_isLock
set_option maxRecDepth 20000 in
theorem ggX3_inTheWay_X3_isRange : GoodIn wsX3_inTheWay wsX3_isRange := goodIn_r _ [12, 13, 14, 5, 15] (by decide +kernel) (by decide +kernel)
set_option maxRecDepth 20000 in
theorem gX3_inTheWay_X3_isRange : GoodIn wsX3_inTheWay (va_wsS RX3 146 yX3_isRange wsX3_isRange) := goodIn_app (goodIn_of _ (by decide +kernel)) ggX3_inTheWay_X3_isRange
set_option maxRecDepth 20000 in
theorem ggX3_inTheWay_X1_inWay : GoodIn wsX3_inTheWay wsX1_inWay := goodIn_r _ [20, 21, 22, 23, 24, 25, 26, 27, 28, 29, 30, 31, 32, 33, 34, 5, 35, 36, 37, 38, 19, 39, 45, 46, 47, 48, 49, 50, 51, 52, 53, 54, 55, 56, 57, 58, 59, 60] (by decide +kernel) (by decide +kernel)
set_option maxRecDepth 20000 in
theorem gX3_inTheWay_X1_inWay : GoodIn wsX3_inTheWay (wsV RX3 150 RX1 yX1_inWay wsX1_inWay) := goodIn_app (goodIn_of _ (by decide +kernel)) ggX3_inTheWay_X1_inWay
theorem dX3_inTheWay_0 : decode cX3_inTheWay 0 = .ok (.iload_n 1, 1) := by decide +kernel
theorem dX3_inTheWay_1 : decode cX3_inTheWay 1 = .ok (.invokestatic 70, 3) := by decide +kernel
theorem dX3_inTheWay_4 : decode cX3_inTheWay 4 = .ok (.ifCond .ne 5, 3) := by decide +kernel
theorem dX3_inTheWay_7 : decode cX3_inTheWay 7 = .ok (.iconst (-1), 1) := by decide +kernel
theorem dX3_inTheWay_8 : decode cX3_inTheWay 8 = .ok (.ireturn, 1) := by decide +kernel
theorem dX3_inTheWay_9 : decode cX3_inTheWay 9 = .ok (.iload_n 2, 1) := by decide +kernel
theorem dX3_inTheWay_10 : decode cX3_inTheWay 10 = .ok (.invokestatic 143, 3) := by decide +kernel
theorem dX3_inTheWay_13 : decode cX3_inTheWay 13 = .ok (.ifCond .eq 12, 3) := by decide +kernel
theorem dX3_inTheWay_16 : decode cX3_inTheWay 16 = .ok (.iload_n 3, 1) := by decide +kernel
theorem dX3_inTheWay_17 : decode cX3_inTheWay 17 = .ok (.iload 4, 2) := by decide +kernel
theorem dX3_inTheWay_19 : decode cX3_inTheWay 19 = .ok (.invokestatic 146, 3) := by decide +kernel
theorem dX3_inTheWay_22 : decode cX3_inTheWay 22 = .ok (.ifCond .ne 6, 3) := by decide +kernel
theorem dX3_inTheWay_25 : decode cX3_inTheWay 25 = .ok (.bipush (-2), 2) := by decide +kernel
theorem dX3_inTheWay_27 : decode cX3_inTheWay 27 = .ok (.ireturn, 1) := by decide +kernel
theorem dX3_inTheWay_28 : decode cX3_inTheWay 28 = .ok (.aload_n 0, 1) := by decide +kernel
theorem dX3_inTheWay_29 : decode cX3_inTheWay 29 = .ok (.getfield 12, 3) := by decide +kernel
theorem dX3_inTheWay_32 : decode cX3_inTheWay 32 = .ok (.iload_n 1, 1) := by decide +kernel
theorem dX3_inTheWay_33 : decode cX3_inTheWay 33 = .ok (.iload_n 2, 1) := by decide +kernel
theorem dX3_inTheWay_34 : decode cX3_inTheWay 34 = .ok (.iload_n 3, 1) := by decide +kernel
theorem dX3_inTheWay_35 : decode cX3_inTheWay 35 = .ok (.iload 4, 2) := by decide +kernel
theorem dX3_inTheWay_37 : decode cX3_inTheWay 37 = .ok (.aload_n 0, 1) := by decide +kernel
theorem dX3_inTheWay_38 : decode cX3_inTheWay 38 = .ok (.getfield 12, 3) := by decide +kernel
theorem dX3_inTheWay_41 : decode cX3_inTheWay 41 = .ok (.getfield 107, 3) := by decide +kernel
theorem dX3_inTheWay_44 : decode cX3_inTheWay 44 = .ok (.invokevirtual 150, 3) := by decide +kernel
theorem dX3_inTheWay_47 : decode cX3_inTheWay 47 = .ok (.ireturn, 1) := by decide +kernel
set_option maxRecDepth 20000 in
theorem ggX3_ring_X3_isOwner : GoodIn wsX3_ring wsX3_isOwner := goodIn_r _ [6] (by decide +kernel) (by decide +kernel)
set_option maxRecDepth 20000 in
theorem gX3_ring_X3_isOwner : GoodIn wsX3_ring (va_wsS RX3 70 yX3_isOwner wsX3_isOwner) := goodIn_app (goodIn_of _ (by decide +kernel)) ggX3_ring_X3_isOwner
set_option maxRecDepth 20000 in
theorem ggX3_ring_X3_isLock : GoodIn wsX3_ring wsX3_isLock := goodIn_r _ [9] (by decide +kernel) (by decide +kernel)
set_option maxRecDepth 20000 in
theorem gX3_ring_X3_isLock : GoodIn wsX3_ring (va_wsS RX3 143 yX3_isLock wsX3_isLock) := goodIn_app (goodIn_of _ (by decide +kernel)) ggX3_ring_X3_isLock
set_option maxRecDepth 20000 in
theorem ggX3_ring_X3_isRange : GoodIn wsX3_ring wsX3_isRange := goodIn_r _ [12, 13, 14, 5, 15] (by decide +kernel) (by decide +kernel)
set_option maxRecDepth 20000 in
theorem gX3_ring_X3_isRange : GoodIn wsX3_ring (va_wsS RX3 146 yX3_isRange wsX3_isRange) := goodIn_app (goodIn_of _ (by decide +kernel)) ggX3_ring_X3_isRange
set_option maxRecDepth 20000 in
theorem ggX3_ring_X1_become : GoodIn wsX3_ring wsX1_become := goodIn_r _ [20, 21, 22, 23, 24, 25, 26, 27, 28, 29, 30, 31, 32, 33, 34, 35, 36, 37, 38, 39, 83, 84, 85, 86, 87, 88, 89, 90, 91, 92, 93, 94, 95, 96, 97, 98] (by decide +kernel) (by decide +kernel)
set_option maxRecDepth 20000 in
theorem gX3_ring_X1_become : GoodIn wsX3_ring (wsV RX3 153 RX1 yX1_become wsX1_become) := goodIn_app (goodIn_of _ (by decide +kernel)) ggX3_ring_X1_become
set_option maxRecDepth 20000 in
theorem ggX3_ring_X1_quitRow : GoodIn wsX3_ring wsX1_quitRow := goodIn_r _ [43, 22, 31, 32, 44, 45, 46, 19, 47, 83, 84, 85, 86, 87, 88, 89, 90, 91, 92, 93, 94, 95, 96, 97, 98] (by decide +kernel) (by decide +kernel)
set_option maxRecDepth 20000 in
theorem gX3_ring_X1_quitRow : GoodIn wsX3_ring (wsV RX3 156 RX1 yX1_quitRow wsX1_quitRow) := goodIn_app (goodIn_of _ (by decide +kernel)) ggX3_ring_X1_quitRow
set_option maxRecDepth 20000 in
theorem ggX3_ring_X1_join : GoodIn wsX3_ring wsX1_join := goodIn_r _ [51, 22, 31, 32, 33, 34, 35, 83, 84, 85, 86, 87, 88, 89, 90, 91, 92, 93, 94, 95, 96, 97, 98] (by decide +kernel) (by decide +kernel)
set_option maxRecDepth 20000 in
theorem gX3_ring_X1_join : GoodIn wsX3_ring (wsV RX3 160 RX1 yX1_join wsX1_join) := goodIn_app (goodIn_of _ (by decide +kernel)) ggX3_ring_X1_join
set_option maxRecDepth 20000 in
theorem ggX3_ring_X1_ringOf : GoodIn wsX3_ring wsX1_ringOf := goodIn_r _ [55, 56, 22, 31, 57, 58, 59, 19, 60, 32, 33, 34, 61, 62, 63, 64, 30, 25, 65, 66, 67, 68, 69, 70, 71, 72, 5, 73, 74, 75, 76, 77, 83, 84, 85, 86, 87, 88, 89, 90, 91, 92, 93, 94, 95, 96, 97, 98] (by decide +kernel) (by decide +kernel)
set_option maxRecDepth 20000 in
theorem gX3_ring_X1_ringOf : GoodIn wsX3_ring (wsV RX3 164 RX1 yX1_ringOf wsX1_ringOf) := goodIn_app (goodIn_of _ (by decide +kernel)) ggX3_ring_X1_ringOf
theorem dX3_ring_0 : decode cX3_ring 0 = .ok (.iload_n 1, 1) := by decide +kernel
theorem dX3_ring_1 : decode cX3_ring 1 = .ok (.invokestatic 70, 3) := by decide +kernel
theorem dX3_ring_4 : decode cX3_ring 4 = .ok (.ifCond .ne 5, 3) := by decide +kernel
theorem dX3_ring_7 : decode cX3_ring 7 = .ok (.iconst (-1), 1) := by decide +kernel
theorem dX3_ring_8 : decode cX3_ring 8 = .ok (.ireturn, 1) := by decide +kernel
theorem dX3_ring_9 : decode cX3_ring 9 = .ok (.iload_n 2, 1) := by decide +kernel
theorem dX3_ring_10 : decode cX3_ring 10 = .ok (.invokestatic 143, 3) := by decide +kernel
theorem dX3_ring_13 : decode cX3_ring 13 = .ok (.ifCond .eq 12, 3) := by decide +kernel
theorem dX3_ring_16 : decode cX3_ring 16 = .ok (.iload_n 3, 1) := by decide +kernel
theorem dX3_ring_17 : decode cX3_ring 17 = .ok (.iload 4, 2) := by decide +kernel
theorem dX3_ring_19 : decode cX3_ring 19 = .ok (.invokestatic 146, 3) := by decide +kernel
theorem dX3_ring_22 : decode cX3_ring 22 = .ok (.ifCond .ne 6, 3) := by decide +kernel
theorem dX3_ring_25 : decode cX3_ring 25 = .ok (.bipush (-2), 2) := by decide +kernel
theorem dX3_ring_27 : decode cX3_ring 27 = .ok (.ireturn, 1) := by decide +kernel
theorem dX3_ring_28 : decode cX3_ring 28 = .ok (.aload_n 0, 1) := by decide +kernel
theorem dX3_ring_29 : decode cX3_ring 29 = .ok (.getfield 16, 3) := by decide +kernel
theorem dX3_ring_32 : decode cX3_ring 32 = .ok (.aload_n 0, 1) := by decide +kernel
theorem dX3_ring_33 : decode cX3_ring 33 = .ok (.getfield 12, 3) := by decide +kernel
theorem dX3_ring_36 : decode cX3_ring 36 = .ok (.invokevirtual 153, 3) := by decide +kernel
theorem dX3_ring_39 : decode cX3_ring 39 = .ok (.aload_n 0, 1) := by decide +kernel
theorem dX3_ring_40 : decode cX3_ring 40 = .ok (.getfield 16, 3) := by decide +kernel
theorem dX3_ring_43 : decode cX3_ring 43 = .ok (.iload_n 1, 1) := by decide +kernel
theorem dX3_ring_44 : decode cX3_ring 44 = .ok (.invokevirtual 156, 3) := by decide +kernel
theorem dX3_ring_47 : decode cX3_ring 47 = .ok (.aload_n 0, 1) := by decide +kernel
theorem dX3_ring_48 : decode cX3_ring 48 = .ok (.getfield 16, 3) := by decide +kernel
theorem dX3_ring_51 : decode cX3_ring 51 = .ok (.iload_n 1, 1) := by decide +kernel
theorem dX3_ring_52 : decode cX3_ring 52 = .ok (.iload_n 2, 1) := by decide +kernel
theorem dX3_ring_53 : decode cX3_ring 53 = .ok (.iload_n 3, 1) := by decide +kernel
theorem dX3_ring_54 : decode cX3_ring 54 = .ok (.iload 4, 2) := by decide +kernel
theorem dX3_ring_56 : decode cX3_ring 56 = .ok (.invokevirtual 160, 3) := by decide +kernel
theorem dX3_ring_59 : decode cX3_ring 59 = .ok (.aload_n 0, 1) := by decide +kernel
theorem dX3_ring_60 : decode cX3_ring 60 = .ok (.getfield 16, 3) := by decide +kernel
theorem dX3_ring_63 : decode cX3_ring 63 = .ok (.iload_n 1, 1) := by decide +kernel
theorem dX3_ring_64 : decode cX3_ring 64 = .ok (.invokevirtual 164, 3) := by decide +kernel
theorem dX3_ring_67 : decode cX3_ring 67 = .ok (.ireturn, 1) := by decide +kernel
set_option maxRecDepth 20000 in
theorem ggX3_firstFor_X3_isOwner : GoodIn wsX3_firstFor wsX3_isOwner := goodIn_r _ [4] (by decide +kernel) (by decide +kernel)
set_option maxRecDepth 20000 in
theorem gX3_firstFor_X3_isOwner : GoodIn wsX3_firstFor (va_wsS RX3 70 yX3_isOwner wsX3_isOwner) := goodIn_app (goodIn_of _ (by decide +kernel)) ggX3_firstFor_X3_isOwner
set_option maxRecDepth 20000 in
theorem ggX3_firstFor_X3_isLock : GoodIn wsX3_firstFor wsX3_isLock := goodIn_r _ [7] (by decide +kernel) (by decide +kernel)
set_option maxRecDepth 20000 in
theorem gX3_firstFor_X3_isLock : GoodIn wsX3_firstFor (va_wsS RX3 143 yX3_isLock wsX3_isLock) := goodIn_app (goodIn_of _ (by decide +kernel)) ggX3_firstFor_X3_isLock
set_option maxRecDepth 20000 in
theorem ggX3_firstFor_X3_isPlace : GoodIn wsX3_firstFor wsX3_isPlace := goodIn_r _ [10] (by decide +kernel) (by decide +kernel)
set_option maxRecDepth 20000 in
theorem gX3_firstFor_X3_isPlace : GoodIn wsX3_firstFor (va_wsS RX3 74 yX3_isPlace wsX3_isPlace) := goodIn_app (goodIn_of _ (by decide +kernel)) ggX3_firstFor_X3_isPlace
set_option maxRecDepth 20000 in
theorem ggX3_firstFor_X3_couldLock : GoodIn wsX3_firstFor wsX3_couldLock := goodIn_r _ [14, 15, 16, 17, 18, 19, 20, 21, 22, 23, 24, 25, 26, 27, 28, 29, 30, 31, 32, 33, 34, 35, 3, 36, 37, 38, 39, 40, 41, 42, 43, 44, 45, 46, 47, 48, 49, 50, 51, 52, 53, 54, 55, 56, 57, 58, 59, 60, 61] (by decide +kernel) (by decide +kernel)
set_option maxRecDepth 20000 in
theorem gX3_firstFor_X3_couldLock : GoodIn wsX3_firstFor (wsV RX3 167 RX3 yX3_couldLock wsX3_couldLock) := goodIn_app (goodIn_of _ (by decide +kernel)) ggX3_firstFor_X3_couldLock
theorem dX3_firstFor_0 : decode cX3_firstFor 0 = .ok (.iload_n 1, 1) := by decide +kernel
theorem dX3_firstFor_1 : decode cX3_firstFor 1 = .ok (.invokestatic 70, 3) := by decide +kernel
theorem dX3_firstFor_4 : decode cX3_firstFor 4 = .ok (.ifCond .ne 5, 3) := by decide +kernel
theorem dX3_firstFor_7 : decode cX3_firstFor 7 = .ok (.iconst (-1), 1) := by decide +kernel
theorem dX3_firstFor_8 : decode cX3_firstFor 8 = .ok (.ireturn, 1) := by decide +kernel
theorem dX3_firstFor_9 : decode cX3_firstFor 9 = .ok (.iload_n 2, 1) := by decide +kernel
theorem dX3_firstFor_10 : decode cX3_firstFor 10 = .ok (.invokestatic 143, 3) := by decide +kernel
theorem dX3_firstFor_13 : decode cX3_firstFor 13 = .ok (.ifCond .eq 23, 3) := by decide +kernel
theorem dX3_firstFor_16 : decode cX3_firstFor 16 = .ok (.iload_n 3, 1) := by decide +kernel
theorem dX3_firstFor_17 : decode cX3_firstFor 17 = .ok (.iconst 1, 1) := by decide +kernel
theorem dX3_firstFor_18 : decode cX3_firstFor 18 = .ok (.if_icmp .lt 18, 3) := by decide +kernel
theorem dX3_firstFor_21 : decode cX3_firstFor 21 = .ok (.iload_n 3, 1) := by decide +kernel
theorem dX3_firstFor_22 : decode cX3_firstFor 22 = .ok (.sipush 300, 3) := by decide +kernel
theorem dX3_firstFor_25 : decode cX3_firstFor 25 = .ok (.if_icmp .gt 11, 3) := by decide +kernel
theorem dX3_firstFor_28 : decode cX3_firstFor 28 = .ok (.iload 4, 2) := by decide +kernel
theorem dX3_firstFor_30 : decode cX3_firstFor 30 = .ok (.invokestatic 74, 3) := by decide +kernel
theorem dX3_firstFor_33 : decode cX3_firstFor 33 = .ok (.ifCond .ne 6, 3) := by decide +kernel
theorem dX3_firstFor_36 : decode cX3_firstFor 36 = .ok (.bipush (-2), 2) := by decide +kernel
theorem dX3_firstFor_38 : decode cX3_firstFor 38 = .ok (.ireturn, 1) := by decide +kernel
theorem dX3_firstFor_39 : decode cX3_firstFor 39 = .ok (.iconst 0, 1) := by decide +kernel
theorem dX3_firstFor_40 : decode cX3_firstFor 40 = .ok (.istore 5, 2) := by decide +kernel
theorem dX3_firstFor_42 : decode cX3_firstFor 42 = .ok (.iload 4, 2) := by decide +kernel
theorem dX3_firstFor_44 : decode cX3_firstFor 44 = .ok (.istore 6, 2) := by decide +kernel
theorem dX3_firstFor_46 : decode cX3_firstFor 46 = .ok (.iload 6, 2) := by decide +kernel
theorem dX3_firstFor_48 : decode cX3_firstFor 48 = .ok (.sipush 300, 3) := by decide +kernel
theorem dX3_firstFor_51 : decode cX3_firstFor 51 = .ok (.if_icmp .ge 43, 3) := by decide +kernel
theorem dX3_firstFor_54 : decode cX3_firstFor 54 = .ok (.aload_n 0, 1) := by decide +kernel
theorem dX3_firstFor_55 : decode cX3_firstFor 55 = .ok (.iload_n 1, 1) := by decide +kernel
theorem dX3_firstFor_56 : decode cX3_firstFor 56 = .ok (.iload_n 2, 1) := by decide +kernel
theorem dX3_firstFor_57 : decode cX3_firstFor 57 = .ok (.iload 6, 2) := by decide +kernel
theorem dX3_firstFor_59 : decode cX3_firstFor 59 = .ok (.invokevirtual 167, 3) := by decide +kernel
theorem dX3_firstFor_62 : decode cX3_firstFor 62 = .ok (.ifCond .eq 10, 3) := by decide +kernel
theorem dX3_firstFor_65 : decode cX3_firstFor 65 = .ok (.iload 5, 2) := by decide +kernel
theorem dX3_firstFor_67 : decode cX3_firstFor 67 = .ok (.iconst 1, 1) := by decide +kernel
theorem dX3_firstFor_68 : decode cX3_firstFor 68 = .ok (.iadd, 1) := by decide +kernel
theorem dX3_firstFor_69 : decode cX3_firstFor 69 = .ok (.goto 4, 3) := by decide +kernel
theorem dX3_firstFor_72 : decode cX3_firstFor 72 = .ok (.iconst 0, 1) := by decide +kernel
theorem dX3_firstFor_73 : decode cX3_firstFor 73 = .ok (.istore 5, 2) := by decide +kernel
theorem dX3_firstFor_75 : decode cX3_firstFor 75 = .ok (.iload 5, 2) := by decide +kernel
theorem dX3_firstFor_77 : decode cX3_firstFor 77 = .ok (.iload_n 3, 1) := by decide +kernel
theorem dX3_firstFor_78 : decode cX3_firstFor 78 = .ok (.if_icmp .ne 10, 3) := by decide +kernel
theorem dX3_firstFor_81 : decode cX3_firstFor 81 = .ok (.iload 6, 2) := by decide +kernel
theorem dX3_firstFor_83 : decode cX3_firstFor 83 = .ok (.iconst 1, 1) := by decide +kernel
theorem dX3_firstFor_84 : decode cX3_firstFor 84 = .ok (.iadd, 1) := by decide +kernel
theorem dX3_firstFor_85 : decode cX3_firstFor 85 = .ok (.iload_n 3, 1) := by decide +kernel
theorem dX3_firstFor_86 : decode cX3_firstFor 86 = .ok (.isub, 1) := by decide +kernel
theorem dX3_firstFor_87 : decode cX3_firstFor 87 = .ok (.ireturn, 1) := by decide +kernel
theorem dX3_firstFor_88 : decode cX3_firstFor 88 = .ok (.iinc 6 1, 3) := by decide +kernel
theorem dX3_firstFor_91 : decode cX3_firstFor 91 = .ok (.goto (-45), 3) := by decide +kernel
theorem dX3_firstFor_94 : decode cX3_firstFor 94 = .ok (.bipush (-6), 2) := by decide +kernel
theorem dX3_firstFor_96 : decode cX3_firstFor 96 = .ok (.ireturn, 1) := by decide +kernel
set_option maxRecDepth 20000 in
theorem ggX3_longestFor_X3_isOwner : GoodIn wsX3_longestFor wsX3_isOwner := goodIn_r _ [4] (by decide +kernel) (by decide +kernel)
set_option maxRecDepth 20000 in
theorem gX3_longestFor_X3_isOwner : GoodIn wsX3_longestFor (va_wsS RX3 70 yX3_isOwner wsX3_isOwner) := goodIn_app (goodIn_of _ (by decide +kernel)) ggX3_longestFor_X3_isOwner
set_option maxRecDepth 20000 in
theorem ggX3_longestFor_X3_isLock : GoodIn wsX3_longestFor wsX3_isLock := goodIn_r _ [7] (by decide +kernel) (by decide +kernel)
set_option maxRecDepth 20000 in
theorem gX3_longestFor_X3_isLock : GoodIn wsX3_longestFor (va_wsS RX3 143 yX3_isLock wsX3_isLock) := goodIn_app (goodIn_of _ (by decide +kernel)) ggX3_longestFor_X3_isLock
set_option maxRecDepth 20000 in
theorem ggX3_longestFor_X3_couldLock : GoodIn wsX3_longestFor wsX3_couldLock := goodIn_r _ [11, 12, 13, 14, 15, 16, 17, 18, 19, 20, 21, 22, 23, 24, 25, 26, 27, 28, 29, 30, 31, 32, 3, 33, 34, 35, 36, 37, 38, 39, 40, 41, 42, 43, 44, 45, 46, 47, 48, 49, 50, 51, 52, 53, 54, 55, 56, 57, 58] (by decide +kernel) (by decide +kernel)
set_option maxRecDepth 20000 in
theorem gX3_longestFor_X3_couldLock : GoodIn wsX3_longestFor (wsV RX3 167 RX3 yX3_couldLock wsX3_couldLock) := goodIn_app (goodIn_of _ (by decide +kernel)) ggX3_longestFor_X3_couldLock
theorem dX3_longestFor_0 : decode cX3_longestFor 0 = .ok (.iload_n 1, 1) := by decide +kernel
theorem dX3_longestFor_1 : decode cX3_longestFor 1 = .ok (.invokestatic 70, 3) := by decide +kernel
theorem dX3_longestFor_4 : decode cX3_longestFor 4 = .ok (.ifCond .ne 5, 3) := by decide +kernel
theorem dX3_longestFor_7 : decode cX3_longestFor 7 = .ok (.iconst (-1), 1) := by decide +kernel
theorem dX3_longestFor_8 : decode cX3_longestFor 8 = .ok (.ireturn, 1) := by decide +kernel
theorem dX3_longestFor_9 : decode cX3_longestFor 9 = .ok (.iload_n 2, 1) := by decide +kernel
theorem dX3_longestFor_10 : decode cX3_longestFor 10 = .ok (.invokestatic 143, 3) := by decide +kernel
theorem dX3_longestFor_13 : decode cX3_longestFor 13 = .ok (.ifCond .eq 12, 3) := by decide +kernel
theorem dX3_longestFor_16 : decode cX3_longestFor 16 = .ok (.iload_n 3, 1) := by decide +kernel
theorem dX3_longestFor_17 : decode cX3_longestFor 17 = .ok (.ifCond .lt 8, 3) := by decide +kernel
theorem dX3_longestFor_20 : decode cX3_longestFor 20 = .ok (.iload_n 3, 1) := by decide +kernel
theorem dX3_longestFor_21 : decode cX3_longestFor 21 = .ok (.iconst 1, 1) := by decide +kernel
theorem dX3_longestFor_22 : decode cX3_longestFor 22 = .ok (.if_icmp .le 6, 3) := by decide +kernel
theorem dX3_longestFor_25 : decode cX3_longestFor 25 = .ok (.bipush (-2), 2) := by decide +kernel
theorem dX3_longestFor_27 : decode cX3_longestFor 27 = .ok (.ireturn, 1) := by decide +kernel
theorem dX3_longestFor_28 : decode cX3_longestFor 28 = .ok (.iconst 0, 1) := by decide +kernel
theorem dX3_longestFor_29 : decode cX3_longestFor 29 = .ok (.istore 4, 2) := by decide +kernel
theorem dX3_longestFor_31 : decode cX3_longestFor 31 = .ok (.iconst 0, 1) := by decide +kernel
theorem dX3_longestFor_32 : decode cX3_longestFor 32 = .ok (.istore 5, 2) := by decide +kernel
theorem dX3_longestFor_34 : decode cX3_longestFor 34 = .ok (.bipush (-6), 2) := by decide +kernel
theorem dX3_longestFor_36 : decode cX3_longestFor 36 = .ok (.istore 6, 2) := by decide +kernel
theorem dX3_longestFor_38 : decode cX3_longestFor 38 = .ok (.iconst 0, 1) := by decide +kernel
theorem dX3_longestFor_39 : decode cX3_longestFor 39 = .ok (.istore 7, 2) := by decide +kernel
theorem dX3_longestFor_41 : decode cX3_longestFor 41 = .ok (.iload 7, 2) := by decide +kernel
theorem dX3_longestFor_43 : decode cX3_longestFor 43 = .ok (.sipush 300, 3) := by decide +kernel
theorem dX3_longestFor_46 : decode cX3_longestFor 46 = .ok (.if_icmp .ge 50, 3) := by decide +kernel
theorem dX3_longestFor_49 : decode cX3_longestFor 49 = .ok (.aload_n 0, 1) := by decide +kernel
theorem dX3_longestFor_50 : decode cX3_longestFor 50 = .ok (.iload_n 1, 1) := by decide +kernel
theorem dX3_longestFor_51 : decode cX3_longestFor 51 = .ok (.iload_n 2, 1) := by decide +kernel
theorem dX3_longestFor_52 : decode cX3_longestFor 52 = .ok (.iload 7, 2) := by decide +kernel
theorem dX3_longestFor_54 : decode cX3_longestFor 54 = .ok (.invokevirtual 167, 3) := by decide +kernel
theorem dX3_longestFor_57 : decode cX3_longestFor 57 = .ok (.ifCond .eq 10, 3) := by decide +kernel
theorem dX3_longestFor_60 : decode cX3_longestFor 60 = .ok (.iload 4, 2) := by decide +kernel
theorem dX3_longestFor_62 : decode cX3_longestFor 62 = .ok (.iconst 1, 1) := by decide +kernel
theorem dX3_longestFor_63 : decode cX3_longestFor 63 = .ok (.iadd, 1) := by decide +kernel
theorem dX3_longestFor_64 : decode cX3_longestFor 64 = .ok (.goto 4, 3) := by decide +kernel
theorem dX3_longestFor_67 : decode cX3_longestFor 67 = .ok (.iconst 0, 1) := by decide +kernel
theorem dX3_longestFor_68 : decode cX3_longestFor 68 = .ok (.istore 4, 2) := by decide +kernel
theorem dX3_longestFor_70 : decode cX3_longestFor 70 = .ok (.iload 4, 2) := by decide +kernel
theorem dX3_longestFor_72 : decode cX3_longestFor 72 = .ok (.iload 5, 2) := by decide +kernel
theorem dX3_longestFor_74 : decode cX3_longestFor 74 = .ok (.if_icmp .le 16, 3) := by decide +kernel
theorem dX3_longestFor_77 : decode cX3_longestFor 77 = .ok (.iload 4, 2) := by decide +kernel
theorem dX3_longestFor_79 : decode cX3_longestFor 79 = .ok (.istore 5, 2) := by decide +kernel
theorem dX3_longestFor_81 : decode cX3_longestFor 81 = .ok (.iload 7, 2) := by decide +kernel
theorem dX3_longestFor_83 : decode cX3_longestFor 83 = .ok (.iconst 1, 1) := by decide +kernel
theorem dX3_longestFor_84 : decode cX3_longestFor 84 = .ok (.iadd, 1) := by decide +kernel
theorem dX3_longestFor_85 : decode cX3_longestFor 85 = .ok (.iload 4, 2) := by decide +kernel
theorem dX3_longestFor_87 : decode cX3_longestFor 87 = .ok (.isub, 1) := by decide +kernel
theorem dX3_longestFor_88 : decode cX3_longestFor 88 = .ok (.istore 6, 2) := by decide +kernel
theorem dX3_longestFor_90 : decode cX3_longestFor 90 = .ok (.iinc 7 1, 3) := by decide +kernel
theorem dX3_longestFor_93 : decode cX3_longestFor 93 = .ok (.goto (-52), 3) := by decide +kernel
theorem dX3_longestFor_96 : decode cX3_longestFor 96 = .ok (.iload 5, 2) := by decide +kernel
theorem dX3_longestFor_98 : decode cX3_longestFor 98 = .ok (.ifCond .ne 6, 3) := by decide +kernel
theorem dX3_longestFor_101 : decode cX3_longestFor 101 = .ok (.bipush (-6), 2) := by decide +kernel
theorem dX3_longestFor_103 : decode cX3_longestFor 103 = .ok (.ireturn, 1) := by decide +kernel
theorem dX3_longestFor_104 : decode cX3_longestFor 104 = .ok (.iload_n 3, 1) := by decide +kernel
theorem dX3_longestFor_105 : decode cX3_longestFor 105 = .ok (.ifCond .ne 8, 3) := by decide +kernel
theorem dX3_longestFor_108 : decode cX3_longestFor 108 = .ok (.iload 6, 2) := by decide +kernel
theorem dX3_longestFor_110 : decode cX3_longestFor 110 = .ok (.goto 5, 3) := by decide +kernel
theorem dX3_longestFor_113 : decode cX3_longestFor 113 = .ok (.iload 5, 2) := by decide +kernel
theorem dX3_longestFor_115 : decode cX3_longestFor 115 = .ok (.ireturn, 1) := by decide +kernel
set_option maxRecDepth 20000 in
theorem ggX3_givenIf_X3_isOwner : GoodIn wsX3_givenIf wsX3_isOwner := goodIn_r _ [6] (by decide +kernel) (by decide +kernel)
set_option maxRecDepth 20000 in
theorem gX3_givenIf_X3_isOwner : GoodIn wsX3_givenIf (va_wsS RX3 70 yX3_isOwner wsX3_isOwner) := goodIn_app (goodIn_of _ (by decide +kernel)) ggX3_givenIf_X3_isOwner
set_option maxRecDepth 20000 in
theorem ggX3_givenIf_X1_become : GoodIn wsX3_givenIf wsX1_become := goodIn_r _ [11, 12, 13, 14, 15, 16, 17, 18, 19, 20, 21, 22, 23, 24, 25, 26, 27, 28, 29, 30, 89, 90, 91, 92, 93, 94, 95, 96, 97, 98, 99, 100, 101, 102, 103, 104] (by decide +kernel) (by decide +kernel)
set_option maxRecDepth 20000 in
theorem gX3_givenIf_X1_become : GoodIn wsX3_givenIf (wsV RX3 153 RX1 yX1_become wsX1_become) := goodIn_app (goodIn_of _ (by decide +kernel)) ggX3_givenIf_X1_become
set_option maxRecDepth 20000 in
theorem ggX3_givenIf_X1_strip : GoodIn wsX3_givenIf wsX1_strip := goodIn_r _ [34, 35, 36, 37, 10, 38, 13, 22, 23, 39, 40, 41, 42, 43, 44, 45, 46, 47, 48, 49, 50, 21, 51, 52, 53, 54, 89, 90, 91, 92, 93, 94, 95, 96, 97, 98, 99, 100, 101, 102, 103, 104] (by decide +kernel) (by decide +kernel)
set_option maxRecDepth 20000 in
theorem gX3_givenIf_X1_strip : GoodIn wsX3_givenIf (wsV RX3 171 RX1 yX1_strip wsX1_strip) := goodIn_app (goodIn_of _ (by decide +kernel)) ggX3_givenIf_X1_strip
set_option maxRecDepth 20000 in
theorem ggX3_givenIf_X1_goThroughRow : GoodIn wsX3_givenIf wsX1_goThroughRow := goodIn_r _ [58, 13, 22, 23, 24, 25, 30, 26, 59, 60, 61, 62, 63, 64, 65, 10, 66, 67, 68, 69, 70, 21, 16, 71, 72, 73, 74, 5, 75, 76, 77, 78, 79, 80, 81, 82, 83, 27, 51, 52, 53, 54, 35, 36, 37, 38, 39, 40, 41, 42, 89, 90, 91, 92, 93, 94, 95, 96, 97, 98, 99, 100, 101, 102, 103, 104] (by decide +kernel) (by decide +kernel)
set_option maxRecDepth 20000 in
theorem gX3_givenIf_X1_goThroughRow : GoodIn wsX3_givenIf (wsV RX3 174 RX1 yX1_goThroughRow wsX1_goThroughRow) := goodIn_app (goodIn_of _ (by decide +kernel)) ggX3_givenIf_X1_goThroughRow
theorem dX3_givenIf_0 : decode cX3_givenIf 0 = .ok (.iload_n 1, 1) := by decide +kernel
theorem dX3_givenIf_1 : decode cX3_givenIf 1 = .ok (.invokestatic 70, 3) := by decide +kernel
theorem dX3_givenIf_4 : decode cX3_givenIf 4 = .ok (.ifCond .ne 5, 3) := by decide +kernel
theorem dX3_givenIf_7 : decode cX3_givenIf 7 = .ok (.iconst (-1), 1) := by decide +kernel
theorem dX3_givenIf_8 : decode cX3_givenIf 8 = .ok (.ireturn, 1) := by decide +kernel
theorem dX3_givenIf_9 : decode cX3_givenIf 9 = .ok (.aload_n 0, 1) := by decide +kernel
theorem dX3_givenIf_10 : decode cX3_givenIf 10 = .ok (.getfield 16, 3) := by decide +kernel
theorem dX3_givenIf_13 : decode cX3_givenIf 13 = .ok (.aload_n 0, 1) := by decide +kernel
theorem dX3_givenIf_14 : decode cX3_givenIf 14 = .ok (.getfield 12, 3) := by decide +kernel
theorem dX3_givenIf_17 : decode cX3_givenIf 17 = .ok (.invokevirtual 153, 3) := by decide +kernel
theorem dX3_givenIf_20 : decode cX3_givenIf 20 = .ok (.aload_n 0, 1) := by decide +kernel
theorem dX3_givenIf_21 : decode cX3_givenIf 21 = .ok (.getfield 16, 3) := by decide +kernel
theorem dX3_givenIf_24 : decode cX3_givenIf 24 = .ok (.iload_n 1, 1) := by decide +kernel
theorem dX3_givenIf_25 : decode cX3_givenIf 25 = .ok (.invokevirtual 171, 3) := by decide +kernel
theorem dX3_givenIf_28 : decode cX3_givenIf 28 = .ok (.pop, 1) := by decide +kernel
theorem dX3_givenIf_29 : decode cX3_givenIf 29 = .ok (.aload_n 0, 1) := by decide +kernel
theorem dX3_givenIf_30 : decode cX3_givenIf 30 = .ok (.getfield 16, 3) := by decide +kernel
theorem dX3_givenIf_33 : decode cX3_givenIf 33 = .ok (.invokevirtual 174, 3) := by decide +kernel
theorem dX3_givenIf_36 : decode cX3_givenIf 36 = .ok (.ireturn, 1) := by decide +kernel
set_option maxRecDepth 20000 in
theorem ggX3_greatestBar_X3_givenIf : GoodIn wsX3_greatestBar wsX3_givenIf := goodIn_r _ [5, 6, 7, 8, 9, 4, 10, 11, 12, 13, 14, 15, 16, 17, 18, 19, 20, 21, 22, 23, 24, 25, 26, 27, 28, 29, 30, 31, 32, 33, 34, 35, 36, 37, 38, 39, 40, 41, 42, 43, 44, 45, 46, 47, 48, 49, 50, 51, 52, 53, 54, 55, 56, 57, 58, 59, 60, 61, 62, 63, 64, 65, 66, 67, 68, 69, 70, 71, 72, 73, 74, 75, 76, 77, 78, 79, 80, 81, 82, 83, 84, 85, 86, 87, 95, 96, 97, 98, 99, 100, 101, 102, 103, 104, 105, 106, 107, 108, 109, 110, 111, 112, 113, 114, 115] (by decide +kernel) (by decide +kernel)
set_option maxRecDepth 20000 in
theorem gX3_greatestBar_X3_givenIf : GoodIn wsX3_greatestBar (wsV RX3 177 RX3 yX3_givenIf wsX3_givenIf) := goodIn_app (goodIn_of _ (by decide +kernel)) ggX3_greatestBar_X3_givenIf
set_option maxRecDepth 20000 in
theorem ggX3_greatestBar_J6_bitCount_0f7a4 : GoodIn wsX3_greatestBar wsJ6_bitCount_0f7a4 := goodIn_r _ [91, 92, 93, 94] (by decide +kernel) (by decide +kernel)
set_option maxRecDepth 20000 in
theorem gX3_greatestBar_J6_bitCount_0f7a4 : GoodIn wsX3_greatestBar (va_wsS RX3 180 yJ6_bitCount_0f7a4 wsJ6_bitCount_0f7a4) := goodIn_app (goodIn_of _ (by decide +kernel)) ggX3_greatestBar_J6_bitCount_0f7a4
theorem dX3_greatestBar_0 : decode cX3_greatestBar 0 = .ok (.iload_n 1, 1) := by decide +kernel
theorem dX3_greatestBar_1 : decode cX3_greatestBar 1 = .ok (.ifCond .lt 8, 3) := by decide +kernel
theorem dX3_greatestBar_4 : decode cX3_greatestBar 4 = .ok (.iload_n 1, 1) := by decide +kernel
theorem dX3_greatestBar_5 : decode cX3_greatestBar 5 = .ok (.iconst 1, 1) := by decide +kernel
theorem dX3_greatestBar_6 : decode cX3_greatestBar 6 = .ok (.if_icmp .le 6, 3) := by decide +kernel
theorem dX3_greatestBar_9 : decode cX3_greatestBar 9 = .ok (.bipush (-2), 2) := by decide +kernel
theorem dX3_greatestBar_11 : decode cX3_greatestBar 11 = .ok (.ireturn, 1) := by decide +kernel
theorem dX3_greatestBar_12 : decode cX3_greatestBar 12 = .ok (.iconst 0, 1) := by decide +kernel
theorem dX3_greatestBar_13 : decode cX3_greatestBar 13 = .ok (.istore_n 2, 1) := by decide +kernel
theorem dX3_greatestBar_14 : decode cX3_greatestBar 14 = .ok (.bipush (-6), 2) := by decide +kernel
theorem dX3_greatestBar_16 : decode cX3_greatestBar 16 = .ok (.istore_n 3, 1) := by decide +kernel
theorem dX3_greatestBar_17 : decode cX3_greatestBar 17 = .ok (.iconst 0, 1) := by decide +kernel
theorem dX3_greatestBar_18 : decode cX3_greatestBar 18 = .ok (.istore 4, 2) := by decide +kernel
theorem dX3_greatestBar_20 : decode cX3_greatestBar 20 = .ok (.iload 4, 2) := by decide +kernel
theorem dX3_greatestBar_22 : decode cX3_greatestBar 22 = .ok (.bipush 8, 2) := by decide +kernel
theorem dX3_greatestBar_24 : decode cX3_greatestBar 24 = .ok (.if_icmp .ge 32, 3) := by decide +kernel
theorem dX3_greatestBar_27 : decode cX3_greatestBar 27 = .ok (.aload_n 0, 1) := by decide +kernel
theorem dX3_greatestBar_28 : decode cX3_greatestBar 28 = .ok (.iload 4, 2) := by decide +kernel
theorem dX3_greatestBar_30 : decode cX3_greatestBar 30 = .ok (.invokevirtual 177, 3) := by decide +kernel
theorem dX3_greatestBar_33 : decode cX3_greatestBar 33 = .ok (.invokestatic 180, 3) := by decide +kernel
theorem dX3_greatestBar_36 : decode cX3_greatestBar 36 = .ok (.istore 5, 2) := by decide +kernel
theorem dX3_greatestBar_38 : decode cX3_greatestBar 38 = .ok (.iload 5, 2) := by decide +kernel
theorem dX3_greatestBar_40 : decode cX3_greatestBar 40 = .ok (.iload_n 2, 1) := by decide +kernel
theorem dX3_greatestBar_41 : decode cX3_greatestBar 41 = .ok (.if_icmp .le 9, 3) := by decide +kernel
theorem dX3_greatestBar_44 : decode cX3_greatestBar 44 = .ok (.iload 5, 2) := by decide +kernel
theorem dX3_greatestBar_46 : decode cX3_greatestBar 46 = .ok (.istore_n 2, 1) := by decide +kernel
theorem dX3_greatestBar_47 : decode cX3_greatestBar 47 = .ok (.iload 4, 2) := by decide +kernel
theorem dX3_greatestBar_49 : decode cX3_greatestBar 49 = .ok (.istore_n 3, 1) := by decide +kernel
theorem dX3_greatestBar_50 : decode cX3_greatestBar 50 = .ok (.iinc 4 1, 3) := by decide +kernel
theorem dX3_greatestBar_53 : decode cX3_greatestBar 53 = .ok (.goto (-33), 3) := by decide +kernel
theorem dX3_greatestBar_56 : decode cX3_greatestBar 56 = .ok (.iload_n 2, 1) := by decide +kernel
theorem dX3_greatestBar_57 : decode cX3_greatestBar 57 = .ok (.ifCond .ne 6, 3) := by decide +kernel
theorem dX3_greatestBar_60 : decode cX3_greatestBar 60 = .ok (.bipush (-6), 2) := by decide +kernel
theorem dX3_greatestBar_62 : decode cX3_greatestBar 62 = .ok (.ireturn, 1) := by decide +kernel
theorem dX3_greatestBar_63 : decode cX3_greatestBar 63 = .ok (.iload_n 1, 1) := by decide +kernel
theorem dX3_greatestBar_64 : decode cX3_greatestBar 64 = .ok (.ifCond .ne 7, 3) := by decide +kernel
theorem dX3_greatestBar_67 : decode cX3_greatestBar 67 = .ok (.iload_n 3, 1) := by decide +kernel
theorem dX3_greatestBar_68 : decode cX3_greatestBar 68 = .ok (.goto 4, 3) := by decide +kernel
theorem dX3_greatestBar_71 : decode cX3_greatestBar 71 = .ok (.iload_n 2, 1) := by decide +kernel
theorem dX3_greatestBar_72 : decode cX3_greatestBar 72 = .ok (.ireturn, 1) := by decide +kernel
set_option maxRecDepth 20000 in
theorem ggX3_put_X2_type : GoodIn wsX3_put wsX2_type := goodIn_r _ [6, 7, 8, 9, 10, 11, 17, 18, 19, 20, 21, 22, 23, 24] (by decide +kernel) (by decide +kernel)
set_option maxRecDepth 20000 in
theorem gX3_put_X2_type : GoodIn wsX3_put (wsV RX3 185 RX2 yX2_type wsX2_type) := goodIn_app (goodIn_of _ (by decide +kernel)) ggX3_put_X2_type
theorem dX3_put_0 : decode cX3_put 0 = .ok (.aload_n 0, 1) := by decide +kernel
theorem dX3_put_1 : decode cX3_put 1 = .ok (.getfield 33, 3) := by decide +kernel
theorem dX3_put_4 : decode cX3_put 4 = .ok (.lload_n 1, 1) := by decide +kernel
theorem dX3_put_5 : decode cX3_put 5 = .ok (.invokevirtual 185, 3) := by decide +kernel
theorem dX3_put_8 : decode cX3_put 8 = .ok (.ireturn, 1) := by decide +kernel
set_option maxRecDepth 20000 in
theorem ggX3_wipe_X2_erase : GoodIn wsX3_wipe wsX2_erase := goodIn_r _ [6, 7, 13, 14, 15, 16, 17, 18, 19, 20] (by decide +kernel) (by decide +kernel)
set_option maxRecDepth 20000 in
theorem gX3_wipe_X2_erase : GoodIn wsX3_wipe (wsV RX3 189 RX2 yX2_erase wsX2_erase) := goodIn_app (goodIn_of _ (by decide +kernel)) ggX3_wipe_X2_erase
theorem dX3_wipe_0 : decode cX3_wipe 0 = .ok (.aload_n 0, 1) := by decide +kernel
theorem dX3_wipe_1 : decode cX3_wipe 1 = .ok (.getfield 33, 3) := by decide +kernel
theorem dX3_wipe_4 : decode cX3_wipe 4 = .ok (.invokevirtual 189, 3) := by decide +kernel
theorem dX3_wipe_7 : decode cX3_wipe 7 = .ok (.ireturn, 1) := by decide +kernel
set_option maxRecDepth 20000 in
theorem ggX3_fault_X2_firstFault : GoodIn wsX3_fault wsX2_firstFault := goodIn_r _ [6, 7, 8, 9, 10, 11, 5, 12, 13, 14, 15, 16, 17, 18, 19, 20, 21, 22, 23, 24, 25, 26, 27, 28, 29, 30, 31, 32, 33, 34, 35, 36, 37, 38, 39, 40, 41, 42, 43, 44, 45, 46, 47, 48, 49, 50, 51, 52, 53, 54, 55, 56, 57, 58, 59, 60, 61, 62, 63, 64, 65, 66, 67, 68, 69, 70, 71, 72, 73, 74, 75, 76, 77, 78, 79, 80, 81, 82, 83, 84, 85, 86, 87, 88, 89, 90, 91, 92, 93, 94, 95, 96, 97, 98, 99, 100, 101, 102, 103, 104, 105, 106, 107, 108, 109, 110, 111, 112, 113, 114, 115, 116, 117, 118, 119, 120, 121, 122, 123, 124, 125, 126, 127, 128, 129, 130, 131, 132, 133, 134, 140, 141, 142, 143, 144, 145, 146, 147] (by decide +kernel) (by decide +kernel)
set_option maxRecDepth 20000 in
theorem gX3_fault_X2_firstFault : GoodIn wsX3_fault (wsV RX3 192 RX2 yX2_firstFault wsX2_firstFault) := goodIn_app (goodIn_of _ (by decide +kernel)) ggX3_fault_X2_firstFault
theorem dX3_fault_0 : decode cX3_fault 0 = .ok (.aload_n 0, 1) := by decide +kernel
theorem dX3_fault_1 : decode cX3_fault 1 = .ok (.getfield 33, 3) := by decide +kernel
theorem dX3_fault_4 : decode cX3_fault 4 = .ok (.invokevirtual 192, 3) := by decide +kernel
theorem dX3_fault_7 : decode cX3_fault 7 = .ok (.ireturn, 1) := by decide +kernel
set_option maxRecDepth 20000 in
theorem ggX3_carryOut_X2_firstFault : GoodIn wsX3_carryOut wsX2_firstFault := goodIn_r _ [9, 10, 11, 12, 13, 14, 8, 15, 16, 17, 18, 19, 20, 21, 22, 23, 24, 25, 26, 27, 28, 29, 30, 31, 32, 33, 34, 35, 36, 37, 38, 39, 40, 41, 42, 43, 44, 45, 46, 47, 48, 49, 50, 51, 52, 53, 54, 55, 56, 57, 58, 59, 60, 61, 62, 63, 64, 65, 66, 67, 68, 69, 70, 71, 72, 73, 74, 75, 76, 77, 78, 79, 80, 81, 82, 83, 84, 85, 86, 87, 88, 89, 90, 91, 92, 93, 94, 95, 96, 97, 98, 99, 100, 101, 102, 103, 104, 105, 106, 107, 108, 109, 110, 111, 112, 113, 114, 115, 116, 117, 118, 119, 120, 121, 122, 123, 124, 125, 126, 127, 128, 129, 130, 131, 132, 133, 134, 135, 136, 137, 309, 310, 311, 312, 313, 314, 315, 316] (by decide +kernel) (by decide +kernel)
set_option maxRecDepth 20000 in
theorem gX3_carryOut_X2_firstFault : GoodIn wsX3_carryOut (wsV RX3 192 RX2 yX2_firstFault wsX2_firstFault) := goodIn_app (goodIn_of _ (by decide +kernel)) ggX3_carryOut_X2_firstFault
set_option maxRecDepth 20000 in
theorem ggX3_carryOut_X0_note : GoodIn wsX3_carryOut wsX0_note := goodIn_r _ [142, 143, 144, 145, 146, 147, 148, 149, 150, 151, 152, 153, 154, 155, 156, 157, 158, 159, 160, 161, 162, 163, 164, 165, 166, 167, 168, 169, 170, 171, 172, 173, 174, 175, 176, 177, 178, 317, 318, 319, 320, 321, 322, 323, 324, 325, 326, 327, 328, 329, 330, 331, 332, 333, 334, 335] (by decide +kernel) (by decide +kernel)
set_option maxRecDepth 20000 in
theorem gX3_carryOut_X0_note : GoodIn wsX3_carryOut (wsV RX3 41 RX0 yX0_note wsX0_note) := goodIn_app (goodIn_of _ (by decide +kernel)) ggX3_carryOut_X0_note
set_option maxRecDepth 20000 in
theorem ggX3_carryOut_X2_readOrder : GoodIn wsX3_carryOut wsX2_readOrder := goodIn_r _ [15, 16, 17, 10, 18, 19, 20, 21, 8, 22, 11, 23, 24, 25, 26, 27, 28, 29, 30, 31, 32, 33, 34, 35, 36, 37, 38, 39, 40, 41, 42, 43, 44, 45, 46, 47, 48, 49, 50, 51, 52, 53, 54, 55, 56, 57, 58, 59, 60, 61, 62, 63, 64, 65, 66, 67, 68, 69, 70, 71, 72, 73, 74, 75, 76, 77, 78, 79, 80, 81, 82, 83, 84, 85, 86, 87, 88, 89, 90, 91, 92, 93, 94, 95, 96, 97, 98, 99, 100, 101, 102, 103, 104, 105, 106, 107, 108, 109, 110, 111, 112, 113, 114, 115, 116, 117, 118, 119, 120, 121, 122, 123, 124, 125, 126, 127, 128, 129, 130, 131, 132, 133, 134, 135, 136, 137, 309, 310, 311, 312, 313, 314, 315, 316] (by decide +kernel) (by decide +kernel)
set_option maxRecDepth 20000 in
theorem gX3_carryOut_X2_readOrder : GoodIn wsX3_carryOut (wsV RX3 198 RX2 yX2_readOrder wsX2_readOrder) := goodIn_app (goodIn_of _ (by decide +kernel)) ggX3_carryOut_X2_readOrder
set_option maxRecDepth 20000 in
theorem ggX3_carryOut_X3_obey : GoodIn wsX3_carryOut wsX3_obey := goodIn_r _ [183, 1, 184, 3, 185, 186, 187, 188, 189, 25, 26, 27, 28, 29, 30, 31, 32, 33, 34, 35, 36, 37, 38, 39, 40, 41, 42, 43, 44, 45, 46, 47, 48, 49, 50, 51, 52, 53, 54, 55, 56, 57, 58, 59, 60, 61, 62, 63, 64, 65, 66, 67, 68, 69, 70, 71, 72, 73, 74, 75, 76, 77, 78, 79, 80, 81, 82, 83, 84, 85, 86, 87, 88, 89, 90, 91, 92, 93, 94, 95, 96, 97, 98, 99, 100, 101, 102, 103, 104, 105, 106, 107, 108, 109, 110, 111, 112, 190, 191, 192, 147, 193, 158, 172, 154, 163, 126, 127, 128, 194, 195, 196, 197, 198, 199, 200, 201, 202, 203, 204, 156, 157, 159, 205, 160, 206, 207, 208, 209, 210, 211, 212, 213, 214, 215, 216, 162, 217, 218, 219, 220, 221, 222, 223, 224, 165, 161, 225, 226, 227, 228, 229, 230, 231, 232, 233, 234, 235, 236, 237, 238, 239, 240, 241, 242, 243, 244, 166, 245, 246, 247, 248, 249, 250, 251, 252, 253, 254, 255, 256, 257, 258, 259, 260, 261, 262, 263, 264, 164, 174, 265, 266, 267, 268, 269, 270, 271, 272, 273, 274, 275, 276, 277, 278, 279, 280, 281, 282, 283, 284, 285, 286, 287, 288, 173, 171, 289, 290, 291, 292, 304, 305, 306, 307, 308, 309, 310, 311, 312, 313, 314, 315, 316, 320, 321, 322, 323, 324, 325, 326, 327, 328, 329, 330, 331, 332, 333, 334, 335] (by decide +kernel) (by decide +kernel)
set_option maxRecDepth 20000 in
theorem gX3_carryOut_X3_obey : GoodIn wsX3_carryOut (wsV RX3 202 RX3 yX3_obey wsX3_obey) := goodIn_app (goodIn_of _ (by decide +kernel)) ggX3_carryOut_X3_obey
set_option maxRecDepth 20000 in
theorem ggX3_carryOut_X2_skip : GoodIn wsX3_carryOut wsX2_skip := goodIn_r _ [137, 10, 19, 20, 21, 8, 22, 11, 23, 309, 310, 311, 312, 313, 314, 315, 316] (by decide +kernel) (by decide +kernel)
set_option maxRecDepth 20000 in
theorem gX3_carryOut_X2_skip : GoodIn wsX3_carryOut (wsV RX3 205 RX2 yX2_skip wsX2_skip) := goodIn_app (goodIn_of _ (by decide +kernel)) ggX3_carryOut_X2_skip
set_option maxRecDepth 20000 in
theorem ggX3_carryOut_X2_erase : GoodIn wsX3_carryOut wsX2_erase := goodIn_r _ [297, 11, 309, 310, 311, 312, 313, 314, 315, 316] (by decide +kernel) (by decide +kernel)
set_option maxRecDepth 20000 in
theorem gX3_carryOut_X2_erase : GoodIn wsX3_carryOut (wsV RX3 189 RX2 yX2_erase wsX2_erase) := goodIn_app (goodIn_of _ (by decide +kernel)) ggX3_carryOut_X2_erase
set_option maxRecDepth 20000 in
theorem ggX3_carryOut_X0_settle : GoodIn wsX3_carryOut wsX0_settle := goodIn_r _ [301, 144, 302, 303, 57, 54, 58, 317, 318, 319] (by decide +kernel) (by decide +kernel)
set_option maxRecDepth 20000 in
theorem gX3_carryOut_X0_settle : GoodIn wsX3_carryOut (wsV RX3 49 RX0 yX0_settle wsX0_settle) := goodIn_app (goodIn_of _ (by decide +kernel)) ggX3_carryOut_X0_settle
theorem dX3_carryOut_0 : decode cX3_carryOut 0 = .ok (.aload_n 0, 1) := by decide +kernel
theorem dX3_carryOut_1 : decode cX3_carryOut 1 = .ok (.getfield 33, 3) := by decide +kernel
theorem dX3_carryOut_4 : decode cX3_carryOut 4 = .ok (.invokevirtual 192, 3) := by decide +kernel
theorem dX3_carryOut_7 : decode cX3_carryOut 7 = .ok (.bipush (-6), 2) := by decide +kernel
theorem dX3_carryOut_9 : decode cX3_carryOut 9 = .ok (.if_icmp .eq 6, 3) := by decide +kernel
theorem dX3_carryOut_12 : decode cX3_carryOut 12 = .ok (.bipush (-3), 2) := by decide +kernel
theorem dX3_carryOut_14 : decode cX3_carryOut 14 = .ok (.ireturn, 1) := by decide +kernel
theorem dX3_carryOut_15 : decode cX3_carryOut 15 = .ok (.aload_n 0, 1) := by decide +kernel
theorem dX3_carryOut_16 : decode cX3_carryOut 16 = .ok (.getfield 22, 3) := by decide +kernel
theorem dX3_carryOut_19 : decode cX3_carryOut 19 = .ok (.aload_n 0, 1) := by decide +kernel
theorem dX3_carryOut_20 : decode cX3_carryOut 20 = .ok (.getfield 12, 3) := by decide +kernel
theorem dX3_carryOut_23 : decode cX3_carryOut 23 = .ok (.invokevirtual 41, 3) := by decide +kernel
theorem dX3_carryOut_26 : decode cX3_carryOut 26 = .ok (.aload_n 0, 1) := by decide +kernel
theorem dX3_carryOut_27 : decode cX3_carryOut 27 = .ok (.getfield 33, 3) := by decide +kernel
theorem dX3_carryOut_30 : decode cX3_carryOut 30 = .ok (.iconst 0, 1) := by decide +kernel
theorem dX3_carryOut_31 : decode cX3_carryOut 31 = .ok (.putfield 195, 3) := by decide +kernel
theorem dX3_carryOut_34 : decode cX3_carryOut 34 = .ok (.iconst 0, 1) := by decide +kernel
theorem dX3_carryOut_35 : decode cX3_carryOut 35 = .ok (.istore_n 1, 1) := by decide +kernel
theorem dX3_carryOut_36 : decode cX3_carryOut 36 = .ok (.iconst 1, 1) := by decide +kernel
theorem dX3_carryOut_37 : decode cX3_carryOut 37 = .ok (.istore_n 2, 1) := by decide +kernel
theorem dX3_carryOut_38 : decode cX3_carryOut 38 = .ok (.iconst 0, 1) := by decide +kernel
theorem dX3_carryOut_39 : decode cX3_carryOut 39 = .ok (.istore_n 3, 1) := by decide +kernel
theorem dX3_carryOut_40 : decode cX3_carryOut 40 = .ok (.iload_n 3, 1) := by decide +kernel
theorem dX3_carryOut_41 : decode cX3_carryOut 41 = .ok (.bipush 80, 2) := by decide +kernel
theorem dX3_carryOut_43 : decode cX3_carryOut 43 = .ok (.if_icmp .ge 53, 3) := by decide +kernel
theorem dX3_carryOut_46 : decode cX3_carryOut 46 = .ok (.iload_n 2, 1) := by decide +kernel
theorem dX3_carryOut_47 : decode cX3_carryOut 47 = .ok (.ifCond .eq 49, 3) := by decide +kernel
theorem dX3_carryOut_50 : decode cX3_carryOut 50 = .ok (.aload_n 0, 1) := by decide +kernel
theorem dX3_carryOut_51 : decode cX3_carryOut 51 = .ok (.getfield 33, 3) := by decide +kernel
theorem dX3_carryOut_54 : decode cX3_carryOut 54 = .ok (.invokevirtual 198, 3) := by decide +kernel
theorem dX3_carryOut_57 : decode cX3_carryOut 57 = .ok (.ifCond .eq 14, 3) := by decide +kernel
theorem dX3_carryOut_60 : decode cX3_carryOut 60 = .ok (.aload_n 0, 1) := by decide +kernel
theorem dX3_carryOut_61 : decode cX3_carryOut 61 = .ok (.invokevirtual 202, 3) := by decide +kernel
theorem dX3_carryOut_64 : decode cX3_carryOut 64 = .ok (.ifCond .lt 7, 3) := by decide +kernel
theorem dX3_carryOut_67 : decode cX3_carryOut 67 = .ok (.iconst 1, 1) := by decide +kernel
theorem dX3_carryOut_68 : decode cX3_carryOut 68 = .ok (.goto 4, 3) := by decide +kernel
theorem dX3_carryOut_71 : decode cX3_carryOut 71 = .ok (.iconst 0, 1) := by decide +kernel
theorem dX3_carryOut_72 : decode cX3_carryOut 72 = .ok (.istore_n 2, 1) := by decide +kernel
theorem dX3_carryOut_73 : decode cX3_carryOut 73 = .ok (.iload_n 2, 1) := by decide +kernel
theorem dX3_carryOut_74 : decode cX3_carryOut 74 = .ok (.ifCond .eq 16, 3) := by decide +kernel
theorem dX3_carryOut_77 : decode cX3_carryOut 77 = .ok (.iinc 1 1, 3) := by decide +kernel
theorem dX3_carryOut_80 : decode cX3_carryOut 80 = .ok (.aload_n 0, 1) := by decide +kernel
theorem dX3_carryOut_81 : decode cX3_carryOut 81 = .ok (.getfield 33, 3) := by decide +kernel
theorem dX3_carryOut_84 : decode cX3_carryOut 84 = .ok (.bipush 59, 2) := by decide +kernel
theorem dX3_carryOut_86 : decode cX3_carryOut 86 = .ok (.invokevirtual 205, 3) := by decide +kernel
theorem dX3_carryOut_89 : decode cX3_carryOut 89 = .ok (.istore_n 2, 1) := by decide +kernel
theorem dX3_carryOut_90 : decode cX3_carryOut 90 = .ok (.iinc 3 1, 3) := by decide +kernel
theorem dX3_carryOut_93 : decode cX3_carryOut 93 = .ok (.goto (-53), 3) := by decide +kernel
theorem dX3_carryOut_96 : decode cX3_carryOut 96 = .ok (.aload_n 0, 1) := by decide +kernel
theorem dX3_carryOut_97 : decode cX3_carryOut 97 = .ok (.getfield 33, 3) := by decide +kernel
theorem dX3_carryOut_100 : decode cX3_carryOut 100 = .ok (.invokevirtual 189, 3) := by decide +kernel
theorem dX3_carryOut_103 : decode cX3_carryOut 103 = .ok (.pop, 1) := by decide +kernel
theorem dX3_carryOut_104 : decode cX3_carryOut 104 = .ok (.aload_n 0, 1) := by decide +kernel
theorem dX3_carryOut_105 : decode cX3_carryOut 105 = .ok (.getfield 22, 3) := by decide +kernel
theorem dX3_carryOut_108 : decode cX3_carryOut 108 = .ok (.iload_n 1, 1) := by decide +kernel
theorem dX3_carryOut_109 : decode cX3_carryOut 109 = .ok (.invokevirtual 49, 3) := by decide +kernel
theorem dX3_carryOut_112 : decode cX3_carryOut 112 = .ok (.ireturn, 1) := by decide +kernel
set_option maxRecDepth 20000 in
theorem ggX3_undo_X0_goBack : GoodIn wsX3_undo wsX0_goBack := goodIn_r _ [8, 9, 10, 11, 12, 13, 14, 15, 16, 17, 18, 19, 20, 21, 22, 23, 24, 25, 26, 27, 28, 29, 30, 31, 32, 33, 34, 35, 41, 42, 43, 44, 45, 46, 47, 48, 49, 50, 51, 52, 53, 54, 55, 56, 57, 58, 59] (by decide +kernel) (by decide +kernel)
set_option maxRecDepth 20000 in
theorem gX3_undo_X0_goBack : GoodIn wsX3_undo (wsV RX3 209 RX0 yX0_goBack wsX0_goBack) := goodIn_app (goodIn_of _ (by decide +kernel)) ggX3_undo_X0_goBack
theorem dX3_undo_0 : decode cX3_undo 0 = .ok (.aload_n 0, 1) := by decide +kernel
theorem dX3_undo_1 : decode cX3_undo 1 = .ok (.getfield 22, 3) := by decide +kernel
theorem dX3_undo_4 : decode cX3_undo 4 = .ok (.getfield 136, 3) := by decide +kernel
theorem dX3_undo_7 : decode cX3_undo 7 = .ok (.ifCond .ne 6, 3) := by decide +kernel
theorem dX3_undo_10 : decode cX3_undo 10 = .ok (.bipush (-5), 2) := by decide +kernel
theorem dX3_undo_12 : decode cX3_undo 12 = .ok (.ireturn, 1) := by decide +kernel
theorem dX3_undo_13 : decode cX3_undo 13 = .ok (.aload_n 0, 1) := by decide +kernel
theorem dX3_undo_14 : decode cX3_undo 14 = .ok (.getfield 22, 3) := by decide +kernel
theorem dX3_undo_17 : decode cX3_undo 17 = .ok (.aload_n 0, 1) := by decide +kernel
theorem dX3_undo_18 : decode cX3_undo 18 = .ok (.getfield 12, 3) := by decide +kernel
theorem dX3_undo_21 : decode cX3_undo 21 = .ok (.invokevirtual 209, 3) := by decide +kernel
theorem dX3_undo_24 : decode cX3_undo 24 = .ok (.aload_n 0, 1) := by decide +kernel
theorem dX3_undo_25 : decode cX3_undo 25 = .ok (.getfield 22, 3) := by decide +kernel
theorem dX3_undo_28 : decode cX3_undo 28 = .ok (.getfield 136, 3) := by decide +kernel
theorem dX3_undo_31 : decode cX3_undo 31 = .ok (.ireturn, 1) := by decide +kernel
set_option maxRecDepth 20000 in
theorem ggX3_save_X1_init : GoodIn wsX3_save wsX1_init := goodIn_r _ [8, 9, 10, 11, 12, 13, 14, 15, 16, 17, 18, 19, 20, 21, 22, 23, 24, 25, 43, 44, 45, 46, 47, 48, 49, 50, 51, 52, 53, 54, 55, 56, 57, 58] (by decide +kernel) (by decide +kernel)
set_option maxRecDepth 20000 in
theorem gX3_save_X1_init_n11 : GoodIn wsX3_save (wsX1_init) := ggX3_save_X1_init
set_option maxRecDepth 20000 in
theorem ggX3_save_X1_become : GoodIn wsX3_save wsX1_become := goodIn_r _ [29, 30, 31, 32, 33, 13, 34, 35, 36, 37, 15, 16, 17, 18, 19, 20, 21, 22, 23, 24, 43, 44, 45, 46, 47, 48, 49, 50, 51, 52, 53, 54, 55, 56, 57, 58] (by decide +kernel) (by decide +kernel)
set_option maxRecDepth 20000 in
theorem gX3_save_X1_become : GoodIn wsX3_save (wsV RX3 153 RX1 yX1_become wsX1_become) := goodIn_app (goodIn_of _ (by decide +kernel)) ggX3_save_X1_become
theorem dX3_save_0 : decode cX3_save 0 = .ok (.iload_n 1, 1) := by decide +kernel
theorem dX3_save_1 : decode cX3_save 1 = .ok (.ifCond .lt 8, 3) := by decide +kernel
theorem dX3_save_4 : decode cX3_save 4 = .ok (.iload_n 1, 1) := by decide +kernel
theorem dX3_save_5 : decode cX3_save 5 = .ok (.iconst 2, 1) := by decide +kernel
theorem dX3_save_6 : decode cX3_save 6 = .ok (.if_icmp .lt 6, 3) := by decide +kernel
theorem dX3_save_9 : decode cX3_save 9 = .ok (.bipush (-2), 2) := by decide +kernel
theorem dX3_save_11 : decode cX3_save 11 = .ok (.ireturn, 1) := by decide +kernel
theorem dX3_save_12 : decode cX3_save 12 = .ok (.aload_n 0, 1) := by decide +kernel
theorem dX3_save_13 : decode cX3_save 13 = .ok (.getfield 26, 3) := by decide +kernel
theorem dX3_save_16 : decode cX3_save 16 = .ok (.iload_n 1, 1) := by decide +kernel
theorem dX3_save_17 : decode cX3_save 17 = .ok (.aaload, 1) := by decide +kernel
theorem dX3_save_18 : decode cX3_save 18 = .ok (.astore_n 2, 1) := by decide +kernel
theorem dX3_save_19 : decode cX3_save 19 = .ok (.aload_n 2, 1) := by decide +kernel
theorem dX3_save_20 : decode cX3_save 20 = .ok (.ifnonnull 18, 3) := by decide +kernel
theorem dX3_save_23 : decode cX3_save 23 = .ok (.new 9, 3) := by decide +kernel
theorem dX3_save_26 : decode cX3_save 26 = .ok (.dup, 1) := by decide +kernel
theorem dX3_save_27 : decode cX3_save 27 = .ok (.invokespecial 11, 3) := by decide +kernel
theorem dX3_save_30 : decode cX3_save 30 = .ok (.astore_n 2, 1) := by decide +kernel
theorem dX3_save_31 : decode cX3_save 31 = .ok (.aload_n 0, 1) := by decide +kernel
theorem dX3_save_32 : decode cX3_save 32 = .ok (.getfield 26, 3) := by decide +kernel
theorem dX3_save_35 : decode cX3_save 35 = .ok (.iload_n 1, 1) := by decide +kernel
theorem dX3_save_36 : decode cX3_save 36 = .ok (.aload_n 2, 1) := by decide +kernel
theorem dX3_save_37 : decode cX3_save 37 = .ok (.aastore, 1) := by decide +kernel
theorem dX3_save_38 : decode cX3_save 38 = .ok (.aload_n 2, 1) := by decide +kernel
theorem dX3_save_39 : decode cX3_save 39 = .ok (.aload_n 0, 1) := by decide +kernel
theorem dX3_save_40 : decode cX3_save 40 = .ok (.getfield 12, 3) := by decide +kernel
theorem dX3_save_43 : decode cX3_save 43 = .ok (.invokevirtual 153, 3) := by decide +kernel
theorem dX3_save_46 : decode cX3_save 46 = .ok (.aload_n 0, 1) := by decide +kernel
theorem dX3_save_47 : decode cX3_save 47 = .ok (.getfield 12, 3) := by decide +kernel
theorem dX3_save_50 : decode cX3_save 50 = .ok (.getfield 117, 3) := by decide +kernel
theorem dX3_save_53 : decode cX3_save 53 = .ok (.ireturn, 1) := by decide +kernel
set_option maxRecDepth 20000 in
theorem ggX3_restore_X0_note : GoodIn wsX3_restore wsX0_note := goodIn_r _ [9, 10, 11, 12, 13, 14, 15, 16, 17, 18, 19, 20, 21, 22, 23, 24, 25, 26, 27, 28, 29, 30, 31, 32, 33, 34, 35, 36, 37, 38, 39, 40, 41, 42, 43, 44, 45, 77, 78, 79, 61, 62, 63, 64, 65, 66, 67, 68, 69, 70, 71, 72, 73, 74, 75, 76] (by decide +kernel) (by decide +kernel)
set_option maxRecDepth 20000 in
theorem gX3_restore_X0_note : GoodIn wsX3_restore (wsV RX3 41 RX0 yX0_note wsX0_note) := goodIn_app (goodIn_of _ (by decide +kernel)) ggX3_restore_X0_note
set_option maxRecDepth 20000 in
theorem ggX3_restore_X1_become : GoodIn wsX3_restore wsX1_become := goodIn_r _ [37, 38, 39, 40, 41, 21, 42, 43, 44, 45, 23, 24, 25, 26, 27, 28, 29, 30, 31, 32, 61, 62, 63, 64, 65, 66, 67, 68, 69, 70, 71, 72, 73, 74, 75, 76] (by decide +kernel) (by decide +kernel)
set_option maxRecDepth 20000 in
theorem gX3_restore_X1_become : GoodIn wsX3_restore (wsV RX3 153 RX1 yX1_become wsX1_become) := goodIn_app (goodIn_of _ (by decide +kernel)) ggX3_restore_X1_become
set_option maxRecDepth 20000 in
theorem ggX3_restore_X0_settle : GoodIn wsX3_restore wsX0_settle := goodIn_r _ [50, 11, 51, 52, 53, 54, 55, 77, 78, 79] (by decide +kernel) (by decide +kernel)
set_option maxRecDepth 20000 in
theorem gX3_restore_X0_settle : GoodIn wsX3_restore (wsV RX3 49 RX0 yX0_settle wsX0_settle) := goodIn_app (goodIn_of _ (by decide +kernel)) ggX3_restore_X0_settle
theorem dX3_restore_0 : decode cX3_restore 0 = .ok (.iload_n 1, 1) := by decide +kernel
theorem dX3_restore_1 : decode cX3_restore 1 = .ok (.ifCond .lt 8, 3) := by decide +kernel
theorem dX3_restore_4 : decode cX3_restore 4 = .ok (.iload_n 1, 1) := by decide +kernel
theorem dX3_restore_5 : decode cX3_restore 5 = .ok (.iconst 2, 1) := by decide +kernel
theorem dX3_restore_6 : decode cX3_restore 6 = .ok (.if_icmp .lt 6, 3) := by decide +kernel
theorem dX3_restore_9 : decode cX3_restore 9 = .ok (.bipush (-2), 2) := by decide +kernel
theorem dX3_restore_11 : decode cX3_restore 11 = .ok (.ireturn, 1) := by decide +kernel
theorem dX3_restore_12 : decode cX3_restore 12 = .ok (.aload_n 0, 1) := by decide +kernel
theorem dX3_restore_13 : decode cX3_restore 13 = .ok (.getfield 26, 3) := by decide +kernel
theorem dX3_restore_16 : decode cX3_restore 16 = .ok (.iload_n 1, 1) := by decide +kernel
theorem dX3_restore_17 : decode cX3_restore 17 = .ok (.aaload, 1) := by decide +kernel
theorem dX3_restore_18 : decode cX3_restore 18 = .ok (.astore_n 2, 1) := by decide +kernel
theorem dX3_restore_19 : decode cX3_restore 19 = .ok (.aload_n 2, 1) := by decide +kernel
theorem dX3_restore_20 : decode cX3_restore 20 = .ok (.ifnonnull 6, 3) := by decide +kernel
theorem dX3_restore_23 : decode cX3_restore 23 = .ok (.bipush (-5), 2) := by decide +kernel
theorem dX3_restore_25 : decode cX3_restore 25 = .ok (.ireturn, 1) := by decide +kernel
theorem dX3_restore_26 : decode cX3_restore 26 = .ok (.aload_n 0, 1) := by decide +kernel
theorem dX3_restore_27 : decode cX3_restore 27 = .ok (.getfield 22, 3) := by decide +kernel
theorem dX3_restore_30 : decode cX3_restore 30 = .ok (.aload_n 0, 1) := by decide +kernel
theorem dX3_restore_31 : decode cX3_restore 31 = .ok (.getfield 12, 3) := by decide +kernel
theorem dX3_restore_34 : decode cX3_restore 34 = .ok (.invokevirtual 41, 3) := by decide +kernel
theorem dX3_restore_37 : decode cX3_restore 37 = .ok (.aload_n 0, 1) := by decide +kernel
theorem dX3_restore_38 : decode cX3_restore 38 = .ok (.getfield 12, 3) := by decide +kernel
theorem dX3_restore_41 : decode cX3_restore 41 = .ok (.aload_n 2, 1) := by decide +kernel
theorem dX3_restore_42 : decode cX3_restore 42 = .ok (.invokevirtual 153, 3) := by decide +kernel
theorem dX3_restore_45 : decode cX3_restore 45 = .ok (.aload_n 0, 1) := by decide +kernel
theorem dX3_restore_46 : decode cX3_restore 46 = .ok (.getfield 22, 3) := by decide +kernel
theorem dX3_restore_49 : decode cX3_restore 49 = .ok (.aload_n 0, 1) := by decide +kernel
theorem dX3_restore_50 : decode cX3_restore 50 = .ok (.getfield 12, 3) := by decide +kernel
theorem dX3_restore_53 : decode cX3_restore 53 = .ok (.getfield 117, 3) := by decide +kernel
theorem dX3_restore_56 : decode cX3_restore 56 = .ok (.invokevirtual 49, 3) := by decide +kernel
theorem dX3_restore_59 : decode cX3_restore 59 = .ok (.ireturn, 1) := by decide +kernel
theorem dX3_isOwner_0 : decode cX3_isOwner 0 = .ok (.iload_n 0, 1) := by decide +kernel
theorem dX3_isOwner_1 : decode cX3_isOwner 1 = .ok (.ifCond .lt 13, 3) := by decide +kernel
theorem dX3_isOwner_4 : decode cX3_isOwner 4 = .ok (.iload_n 0, 1) := by decide +kernel
theorem dX3_isOwner_5 : decode cX3_isOwner 5 = .ok (.bipush 8, 2) := by decide +kernel
theorem dX3_isOwner_7 : decode cX3_isOwner 7 = .ok (.if_icmp .ge 7, 3) := by decide +kernel
theorem dX3_isOwner_10 : decode cX3_isOwner 10 = .ok (.iconst 1, 1) := by decide +kernel
theorem dX3_isOwner_11 : decode cX3_isOwner 11 = .ok (.goto 4, 3) := by decide +kernel
theorem dX3_isOwner_14 : decode cX3_isOwner 14 = .ok (.iconst 0, 1) := by decide +kernel
theorem dX3_isOwner_15 : decode cX3_isOwner 15 = .ok (.ireturn, 1) := by decide +kernel
theorem dX3_isPlace_0 : decode cX3_isPlace 0 = .ok (.iload_n 0, 1) := by decide +kernel
theorem dX3_isPlace_1 : decode cX3_isPlace 1 = .ok (.ifCond .lt 14, 3) := by decide +kernel
theorem dX3_isPlace_4 : decode cX3_isPlace 4 = .ok (.iload_n 0, 1) := by decide +kernel
theorem dX3_isPlace_5 : decode cX3_isPlace 5 = .ok (.sipush 300, 3) := by decide +kernel
theorem dX3_isPlace_8 : decode cX3_isPlace 8 = .ok (.if_icmp .ge 7, 3) := by decide +kernel
theorem dX3_isPlace_11 : decode cX3_isPlace 11 = .ok (.iconst 1, 1) := by decide +kernel
theorem dX3_isPlace_12 : decode cX3_isPlace 12 = .ok (.goto 4, 3) := by decide +kernel
theorem dX3_isPlace_15 : decode cX3_isPlace 15 = .ok (.iconst 0, 1) := by decide +kernel
theorem dX3_isPlace_16 : decode cX3_isPlace 16 = .ok (.ireturn, 1) := by decide +kernel
theorem dX3_isLock_0 : decode cX3_isLock 0 = .ok (.iload_n 0, 1) := by decide +kernel
theorem dX3_isLock_1 : decode cX3_isLock 1 = .ok (.iconst 1, 1) := by decide +kernel
theorem dX3_isLock_2 : decode cX3_isLock 2 = .ok (.if_icmp .lt 12, 3) := by decide +kernel
theorem dX3_isLock_5 : decode cX3_isLock 5 = .ok (.iload_n 0, 1) := by decide +kernel
theorem dX3_isLock_6 : decode cX3_isLock 6 = .ok (.iconst 3, 1) := by decide +kernel
theorem dX3_isLock_7 : decode cX3_isLock 7 = .ok (.if_icmp .gt 7, 3) := by decide +kernel
theorem dX3_isLock_10 : decode cX3_isLock 10 = .ok (.iconst 1, 1) := by decide +kernel
theorem dX3_isLock_11 : decode cX3_isLock 11 = .ok (.goto 4, 3) := by decide +kernel
theorem dX3_isLock_14 : decode cX3_isLock 14 = .ok (.iconst 0, 1) := by decide +kernel
theorem dX3_isLock_15 : decode cX3_isLock 15 = .ok (.ireturn, 1) := by decide +kernel
set_option maxRecDepth 20000 in
theorem ggX3_isRange_X3_isPlace : GoodIn wsX3_isRange wsX3_isPlace := goodIn_r _ [4] (by decide +kernel) (by decide +kernel)
set_option maxRecDepth 20000 in
theorem gX3_isRange_X3_isPlace : GoodIn wsX3_isRange (va_wsS RX3 74 yX3_isPlace wsX3_isPlace) := goodIn_app (goodIn_of _ (by decide +kernel)) ggX3_isRange_X3_isPlace
theorem dX3_isRange_0 : decode cX3_isRange 0 = .ok (.iload_n 0, 1) := by decide +kernel
theorem dX3_isRange_1 : decode cX3_isRange 1 = .ok (.invokestatic 74, 3) := by decide +kernel
theorem dX3_isRange_4 : decode cX3_isRange 4 = .ok (.ifCond .eq 19, 3) := by decide +kernel
theorem dX3_isRange_7 : decode cX3_isRange 7 = .ok (.iload_n 1, 1) := by decide +kernel
theorem dX3_isRange_8 : decode cX3_isRange 8 = .ok (.iload_n 0, 1) := by decide +kernel
theorem dX3_isRange_9 : decode cX3_isRange 9 = .ok (.if_icmp .le 14, 3) := by decide +kernel
theorem dX3_isRange_12 : decode cX3_isRange 12 = .ok (.iload_n 1, 1) := by decide +kernel
theorem dX3_isRange_13 : decode cX3_isRange 13 = .ok (.sipush 300, 3) := by decide +kernel
theorem dX3_isRange_16 : decode cX3_isRange 16 = .ok (.if_icmp .gt 7, 3) := by decide +kernel
theorem dX3_isRange_19 : decode cX3_isRange 19 = .ok (.iconst 1, 1) := by decide +kernel
theorem dX3_isRange_20 : decode cX3_isRange 20 = .ok (.goto 4, 3) := by decide +kernel
theorem dX3_isRange_23 : decode cX3_isRange 23 = .ok (.iconst 0, 1) := by decide +kernel
theorem dX3_isRange_24 : decode cX3_isRange 24 = .ok (.ireturn, 1) := by decide +kernel
theorem dX3_holds_0 : decode cX3_holds 0 = .ok (.iload_n 0, 1) := by decide +kernel
theorem dX3_holds_1 : decode cX3_holds 1 = .ok (.iload_n 1, 1) := by decide +kernel
theorem dX3_holds_2 : decode cX3_holds 2 = .ok (.ishr, 1) := by decide +kernel
theorem dX3_holds_3 : decode cX3_holds 3 = .ok (.iconst 1, 1) := by decide +kernel
theorem dX3_holds_4 : decode cX3_holds 4 = .ok (.iand, 1) := by decide +kernel
theorem dX3_holds_5 : decode cX3_holds 5 = .ok (.ifCond .eq 7, 3) := by decide +kernel
theorem dX3_holds_8 : decode cX3_holds 8 = .ok (.iconst 1, 1) := by decide +kernel
theorem dX3_holds_9 : decode cX3_holds 9 = .ok (.goto 4, 3) := by decide +kernel
theorem dX3_holds_12 : decode cX3_holds 12 = .ok (.iconst 0, 1) := by decide +kernel
theorem dX3_holds_13 : decode cX3_holds 13 = .ok (.ireturn, 1) := by decide +kernel
set_option maxRecDepth 20000 in
theorem ggX3_ofRequest_X1_placeInRow : GoodIn wsX3_ofRequest wsX1_placeInRow := goodIn_r _ [10, 11, 12, 18, 19, 20, 21, 22, 23, 24, 25, 26, 27, 28, 29, 30, 31, 32, 33] (by decide +kernel) (by decide +kernel)
set_option maxRecDepth 20000 in
theorem gX3_ofRequest_X1_placeInRow : GoodIn wsX3_ofRequest (wsV RX3 215 RX1 yX1_placeInRow wsX1_placeInRow) := goodIn_app (goodIn_of _ (by decide +kernel)) ggX3_ofRequest_X1_placeInRow
theorem dX3_ofRequest_0 : decode cX3_ofRequest 0 = .ok (.aload_n 0, 1) := by decide +kernel
theorem dX3_ofRequest_1 : decode cX3_ofRequest 1 = .ok (.getfield 12, 3) := by decide +kernel
theorem dX3_ofRequest_4 : decode cX3_ofRequest 4 = .ok (.getfield 212, 3) := by decide +kernel
theorem dX3_ofRequest_7 : decode cX3_ofRequest 7 = .ok (.iload_n 1, 1) := by decide +kernel
theorem dX3_ofRequest_8 : decode cX3_ofRequest 8 = .ok (.iaload, 1) := by decide +kernel
theorem dX3_ofRequest_9 : decode cX3_ofRequest 9 = .ok (.ifCond .ne 6, 3) := by decide +kernel
theorem dX3_ofRequest_12 : decode cX3_ofRequest 12 = .ok (.bipush (-6), 2) := by decide +kernel
theorem dX3_ofRequest_14 : decode cX3_ofRequest 14 = .ok (.ireturn, 1) := by decide +kernel
theorem dX3_ofRequest_15 : decode cX3_ofRequest 15 = .ok (.iload_n 2, 1) := by decide +kernel
theorem dX3_ofRequest_16 : decode cX3_ofRequest 16 = .ok (.tableswitch 71 4 7 #[32, 41, 51, 61], 32) := by decide +kernel
theorem dX3_ofRequest_48 : decode cX3_ofRequest 48 = .ok (.aload_n 0, 1) := by decide +kernel
theorem dX3_ofRequest_49 : decode cX3_ofRequest 49 = .ok (.getfield 12, 3) := by decide +kernel
theorem dX3_ofRequest_52 : decode cX3_ofRequest 52 = .ok (.iload_n 1, 1) := by decide +kernel
theorem dX3_ofRequest_53 : decode cX3_ofRequest 53 = .ok (.invokevirtual 215, 3) := by decide +kernel
theorem dX3_ofRequest_56 : decode cX3_ofRequest 56 = .ok (.ireturn, 1) := by decide +kernel
theorem dX3_ofRequest_57 : decode cX3_ofRequest 57 = .ok (.aload_n 0, 1) := by decide +kernel
theorem dX3_ofRequest_58 : decode cX3_ofRequest 58 = .ok (.getfield 12, 3) := by decide +kernel
theorem dX3_ofRequest_61 : decode cX3_ofRequest 61 = .ok (.getfield 212, 3) := by decide +kernel
theorem dX3_ofRequest_64 : decode cX3_ofRequest 64 = .ok (.iload_n 1, 1) := by decide +kernel
theorem dX3_ofRequest_65 : decode cX3_ofRequest 65 = .ok (.iaload, 1) := by decide +kernel
theorem dX3_ofRequest_66 : decode cX3_ofRequest 66 = .ok (.ireturn, 1) := by decide +kernel
theorem dX3_ofRequest_67 : decode cX3_ofRequest 67 = .ok (.aload_n 0, 1) := by decide +kernel
theorem dX3_ofRequest_68 : decode cX3_ofRequest 68 = .ok (.getfield 12, 3) := by decide +kernel
theorem dX3_ofRequest_71 : decode cX3_ofRequest 71 = .ok (.getfield 218, 3) := by decide +kernel
theorem dX3_ofRequest_74 : decode cX3_ofRequest 74 = .ok (.iload_n 1, 1) := by decide +kernel
theorem dX3_ofRequest_75 : decode cX3_ofRequest 75 = .ok (.iaload, 1) := by decide +kernel
theorem dX3_ofRequest_76 : decode cX3_ofRequest 76 = .ok (.ireturn, 1) := by decide +kernel
theorem dX3_ofRequest_77 : decode cX3_ofRequest 77 = .ok (.aload_n 0, 1) := by decide +kernel
theorem dX3_ofRequest_78 : decode cX3_ofRequest 78 = .ok (.getfield 12, 3) := by decide +kernel
theorem dX3_ofRequest_81 : decode cX3_ofRequest 81 = .ok (.getfield 221, 3) := by decide +kernel
theorem dX3_ofRequest_84 : decode cX3_ofRequest 84 = .ok (.iload_n 1, 1) := by decide +kernel
theorem dX3_ofRequest_85 : decode cX3_ofRequest 85 = .ok (.iaload, 1) := by decide +kernel
theorem dX3_ofRequest_86 : decode cX3_ofRequest 86 = .ok (.ireturn, 1) := by decide +kernel
theorem dX3_ofRequest_87 : decode cX3_ofRequest 87 = .ok (.aload_n 0, 1) := by decide +kernel
theorem dX3_ofRequest_88 : decode cX3_ofRequest 88 = .ok (.getfield 12, 3) := by decide +kernel
theorem dX3_ofRequest_91 : decode cX3_ofRequest 91 = .ok (.getfield 224, 3) := by decide +kernel
theorem dX3_ofRequest_94 : decode cX3_ofRequest 94 = .ok (.iload_n 1, 1) := by decide +kernel
theorem dX3_ofRequest_95 : decode cX3_ofRequest 95 = .ok (.iaload, 1) := by decide +kernel
theorem dX3_ofRequest_96 : decode cX3_ofRequest 96 = .ok (.ireturn, 1) := by decide +kernel
set_option maxRecDepth 20000 in
theorem ggX3_couldLock_X1_inWay : GoodIn wsX3_couldLock wsX1_inWay := goodIn_r _ [7, 8, 9, 10, 11, 12, 13, 14, 15, 16, 17, 18, 19, 20, 21, 22, 23, 24, 25, 26, 6, 27, 33, 34, 35, 36, 37, 38, 39, 40, 41, 42, 43, 44, 45, 46, 47, 48] (by decide +kernel) (by decide +kernel)
set_option maxRecDepth 20000 in
theorem gX3_couldLock_X1_inWay : GoodIn wsX3_couldLock (wsV RX3 150 RX1 yX1_inWay wsX1_inWay) := goodIn_app (goodIn_of _ (by decide +kernel)) ggX3_couldLock_X1_inWay
theorem dX3_couldLock_0 : decode cX3_couldLock 0 = .ok (.aload_n 0, 1) := by decide +kernel
theorem dX3_couldLock_1 : decode cX3_couldLock 1 = .ok (.getfield 12, 3) := by decide +kernel
theorem dX3_couldLock_4 : decode cX3_couldLock 4 = .ok (.iload_n 1, 1) := by decide +kernel
theorem dX3_couldLock_5 : decode cX3_couldLock 5 = .ok (.iload_n 2, 1) := by decide +kernel
theorem dX3_couldLock_6 : decode cX3_couldLock 6 = .ok (.iload_n 3, 1) := by decide +kernel
theorem dX3_couldLock_7 : decode cX3_couldLock 7 = .ok (.iload_n 3, 1) := by decide +kernel
theorem dX3_couldLock_8 : decode cX3_couldLock 8 = .ok (.iconst 1, 1) := by decide +kernel
theorem dX3_couldLock_9 : decode cX3_couldLock 9 = .ok (.iadd, 1) := by decide +kernel
theorem dX3_couldLock_10 : decode cX3_couldLock 10 = .ok (.aload_n 0, 1) := by decide +kernel
theorem dX3_couldLock_11 : decode cX3_couldLock 11 = .ok (.getfield 12, 3) := by decide +kernel
theorem dX3_couldLock_14 : decode cX3_couldLock 14 = .ok (.getfield 107, 3) := by decide +kernel
theorem dX3_couldLock_17 : decode cX3_couldLock 17 = .ok (.invokevirtual 150, 3) := by decide +kernel
theorem dX3_couldLock_20 : decode cX3_couldLock 20 = .ok (.ifCond .ne 7, 3) := by decide +kernel
theorem dX3_couldLock_23 : decode cX3_couldLock 23 = .ok (.iconst 1, 1) := by decide +kernel
theorem dX3_couldLock_24 : decode cX3_couldLock 24 = .ok (.goto 4, 3) := by decide +kernel
theorem dX3_couldLock_27 : decode cX3_couldLock 27 = .ok (.iconst 0, 1) := by decide +kernel
theorem dX3_couldLock_28 : decode cX3_couldLock 28 = .ok (.ireturn, 1) := by decide +kernel
set_option maxRecDepth 20000 in
theorem ggX3_obey_J0_indexOf_0f7a4 : GoodIn wsX3_obey wsJ0_indexOf_0f7a4 := goodIn_r _ [12, 13, 14, 15, 11, 16, 17, 18, 19, 20, 21, 22, 23, 24, 25, 26, 27, 28, 29, 30, 31, 32, 33, 34, 35, 36, 37, 38, 39, 40, 41, 42, 43, 44, 45, 46, 47, 48, 49, 50, 51, 52, 53, 54, 55, 56, 57, 58, 59, 60, 61, 62, 63, 64, 65, 66, 67, 68, 69, 70, 71, 72, 73, 74, 75, 76, 77, 78, 79, 80, 81, 82, 83, 84, 85, 86, 87, 88, 89, 90, 91, 92, 93, 94, 95, 96] (by decide +kernel) (by decide +kernel)
set_option maxRecDepth 20000 in
theorem gX3_obey_J0_indexOf_0f7a4 : GoodIn wsX3_obey (wsV RX3 233 RJ0 yJ0_indexOf_0f7a4 wsJ0_indexOf_0f7a4) := goodIn_app (goodIn_of _ (by decide +kernel)) ggX3_obey_J0_indexOf_0f7a4
set_option maxRecDepth 20000 in
theorem ggX3_obey_X1_ask : GoodIn wsX3_obey wsX1_ask := goodIn_r _ [101, 102, 103, 104, 105, 106, 107, 108, 109, 110, 111, 112, 113, 114, 115, 116, 117, 118, 100, 119, 120, 121, 122, 123, 37, 38, 39, 124, 125, 41, 42, 126, 127, 128, 129, 130, 131, 132, 133, 134, 135, 136, 137, 138, 139, 140, 141, 142, 143, 144, 145, 146, 147, 148, 149, 150, 151, 152, 153, 154, 155, 156, 157, 158, 159, 160, 161, 162, 163, 164, 165, 166, 167, 168, 169, 170, 171, 172, 173, 174, 175, 176, 177, 178, 179, 180, 181, 182, 183, 184, 185, 186, 187, 188, 189, 233, 234, 235, 236, 237, 238, 239, 240, 241, 242, 243, 244, 245, 246, 247, 248] (by decide +kernel) (by decide +kernel)
set_option maxRecDepth 20000 in
theorem gX3_obey_X1_ask : GoodIn wsX3_obey (wsV RX3 53 RX1 yX1_ask wsX1_ask) := goodIn_app (goodIn_of _ (by decide +kernel)) ggX3_obey_X1_ask
set_option maxRecDepth 20000 in
theorem ggX3_obey_X1_release : GoodIn wsX3_obey wsX1_release := goodIn_r _ [193, 106, 107, 108, 111, 112, 113, 114, 115, 194, 195, 196, 100, 197, 180, 181, 182, 183, 120, 137, 138, 139, 140, 141, 142, 143, 144, 103, 121, 102, 122, 124, 145, 146, 123, 37, 38, 39, 147, 148, 149, 150, 116, 117, 118, 119, 104, 125, 41, 42, 126, 127, 128, 129, 130, 131, 132, 133, 134, 135, 136, 151, 152, 153, 154, 155, 156, 157, 158, 233, 234, 235, 236, 237, 238, 239, 240, 241, 242, 243, 244, 245, 246, 247, 248] (by decide +kernel) (by decide +kernel)
set_option maxRecDepth 20000 in
theorem gX3_obey_X1_release : GoodIn wsX3_obey (wsV RX3 57 RX1 yX1_release wsX1_release) := goodIn_app (goodIn_of _ (by decide +kernel)) ggX3_obey_X1_release
set_option maxRecDepth 20000 in
theorem ggX3_obey_X1_withdraw : GoodIn wsX3_obey wsX1_withdraw := goodIn_r _ [201, 102, 146, 106, 107, 108, 151, 152, 153, 100, 154, 103, 121, 155, 156, 157, 158, 141, 142, 143, 144, 122, 124, 145, 123, 37, 38, 39, 147, 148, 149, 150, 116, 117, 118, 119, 120, 104, 125, 41, 42, 126, 127, 128, 129, 130, 131, 132, 133, 134, 135, 136, 137, 138, 139, 140, 233, 234, 235, 236, 237, 238, 239, 240, 241, 242, 243, 244, 245, 246, 247, 248] (by decide +kernel) (by decide +kernel)
set_option maxRecDepth 20000 in
theorem gX3_obey_X1_withdraw : GoodIn wsX3_obey (wsV RX3 61 RX1 yX1_withdraw wsX1_withdraw) := goodIn_app (goodIn_of _ (by decide +kernel)) ggX3_obey_X1_withdraw
set_option maxRecDepth 20000 in
theorem ggX3_obey_X1_depart : GoodIn wsX3_obey wsX1_depart := goodIn_r _ [205, 106, 107, 108, 206, 207, 208, 100, 209, 151, 152, 153, 154, 103, 121, 102, 155, 156, 157, 158, 194, 195, 196, 197, 180, 181, 182, 183, 120, 137, 138, 139, 140, 141, 142, 143, 144, 122, 124, 145, 146, 123, 37, 38, 39, 147, 148, 149, 150, 116, 117, 118, 119, 104, 125, 41, 42, 126, 127, 128, 129, 130, 131, 132, 133, 134, 135, 136, 233, 234, 235, 236, 237, 238, 239, 240, 241, 242, 243, 244, 245, 246, 247, 248] (by decide +kernel) (by decide +kernel)
set_option maxRecDepth 20000 in
theorem gX3_obey_X1_depart : GoodIn wsX3_obey (wsV RX3 64 RX1 yX1_depart wsX1_depart) := goodIn_app (goodIn_of _ (by decide +kernel)) ggX3_obey_X1_depart
set_option maxRecDepth 20000 in
theorem ggX3_obey_X1_pass : GoodIn wsX3_obey wsX1_pass := goodIn_r _ [213, 214, 215, 216, 217, 218, 100, 219, 104, 103, 121, 146, 151, 152, 153, 154, 102, 155, 156, 157, 158, 141, 142, 143, 144, 122, 124, 145, 123, 37, 38, 39, 147, 148, 149, 150, 116, 117, 118, 119, 120, 125, 41, 42, 126, 107, 127, 128, 129, 130, 131, 132, 133, 134, 135, 136, 137, 138, 139, 140, 233, 234, 235, 236, 237, 238, 239, 240, 241, 242, 243, 244, 245, 246, 247, 248] (by decide +kernel) (by decide +kernel)
set_option maxRecDepth 20000 in
theorem gX3_obey_X1_pass : GoodIn wsX3_obey (wsV RX3 67 RX1 yX1_pass wsX1_pass) := goodIn_app (goodIn_of _ (by decide +kernel)) ggX3_obey_X1_pass
theorem dX3_obey_0 : decode cX3_obey 0 = .ok (.ldc 227, 2) := by decide +kernel
theorem dX3_obey_2 : decode cX3_obey 2 = .ok (.aload_n 0, 1) := by decide +kernel
theorem dX3_obey_3 : decode cX3_obey 3 = .ok (.getfield 33, 3) := by decide +kernel
theorem dX3_obey_6 : decode cX3_obey 6 = .ok (.getfield 229, 3) := by decide +kernel
theorem dX3_obey_9 : decode cX3_obey 9 = .ok (.invokevirtual 233, 3) := by decide +kernel
theorem dX3_obey_12 : decode cX3_obey 12 = .ok (.iconst 1, 1) := by decide +kernel
theorem dX3_obey_13 : decode cX3_obey 13 = .ok (.iadd, 1) := by decide +kernel
theorem dX3_obey_14 : decode cX3_obey 14 = .ok (.istore_n 1, 1) := by decide +kernel
theorem dX3_obey_15 : decode cX3_obey 15 = .ok (.iload_n 1, 1) := by decide +kernel
theorem dX3_obey_16 : decode cX3_obey 16 = .ok (.ifCond .eq 40, 3) := by decide +kernel
theorem dX3_obey_19 : decode cX3_obey 19 = .ok (.aload_n 0, 1) := by decide +kernel
theorem dX3_obey_20 : decode cX3_obey 20 = .ok (.getfield 12, 3) := by decide +kernel
theorem dX3_obey_23 : decode cX3_obey 23 = .ok (.aload_n 0, 1) := by decide +kernel
theorem dX3_obey_24 : decode cX3_obey 24 = .ok (.getfield 33, 3) := by decide +kernel
theorem dX3_obey_27 : decode cX3_obey 27 = .ok (.getfield 238, 3) := by decide +kernel
theorem dX3_obey_30 : decode cX3_obey 30 = .ok (.iload_n 1, 1) := by decide +kernel
theorem dX3_obey_31 : decode cX3_obey 31 = .ok (.aload_n 0, 1) := by decide +kernel
theorem dX3_obey_32 : decode cX3_obey 32 = .ok (.getfield 33, 3) := by decide +kernel
theorem dX3_obey_35 : decode cX3_obey 35 = .ok (.getfield 241, 3) := by decide +kernel
theorem dX3_obey_38 : decode cX3_obey 38 = .ok (.aload_n 0, 1) := by decide +kernel
theorem dX3_obey_39 : decode cX3_obey 39 = .ok (.getfield 33, 3) := by decide +kernel
theorem dX3_obey_42 : decode cX3_obey 42 = .ok (.getfield 244, 3) := by decide +kernel
theorem dX3_obey_45 : decode cX3_obey 45 = .ok (.aload_n 0, 1) := by decide +kernel
theorem dX3_obey_46 : decode cX3_obey 46 = .ok (.getfield 33, 3) := by decide +kernel
theorem dX3_obey_49 : decode cX3_obey 49 = .ok (.getfield 247, 3) := by decide +kernel
theorem dX3_obey_52 : decode cX3_obey 52 = .ok (.invokevirtual 53, 3) := by decide +kernel
theorem dX3_obey_55 : decode cX3_obey 55 = .ok (.ireturn, 1) := by decide +kernel
theorem dX3_obey_56 : decode cX3_obey 56 = .ok (.aload_n 0, 1) := by decide +kernel
theorem dX3_obey_57 : decode cX3_obey 57 = .ok (.getfield 33, 3) := by decide +kernel
theorem dX3_obey_60 : decode cX3_obey 60 = .ok (.getfield 229, 3) := by decide +kernel
theorem dX3_obey_63 : decode cX3_obey 63 = .ok (.bipush 102, 2) := by decide +kernel
theorem dX3_obey_65 : decode cX3_obey 65 = .ok (.if_icmp .ne 32, 3) := by decide +kernel
theorem dX3_obey_68 : decode cX3_obey 68 = .ok (.aload_n 0, 1) := by decide +kernel
theorem dX3_obey_69 : decode cX3_obey 69 = .ok (.getfield 12, 3) := by decide +kernel
theorem dX3_obey_72 : decode cX3_obey 72 = .ok (.aload_n 0, 1) := by decide +kernel
theorem dX3_obey_73 : decode cX3_obey 73 = .ok (.getfield 33, 3) := by decide +kernel
theorem dX3_obey_76 : decode cX3_obey 76 = .ok (.getfield 238, 3) := by decide +kernel
theorem dX3_obey_79 : decode cX3_obey 79 = .ok (.aload_n 0, 1) := by decide +kernel
theorem dX3_obey_80 : decode cX3_obey 80 = .ok (.getfield 33, 3) := by decide +kernel
theorem dX3_obey_83 : decode cX3_obey 83 = .ok (.getfield 241, 3) := by decide +kernel
theorem dX3_obey_86 : decode cX3_obey 86 = .ok (.aload_n 0, 1) := by decide +kernel
theorem dX3_obey_87 : decode cX3_obey 87 = .ok (.getfield 33, 3) := by decide +kernel
theorem dX3_obey_90 : decode cX3_obey 90 = .ok (.getfield 244, 3) := by decide +kernel
theorem dX3_obey_93 : decode cX3_obey 93 = .ok (.invokevirtual 57, 3) := by decide +kernel
theorem dX3_obey_96 : decode cX3_obey 96 = .ok (.ireturn, 1) := by decide +kernel
theorem dX3_obey_97 : decode cX3_obey 97 = .ok (.aload_n 0, 1) := by decide +kernel
theorem dX3_obey_98 : decode cX3_obey 98 = .ok (.getfield 33, 3) := by decide +kernel
theorem dX3_obey_101 : decode cX3_obey 101 = .ok (.getfield 229, 3) := by decide +kernel
theorem dX3_obey_104 : decode cX3_obey 104 = .ok (.bipush 99, 2) := by decide +kernel
theorem dX3_obey_106 : decode cX3_obey 106 = .ok (.if_icmp .ne 18, 3) := by decide +kernel
theorem dX3_obey_109 : decode cX3_obey 109 = .ok (.aload_n 0, 1) := by decide +kernel
theorem dX3_obey_110 : decode cX3_obey 110 = .ok (.getfield 12, 3) := by decide +kernel
theorem dX3_obey_113 : decode cX3_obey 113 = .ok (.aload_n 0, 1) := by decide +kernel
theorem dX3_obey_114 : decode cX3_obey 114 = .ok (.getfield 33, 3) := by decide +kernel
theorem dX3_obey_117 : decode cX3_obey 117 = .ok (.getfield 238, 3) := by decide +kernel
theorem dX3_obey_120 : decode cX3_obey 120 = .ok (.invokevirtual 61, 3) := by decide +kernel
theorem dX3_obey_123 : decode cX3_obey 123 = .ok (.ireturn, 1) := by decide +kernel
theorem dX3_obey_124 : decode cX3_obey 124 = .ok (.aload_n 0, 1) := by decide +kernel
theorem dX3_obey_125 : decode cX3_obey 125 = .ok (.getfield 33, 3) := by decide +kernel
theorem dX3_obey_128 : decode cX3_obey 128 = .ok (.getfield 229, 3) := by decide +kernel
theorem dX3_obey_131 : decode cX3_obey 131 = .ok (.bipush 120, 2) := by decide +kernel
theorem dX3_obey_133 : decode cX3_obey 133 = .ok (.if_icmp .ne 18, 3) := by decide +kernel
theorem dX3_obey_136 : decode cX3_obey 136 = .ok (.aload_n 0, 1) := by decide +kernel
theorem dX3_obey_137 : decode cX3_obey 137 = .ok (.getfield 12, 3) := by decide +kernel
theorem dX3_obey_140 : decode cX3_obey 140 = .ok (.aload_n 0, 1) := by decide +kernel
theorem dX3_obey_141 : decode cX3_obey 141 = .ok (.getfield 33, 3) := by decide +kernel
theorem dX3_obey_144 : decode cX3_obey 144 = .ok (.getfield 238, 3) := by decide +kernel
theorem dX3_obey_147 : decode cX3_obey 147 = .ok (.invokevirtual 64, 3) := by decide +kernel
theorem dX3_obey_150 : decode cX3_obey 150 = .ok (.ireturn, 1) := by decide +kernel
theorem dX3_obey_151 : decode cX3_obey 151 = .ok (.aload_n 0, 1) := by decide +kernel
theorem dX3_obey_152 : decode cX3_obey 152 = .ok (.getfield 12, 3) := by decide +kernel
theorem dX3_obey_155 : decode cX3_obey 155 = .ok (.aload_n 0, 1) := by decide +kernel
theorem dX3_obey_156 : decode cX3_obey 156 = .ok (.getfield 33, 3) := by decide +kernel
theorem dX3_obey_159 : decode cX3_obey 159 = .ok (.getfield 241, 3) := by decide +kernel
theorem dX3_obey_162 : decode cX3_obey 162 = .ok (.invokevirtual 67, 3) := by decide +kernel
theorem dX3_obey_165 : decode cX3_obey 165 = .ok (.ireturn, 1) := by decide +kernel
theorem dX4_init_0 : decode cX4_init 0 = .ok (.aload_n 0, 1) := by decide +kernel
theorem dX4_init_1 : decode cX4_init 1 = .ok (.invokespecial 1, 3) := by decide +kernel
theorem dX4_init_4 : decode cX4_init 4 = .ok (.aload_n 0, 1) := by decide +kernel
theorem dX4_init_5 : decode cX4_init 5 = .ok (.sipush 2488, 3) := by decide +kernel
theorem dX4_init_8 : decode cX4_init 8 = .ok (.newarray .int, 2) := by decide +kernel
theorem dX4_init_10 : decode cX4_init 10 = .ok (.putfield 7, 3) := by decide +kernel
theorem dX4_init_13 : decode cX4_init 13 = .ok (.aload_n 0, 1) := by decide +kernel
theorem dX4_init_14 : decode cX4_init 14 = .ok (.sipush 14928, 3) := by decide +kernel
theorem dX4_init_17 : decode cX4_init 17 = .ok (.newarray .int, 2) := by decide +kernel
theorem dX4_init_19 : decode cX4_init 19 = .ok (.putfield 13, 3) := by decide +kernel
theorem dX4_init_22 : decode cX4_init 22 = .ok (.aload_n 0, 1) := by decide +kernel
theorem dX4_init_23 : decode cX4_init 23 = .ok (.sipush 4976, 3) := by decide +kernel
theorem dX4_init_26 : decode cX4_init 26 = .ok (.newarray .int, 2) := by decide +kernel
theorem dX4_init_28 : decode cX4_init 28 = .ok (.putfield 16, 3) := by decide +kernel
theorem dX4_init_31 : decode cX4_init 31 = .ok (.aload_n 0, 1) := by decide +kernel
theorem dX4_init_32 : decode cX4_init 32 = .ok (.iconst 2, 1) := by decide +kernel
theorem dX4_init_33 : decode cX4_init 33 = .ok (.newarray .boolean, 2) := by decide +kernel
theorem dX4_init_35 : decode cX4_init 35 = .ok (.putfield 19, 3) := by decide +kernel
theorem dX4_init_38 : decode cX4_init 38 = .ok (.aload_n 0, 1) := by decide +kernel
theorem dX4_init_39 : decode cX4_init 39 = .ok (.sipush 2488, 3) := by decide +kernel
theorem dX4_init_42 : decode cX4_init 42 = .ok (.newarray .int, 2) := by decide +kernel
theorem dX4_init_44 : decode cX4_init 44 = .ok (.putfield 23, 3) := by decide +kernel
theorem dX4_init_47 : decode cX4_init 47 = .ok (.aload_n 0, 1) := by decide +kernel
theorem dX4_init_48 : decode cX4_init 48 = .ok (.bipush 80, 2) := by decide +kernel
theorem dX4_init_50 : decode cX4_init 50 = .ok (.newarray .int, 2) := by decide +kernel
theorem dX4_init_52 : decode cX4_init 52 = .ok (.putfield 26, 3) := by decide +kernel
theorem dX4_init_55 : decode cX4_init 55 = .ok (.aload_n 0, 1) := by decide +kernel
theorem dX4_init_56 : decode cX4_init 56 = .ok (.bipush 8, 2) := by decide +kernel
theorem dX4_init_58 : decode cX4_init 58 = .ok (.newarray .int, 2) := by decide +kernel
theorem dX4_init_60 : decode cX4_init 60 = .ok (.putfield 29, 3) := by decide +kernel
theorem dX4_init_63 : decode cX4_init 63 = .ok (.aload_n 0, 1) := by decide +kernel
theorem dX4_init_64 : decode cX4_init 64 = .ok (.bipush 8, 2) := by decide +kernel
theorem dX4_init_66 : decode cX4_init 66 = .ok (.newarray .int, 2) := by decide +kernel
theorem dX4_init_68 : decode cX4_init 68 = .ok (.putfield 32, 3) := by decide +kernel
theorem dX4_init_71 : decode cX4_init 71 = .ok (.aload_n 0, 1) := by decide +kernel
theorem dX4_init_72 : decode cX4_init 72 = .ok (.bipush 29, 2) := by decide +kernel
theorem dX4_init_74 : decode cX4_init 74 = .ok (.newarray .int, 2) := by decide +kernel
theorem dX4_init_76 : decode cX4_init 76 = .ok (.putfield 35, 3) := by decide +kernel
theorem dX4_init_79 : decode cX4_init 79 = .ok (.aload_n 0, 1) := by decide +kernel
theorem dX4_init_80 : decode cX4_init 80 = .ok (.bipush 116, 2) := by decide +kernel
theorem dX4_init_82 : decode cX4_init 82 = .ok (.newarray .int, 2) := by decide +kernel
theorem dX4_init_84 : decode cX4_init 84 = .ok (.putfield 38, 3) := by decide +kernel
theorem dX4_init_87 : decode cX4_init 87 = .ok (.aload_n 0, 1) := by decide +kernel
theorem dX4_init_88 : decode cX4_init 88 = .ok (.getfield 7, 3) := by decide +kernel
theorem dX4_init_91 : decode cX4_init 91 = .ok (.iconst 2, 1) := by decide +kernel
theorem dX4_init_92 : decode cX4_init 92 = .ok (.iconst 1, 1) := by decide +kernel
theorem dX4_init_93 : decode cX4_init 93 = .ok (.iastore, 1) := by decide +kernel
theorem dX4_init_94 : decode cX4_init 94 = .ok (.return_, 1) := by decide +kernel
theorem dX4_in_0 : decode cX4_in 0 = .ok (.iload_n 0, 1) := by decide +kernel
theorem dX4_in_1 : decode cX4_in 1 = .ok (.iload_n 1, 1) := by decide +kernel
theorem dX4_in_2 : decode cX4_in 2 = .ok (.if_icmp .lt 12, 3) := by decide +kernel
theorem dX4_in_5 : decode cX4_in 5 = .ok (.iload_n 0, 1) := by decide +kernel
theorem dX4_in_6 : decode cX4_in 6 = .ok (.iload_n 2, 1) := by decide +kernel
theorem dX4_in_7 : decode cX4_in 7 = .ok (.if_icmp .gt 7, 3) := by decide +kernel
theorem dX4_in_10 : decode cX4_in 10 = .ok (.iconst 1, 1) := by decide +kernel
theorem dX4_in_11 : decode cX4_in 11 = .ok (.goto 4, 3) := by decide +kernel
theorem dX4_in_14 : decode cX4_in 14 = .ok (.iconst 0, 1) := by decide +kernel
theorem dX4_in_15 : decode cX4_in 15 = .ok (.ireturn, 1) := by decide +kernel
theorem dX4_has_0 : decode cX4_has 0 = .ok (.iload_n 0, 1) := by decide +kernel
theorem dX4_has_1 : decode cX4_has 1 = .ok (.iload_n 1, 1) := by decide +kernel
theorem dX4_has_2 : decode cX4_has 2 = .ok (.ishr, 1) := by decide +kernel
theorem dX4_has_3 : decode cX4_has 3 = .ok (.iconst 1, 1) := by decide +kernel
theorem dX4_has_4 : decode cX4_has 4 = .ok (.iand, 1) := by decide +kernel
theorem dX4_has_5 : decode cX4_has 5 = .ok (.iconst 1, 1) := by decide +kernel
theorem dX4_has_6 : decode cX4_has 6 = .ok (.if_icmp .ne 7, 3) := by decide +kernel
theorem dX4_has_9 : decode cX4_has 9 = .ok (.iconst 1, 1) := by decide +kernel
theorem dX4_has_10 : decode cX4_has 10 = .ok (.goto 4, 3) := by decide +kernel
theorem dX4_has_13 : decode cX4_has 13 = .ok (.iconst 0, 1) := by decide +kernel
theorem dX4_has_14 : decode cX4_has 14 = .ok (.ireturn, 1) := by decide +kernel
set_option maxRecDepth 20000 in
theorem ggX4_isOwner_X4_in : GoodIn wsX4_isOwner wsX4_in := goodIn_r _ [4] (by decide +kernel) (by decide +kernel)
set_option maxRecDepth 20000 in
theorem gX4_isOwner_X4_in : GoodIn wsX4_isOwner (va_wsS RX4 41 yX4_in wsX4_in) := goodIn_app (goodIn_of _ (by decide +kernel)) ggX4_isOwner_X4_in
theorem dX4_isOwner_0 : decode cX4_isOwner 0 = .ok (.iload_n 0, 1) := by decide +kernel
theorem dX4_isOwner_1 : decode cX4_isOwner 1 = .ok (.iconst 0, 1) := by decide +kernel
theorem dX4_isOwner_2 : decode cX4_isOwner 2 = .ok (.bipush 7, 2) := by decide +kernel
theorem dX4_isOwner_4 : decode cX4_isOwner 4 = .ok (.invokestatic 41, 3) := by decide +kernel
theorem dX4_isOwner_7 : decode cX4_isOwner 7 = .ok (.ireturn, 1) := by decide +kernel
set_option maxRecDepth 20000 in
theorem ggX4_isRange_X4_in : GoodIn wsX4_isRange wsX4_in := goodIn_r _ [4] (by decide +kernel) (by decide +kernel)
set_option maxRecDepth 20000 in
theorem gX4_isRange_X4_in : GoodIn wsX4_isRange (va_wsS RX4 41 yX4_in wsX4_in) := goodIn_app (goodIn_of _ (by decide +kernel)) ggX4_isRange_X4_in
theorem dX4_isRange_0 : decode cX4_isRange 0 = .ok (.iload_n 0, 1) := by decide +kernel
theorem dX4_isRange_1 : decode cX4_isRange 1 = .ok (.iconst 0, 1) := by decide +kernel
theorem dX4_isRange_2 : decode cX4_isRange 2 = .ok (.sipush 299, 3) := by decide +kernel
theorem dX4_isRange_5 : decode cX4_isRange 5 = .ok (.invokestatic 41, 3) := by decide +kernel
theorem dX4_isRange_8 : decode cX4_isRange 8 = .ok (.ifCond .eq 20, 3) := by decide +kernel
theorem dX4_isRange_11 : decode cX4_isRange 11 = .ok (.iload_n 1, 1) := by decide +kernel
theorem dX4_isRange_12 : decode cX4_isRange 12 = .ok (.iload_n 0, 1) := by decide +kernel
theorem dX4_isRange_13 : decode cX4_isRange 13 = .ok (.iconst 1, 1) := by decide +kernel
theorem dX4_isRange_14 : decode cX4_isRange 14 = .ok (.iadd, 1) := by decide +kernel
theorem dX4_isRange_15 : decode cX4_isRange 15 = .ok (.sipush 300, 3) := by decide +kernel
theorem dX4_isRange_18 : decode cX4_isRange 18 = .ok (.invokestatic 41, 3) := by decide +kernel
theorem dX4_isRange_21 : decode cX4_isRange 21 = .ok (.ifCond .eq 7, 3) := by decide +kernel
theorem dX4_isRange_24 : decode cX4_isRange 24 = .ok (.iconst 1, 1) := by decide +kernel
theorem dX4_isRange_25 : decode cX4_isRange 25 = .ok (.goto 4, 3) := by decide +kernel
theorem dX4_isRange_28 : decode cX4_isRange 28 = .ok (.iconst 0, 1) := by decide +kernel
theorem dX4_isRange_29 : decode cX4_isRange 29 = .ok (.ireturn, 1) := by decide +kernel
theorem dX4_areTogether_0 : decode cX4_areTogether 0 = .ok (.iload_n 0, 1) := by decide +kernel
theorem dX4_areTogether_1 : decode cX4_areTogether 1 = .ok (.ifCond .eq 27, 3) := by decide +kernel
theorem dX4_areTogether_4 : decode cX4_areTogether 4 = .ok (.iload_n 1, 1) := by decide +kernel
theorem dX4_areTogether_5 : decode cX4_areTogether 5 = .ok (.ifCond .eq 23, 3) := by decide +kernel
theorem dX4_areTogether_8 : decode cX4_areTogether 8 = .ok (.iload_n 0, 1) := by decide +kernel
theorem dX4_areTogether_9 : decode cX4_areTogether 9 = .ok (.iconst 1, 1) := by decide +kernel
theorem dX4_areTogether_10 : decode cX4_areTogether 10 = .ok (.if_icmp .ne 8, 3) := by decide +kernel
theorem dX4_areTogether_13 : decode cX4_areTogether 13 = .ok (.iload_n 1, 1) := by decide +kernel
theorem dX4_areTogether_14 : decode cX4_areTogether 14 = .ok (.iconst 2, 1) := by decide +kernel
theorem dX4_areTogether_15 : decode cX4_areTogether 15 = .ok (.if_icmp .le 13, 3) := by decide +kernel
theorem dX4_areTogether_18 : decode cX4_areTogether 18 = .ok (.iload_n 1, 1) := by decide +kernel
theorem dX4_areTogether_19 : decode cX4_areTogether 19 = .ok (.iconst 1, 1) := by decide +kernel
theorem dX4_areTogether_20 : decode cX4_areTogether 20 = .ok (.if_icmp .ne 12, 3) := by decide +kernel
theorem dX4_areTogether_23 : decode cX4_areTogether 23 = .ok (.iload_n 0, 1) := by decide +kernel
theorem dX4_areTogether_24 : decode cX4_areTogether 24 = .ok (.iconst 2, 1) := by decide +kernel
theorem dX4_areTogether_25 : decode cX4_areTogether 25 = .ok (.if_icmp .gt 7, 3) := by decide +kernel
theorem dX4_areTogether_28 : decode cX4_areTogether 28 = .ok (.iconst 1, 1) := by decide +kernel
theorem dX4_areTogether_29 : decode cX4_areTogether 29 = .ok (.goto 4, 3) := by decide +kernel
theorem dX4_areTogether_32 : decode cX4_areTogether 32 = .ok (.iconst 0, 1) := by decide +kernel
theorem dX4_areTogether_33 : decode cX4_areTogether 33 = .ok (.ireturn, 1) := by decide +kernel
theorem dX4_of_0 : decode cX4_of 0 = .ok (.aload_n 0, 1) := by decide +kernel
theorem dX4_of_1 : decode cX4_of 1 = .ok (.getfield 7, 3) := by decide +kernel
theorem dX4_of_4 : decode cX4_of 4 = .ok (.bipush 16, 2) := by decide +kernel
theorem dX4_of_6 : decode cX4_of 6 = .ok (.bipush 9, 2) := by decide +kernel
theorem dX4_of_8 : decode cX4_of 8 = .ok (.iload_n 1, 1) := by decide +kernel
theorem dX4_of_9 : decode cX4_of 9 = .ok (.imul, 1) := by decide +kernel
theorem dX4_of_10 : decode cX4_of 10 = .ok (.iadd, 1) := by decide +kernel
theorem dX4_of_11 : decode cX4_of 11 = .ok (.iload_n 2, 1) := by decide +kernel
theorem dX4_of_12 : decode cX4_of 12 = .ok (.iadd, 1) := by decide +kernel
theorem dX4_of_13 : decode cX4_of 13 = .ok (.iaload, 1) := by decide +kernel
theorem dX4_of_14 : decode cX4_of 14 = .ok (.ireturn, 1) := by decide +kernel
theorem dX4_lay_0 : decode cX4_lay 0 = .ok (.aload_n 0, 1) := by decide +kernel
theorem dX4_lay_1 : decode cX4_lay 1 = .ok (.getfield 7, 3) := by decide +kernel
theorem dX4_lay_4 : decode cX4_lay 4 = .ok (.bipush 16, 2) := by decide +kernel
theorem dX4_lay_6 : decode cX4_lay 6 = .ok (.bipush 9, 2) := by decide +kernel
theorem dX4_lay_8 : decode cX4_lay 8 = .ok (.iload_n 1, 1) := by decide +kernel
theorem dX4_lay_9 : decode cX4_lay 9 = .ok (.imul, 1) := by decide +kernel
theorem dX4_lay_10 : decode cX4_lay 10 = .ok (.iadd, 1) := by decide +kernel
theorem dX4_lay_11 : decode cX4_lay 11 = .ok (.iload_n 2, 1) := by decide +kernel
theorem dX4_lay_12 : decode cX4_lay 12 = .ok (.iadd, 1) := by decide +kernel
theorem dX4_lay_13 : decode cX4_lay 13 = .ok (.iload_n 3, 1) := by decide +kernel
theorem dX4_lay_14 : decode cX4_lay 14 = .ok (.iastore, 1) := by decide +kernel
theorem dX4_lay_15 : decode cX4_lay 15 = .ok (.return_, 1) := by decide +kernel
theorem dX4_more_0 : decode cX4_more 0 = .ok (.aload_n 0, 1) := by decide +kernel
theorem dX4_more_1 : decode cX4_more 1 = .ok (.getfield 7, 3) := by decide +kernel
theorem dX4_more_4 : decode cX4_more 4 = .ok (.bipush 16, 2) := by decide +kernel
theorem dX4_more_6 : decode cX4_more 6 = .ok (.bipush 9, 2) := by decide +kernel
theorem dX4_more_8 : decode cX4_more 8 = .ok (.iload_n 1, 1) := by decide +kernel
theorem dX4_more_9 : decode cX4_more 9 = .ok (.imul, 1) := by decide +kernel
theorem dX4_more_10 : decode cX4_more 10 = .ok (.iadd, 1) := by decide +kernel
theorem dX4_more_11 : decode cX4_more 11 = .ok (.iload_n 2, 1) := by decide +kernel
theorem dX4_more_12 : decode cX4_more 12 = .ok (.iadd, 1) := by decide +kernel
theorem dX4_more_13 : decode cX4_more 13 = .ok (.dup2, 1) := by decide +kernel
theorem dX4_more_14 : decode cX4_more 14 = .ok (.iaload, 1) := by decide +kernel
theorem dX4_more_15 : decode cX4_more 15 = .ok (.iload_n 3, 1) := by decide +kernel
theorem dX4_more_16 : decode cX4_more 16 = .ok (.iadd, 1) := by decide +kernel
theorem dX4_more_17 : decode cX4_more 17 = .ok (.iastore, 1) := by decide +kernel
theorem dX4_more_18 : decode cX4_more 18 = .ok (.return_, 1) := by decide +kernel
theorem dX4_lock_0 : decode cX4_lock 0 = .ok (.aload_n 0, 1) := by decide +kernel
theorem dX4_lock_1 : decode cX4_lock 1 = .ok (.getfield 7, 3) := by decide +kernel
theorem dX4_lock_4 : decode cX4_lock 4 = .ok (.bipush 88, 2) := by decide +kernel
theorem dX4_lock_6 : decode cX4_lock 6 = .ok (.sipush 300, 3) := by decide +kernel
theorem dX4_lock_9 : decode cX4_lock 9 = .ok (.iload_n 1, 1) := by decide +kernel
theorem dX4_lock_10 : decode cX4_lock 10 = .ok (.imul, 1) := by decide +kernel
theorem dX4_lock_11 : decode cX4_lock 11 = .ok (.iadd, 1) := by decide +kernel
theorem dX4_lock_12 : decode cX4_lock 12 = .ok (.iload_n 2, 1) := by decide +kernel
theorem dX4_lock_13 : decode cX4_lock 13 = .ok (.iadd, 1) := by decide +kernel
theorem dX4_lock_14 : decode cX4_lock 14 = .ok (.iaload, 1) := by decide +kernel
theorem dX4_lock_15 : decode cX4_lock 15 = .ok (.ireturn, 1) := by decide +kernel
theorem dX4_layLock_0 : decode cX4_layLock 0 = .ok (.aload_n 0, 1) := by decide +kernel
theorem dX4_layLock_1 : decode cX4_layLock 1 = .ok (.getfield 7, 3) := by decide +kernel
theorem dX4_layLock_4 : decode cX4_layLock 4 = .ok (.bipush 88, 2) := by decide +kernel
theorem dX4_layLock_6 : decode cX4_layLock 6 = .ok (.sipush 300, 3) := by decide +kernel
theorem dX4_layLock_9 : decode cX4_layLock 9 = .ok (.iload_n 1, 1) := by decide +kernel
theorem dX4_layLock_10 : decode cX4_layLock 10 = .ok (.imul, 1) := by decide +kernel
theorem dX4_layLock_11 : decode cX4_layLock 11 = .ok (.iadd, 1) := by decide +kernel
theorem dX4_layLock_12 : decode cX4_layLock 12 = .ok (.iload_n 2, 1) := by decide +kernel
theorem dX4_layLock_13 : decode cX4_layLock 13 = .ok (.iadd, 1) := by decide +kernel
theorem dX4_layLock_14 : decode cX4_layLock 14 = .ok (.iload_n 3, 1) := by decide +kernel
theorem dX4_layLock_15 : decode cX4_layLock 15 = .ok (.iastore, 1) := by decide +kernel
theorem dX4_layLock_16 : decode cX4_layLock 16 = .ok (.return_, 1) := by decide +kernel
theorem dX4_keep_0 : decode cX4_keep 0 = .ok (.aload_n 0, 1) := by decide +kernel
theorem dX4_keep_1 : decode cX4_keep 1 = .ok (.getfield 45, 3) := by decide +kernel
theorem dX4_keep_4 : decode cX4_keep 4 = .ok (.bipush 6, 2) := by decide +kernel
theorem dX4_keep_6 : decode cX4_keep 6 = .ok (.if_icmp .ne 26, 3) := by decide +kernel
theorem dX4_keep_9 : decode cX4_keep 9 = .ok (.aload_n 0, 1) := by decide +kernel
theorem dX4_keep_10 : decode cX4_keep 10 = .ok (.aload_n 0, 1) := by decide +kernel
theorem dX4_keep_11 : decode cX4_keep 11 = .ok (.getfield 49, 3) := by decide +kernel
theorem dX4_keep_14 : decode cX4_keep 14 = .ok (.iconst 1, 1) := by decide +kernel
theorem dX4_keep_15 : decode cX4_keep 15 = .ok (.iadd, 1) := by decide +kernel
theorem dX4_keep_16 : decode cX4_keep 16 = .ok (.bipush 6, 2) := by decide +kernel
theorem dX4_keep_18 : decode cX4_keep 18 = .ok (.irem, 1) := by decide +kernel
theorem dX4_keep_19 : decode cX4_keep 19 = .ok (.putfield 49, 3) := by decide +kernel
theorem dX4_keep_22 : decode cX4_keep 22 = .ok (.aload_n 0, 1) := by decide +kernel
theorem dX4_keep_23 : decode cX4_keep 23 = .ok (.dup, 1) := by decide +kernel
theorem dX4_keep_24 : decode cX4_keep 24 = .ok (.getfield 45, 3) := by decide +kernel
theorem dX4_keep_27 : decode cX4_keep 27 = .ok (.iconst 1, 1) := by decide +kernel
theorem dX4_keep_28 : decode cX4_keep 28 = .ok (.isub, 1) := by decide +kernel
theorem dX4_keep_29 : decode cX4_keep 29 = .ok (.putfield 45, 3) := by decide +kernel
theorem dX4_keep_32 : decode cX4_keep 32 = .ok (.aload_n 0, 1) := by decide +kernel
theorem dX4_keep_33 : decode cX4_keep 33 = .ok (.getfield 49, 3) := by decide +kernel
theorem dX4_keep_36 : decode cX4_keep 36 = .ok (.aload_n 0, 1) := by decide +kernel
theorem dX4_keep_37 : decode cX4_keep 37 = .ok (.getfield 45, 3) := by decide +kernel
theorem dX4_keep_40 : decode cX4_keep 40 = .ok (.iadd, 1) := by decide +kernel
theorem dX4_keep_41 : decode cX4_keep 41 = .ok (.bipush 6, 2) := by decide +kernel
theorem dX4_keep_43 : decode cX4_keep 43 = .ok (.irem, 1) := by decide +kernel
theorem dX4_keep_44 : decode cX4_keep 44 = .ok (.istore_n 1, 1) := by decide +kernel
theorem dX4_keep_45 : decode cX4_keep 45 = .ok (.iconst 0, 1) := by decide +kernel
theorem dX4_keep_46 : decode cX4_keep 46 = .ok (.istore_n 2, 1) := by decide +kernel
theorem dX4_keep_47 : decode cX4_keep 47 = .ok (.iload_n 2, 1) := by decide +kernel
theorem dX4_keep_48 : decode cX4_keep 48 = .ok (.sipush 2488, 3) := by decide +kernel
theorem dX4_keep_51 : decode cX4_keep 51 = .ok (.if_icmp .ge 27, 3) := by decide +kernel
theorem dX4_keep_54 : decode cX4_keep 54 = .ok (.aload_n 0, 1) := by decide +kernel
theorem dX4_keep_55 : decode cX4_keep 55 = .ok (.getfield 13, 3) := by decide +kernel
theorem dX4_keep_58 : decode cX4_keep 58 = .ok (.sipush 2488, 3) := by decide +kernel
theorem dX4_keep_61 : decode cX4_keep 61 = .ok (.iload_n 1, 1) := by decide +kernel
theorem dX4_keep_62 : decode cX4_keep 62 = .ok (.imul, 1) := by decide +kernel
theorem dX4_keep_63 : decode cX4_keep 63 = .ok (.iload_n 2, 1) := by decide +kernel
theorem dX4_keep_64 : decode cX4_keep 64 = .ok (.iadd, 1) := by decide +kernel
theorem dX4_keep_65 : decode cX4_keep 65 = .ok (.aload_n 0, 1) := by decide +kernel
theorem dX4_keep_66 : decode cX4_keep 66 = .ok (.getfield 7, 3) := by decide +kernel
theorem dX4_keep_69 : decode cX4_keep 69 = .ok (.iload_n 2, 1) := by decide +kernel
theorem dX4_keep_70 : decode cX4_keep 70 = .ok (.iaload, 1) := by decide +kernel
theorem dX4_keep_71 : decode cX4_keep 71 = .ok (.iastore, 1) := by decide +kernel
theorem dX4_keep_72 : decode cX4_keep 72 = .ok (.iinc 2 1, 3) := by decide +kernel
theorem dX4_keep_75 : decode cX4_keep 75 = .ok (.goto (-28), 3) := by decide +kernel
theorem dX4_keep_78 : decode cX4_keep 78 = .ok (.aload_n 0, 1) := by decide +kernel
theorem dX4_keep_79 : decode cX4_keep 79 = .ok (.dup, 1) := by decide +kernel
theorem dX4_keep_80 : decode cX4_keep 80 = .ok (.getfield 45, 3) := by decide +kernel
theorem dX4_keep_83 : decode cX4_keep 83 = .ok (.iconst 1, 1) := by decide +kernel
theorem dX4_keep_84 : decode cX4_keep 84 = .ok (.iadd, 1) := by decide +kernel
theorem dX4_keep_85 : decode cX4_keep 85 = .ok (.putfield 45, 3) := by decide +kernel
theorem dX4_keep_88 : decode cX4_keep 88 = .ok (.return_, 1) := by decide +kernel
set_option maxRecDepth 20000 in
theorem ggX4_keepIf_X4_keep : GoodIn wsX4_keepIf wsX4_keep := goodIn_r _ [5, 6, 7, 8, 9, 10, 11, 12, 13, 14, 15, 16, 17, 18, 19, 20, 21, 22, 23, 24, 25] (by decide +kernel) (by decide +kernel)
set_option maxRecDepth 20000 in
theorem gX4_keepIf_X4_keep : GoodIn wsX4_keepIf (wsV RX4 52 RX4 yX4_keep wsX4_keep) := goodIn_app (goodIn_of _ (by decide +kernel)) ggX4_keepIf_X4_keep
theorem dX4_keepIf_0 : decode cX4_keepIf 0 = .ok (.iload_n 1, 1) := by decide +kernel
theorem dX4_keepIf_1 : decode cX4_keepIf 1 = .ok (.ifCond .eq 7, 3) := by decide +kernel
theorem dX4_keepIf_4 : decode cX4_keepIf 4 = .ok (.aload_n 0, 1) := by decide +kernel
theorem dX4_keepIf_5 : decode cX4_keepIf 5 = .ok (.invokevirtual 52, 3) := by decide +kernel
theorem dX4_keepIf_8 : decode cX4_keepIf 8 = .ok (.return_, 1) := by decide +kernel
theorem dX4_layAside_0 : decode cX4_layAside 0 = .ok (.iconst 0, 1) := by decide +kernel
theorem dX4_layAside_1 : decode cX4_layAside 1 = .ok (.istore_n 1, 1) := by decide +kernel
theorem dX4_layAside_2 : decode cX4_layAside 2 = .ok (.iload_n 1, 1) := by decide +kernel
theorem dX4_layAside_3 : decode cX4_layAside 3 = .ok (.sipush 2488, 3) := by decide +kernel
theorem dX4_layAside_6 : decode cX4_layAside 6 = .ok (.if_icmp .ge 21, 3) := by decide +kernel
theorem dX4_layAside_9 : decode cX4_layAside 9 = .ok (.aload_n 0, 1) := by decide +kernel
theorem dX4_layAside_10 : decode cX4_layAside 10 = .ok (.getfield 23, 3) := by decide +kernel
theorem dX4_layAside_13 : decode cX4_layAside 13 = .ok (.iload_n 1, 1) := by decide +kernel
theorem dX4_layAside_14 : decode cX4_layAside 14 = .ok (.aload_n 0, 1) := by decide +kernel
theorem dX4_layAside_15 : decode cX4_layAside 15 = .ok (.getfield 7, 3) := by decide +kernel
theorem dX4_layAside_18 : decode cX4_layAside 18 = .ok (.iload_n 1, 1) := by decide +kernel
theorem dX4_layAside_19 : decode cX4_layAside 19 = .ok (.iaload, 1) := by decide +kernel
theorem dX4_layAside_20 : decode cX4_layAside 20 = .ok (.iastore, 1) := by decide +kernel
theorem dX4_layAside_21 : decode cX4_layAside 21 = .ok (.iinc 1 1, 3) := by decide +kernel
theorem dX4_layAside_24 : decode cX4_layAside 24 = .ok (.goto (-22), 3) := by decide +kernel
theorem dX4_layAside_27 : decode cX4_layAside 27 = .ok (.return_, 1) := by decide +kernel
theorem dX4_layBack_0 : decode cX4_layBack 0 = .ok (.iconst 0, 1) := by decide +kernel
theorem dX4_layBack_1 : decode cX4_layBack 1 = .ok (.istore_n 1, 1) := by decide +kernel
theorem dX4_layBack_2 : decode cX4_layBack 2 = .ok (.iload_n 1, 1) := by decide +kernel
theorem dX4_layBack_3 : decode cX4_layBack 3 = .ok (.sipush 2488, 3) := by decide +kernel
theorem dX4_layBack_6 : decode cX4_layBack 6 = .ok (.if_icmp .ge 21, 3) := by decide +kernel
theorem dX4_layBack_9 : decode cX4_layBack 9 = .ok (.aload_n 0, 1) := by decide +kernel
theorem dX4_layBack_10 : decode cX4_layBack 10 = .ok (.getfield 7, 3) := by decide +kernel
theorem dX4_layBack_13 : decode cX4_layBack 13 = .ok (.iload_n 1, 1) := by decide +kernel
theorem dX4_layBack_14 : decode cX4_layBack 14 = .ok (.aload_n 0, 1) := by decide +kernel
theorem dX4_layBack_15 : decode cX4_layBack 15 = .ok (.getfield 23, 3) := by decide +kernel
theorem dX4_layBack_18 : decode cX4_layBack 18 = .ok (.iload_n 1, 1) := by decide +kernel
theorem dX4_layBack_19 : decode cX4_layBack 19 = .ok (.iaload, 1) := by decide +kernel
theorem dX4_layBack_20 : decode cX4_layBack 20 = .ok (.iastore, 1) := by decide +kernel
theorem dX4_layBack_21 : decode cX4_layBack 21 = .ok (.iinc 1 1, 3) := by decide +kernel
theorem dX4_layBack_24 : decode cX4_layBack 24 = .ok (.goto (-22), 3) := by decide +kernel
theorem dX4_layBack_27 : decode cX4_layBack 27 = .ok (.return_, 1) := by decide +kernel
set_option maxRecDepth 20000 in
theorem ggX4_against_X4_lock : GoodIn wsX4_against wsX4_lock := goodIn_r _ [6, 1, 14, 15, 16, 17, 18, 19, 20, 21, 22, 23, 24, 25, 26, 27, 28, 29] (by decide +kernel) (by decide +kernel)
set_option maxRecDepth 20000 in
theorem gX4_against_X4_lock : GoodIn wsX4_against (wsV RX4 55 RX4 yX4_lock wsX4_lock) := goodIn_app (goodIn_of _ (by decide +kernel)) ggX4_against_X4_lock
set_option maxRecDepth 20000 in
theorem ggX4_against_X4_areTogether : GoodIn wsX4_against wsX4_areTogether := goodIn_r _ [9] (by decide +kernel) (by decide +kernel)
set_option maxRecDepth 20000 in
theorem gX4_against_X4_areTogether : GoodIn wsX4_against (va_wsS RX4 59 yX4_areTogether wsX4_areTogether) := goodIn_app (goodIn_of _ (by decide +kernel)) ggX4_against_X4_areTogether
set_option maxRecDepth 20000 in
theorem ggX4_against_X4_of : GoodIn wsX4_against wsX4_of := goodIn_r _ [13, 1, 14, 15, 16, 17, 18, 19, 20, 21, 22, 23, 24, 25, 26, 27, 28, 29] (by decide +kernel) (by decide +kernel)
set_option maxRecDepth 20000 in
theorem gX4_against_X4_of : GoodIn wsX4_against (wsV RX4 63 RX4 yX4_of wsX4_of) := goodIn_app (goodIn_of _ (by decide +kernel)) ggX4_against_X4_of
theorem dX4_against_0 : decode cX4_against 0 = .ok (.iconst 0, 1) := by decide +kernel
theorem dX4_against_1 : decode cX4_against 1 = .ok (.istore 5, 2) := by decide +kernel
theorem dX4_against_3 : decode cX4_against 3 = .ok (.iconst 0, 1) := by decide +kernel
theorem dX4_against_4 : decode cX4_against 4 = .ok (.istore 6, 2) := by decide +kernel
theorem dX4_against_6 : decode cX4_against 6 = .ok (.iload 6, 2) := by decide +kernel
theorem dX4_against_8 : decode cX4_against 8 = .ok (.bipush 8, 2) := by decide +kernel
theorem dX4_against_10 : decode cX4_against 10 = .ok (.if_icmp .ge 42, 3) := by decide +kernel
theorem dX4_against_13 : decode cX4_against 13 = .ok (.iload 5, 2) := by decide +kernel
theorem dX4_against_15 : decode cX4_against 15 = .ok (.iload 6, 2) := by decide +kernel
theorem dX4_against_17 : decode cX4_against 17 = .ok (.iload_n 1, 1) := by decide +kernel
theorem dX4_against_18 : decode cX4_against 18 = .ok (.if_icmp .eq 24, 3) := by decide +kernel
theorem dX4_against_21 : decode cX4_against 21 = .ok (.iload_n 2, 1) := by decide +kernel
theorem dX4_against_22 : decode cX4_against 22 = .ok (.aload_n 0, 1) := by decide +kernel
theorem dX4_against_23 : decode cX4_against 23 = .ok (.iload 6, 2) := by decide +kernel
theorem dX4_against_25 : decode cX4_against 25 = .ok (.iload_n 3, 1) := by decide +kernel
theorem dX4_against_26 : decode cX4_against 26 = .ok (.invokevirtual 55, 3) := by decide +kernel
theorem dX4_against_29 : decode cX4_against 29 = .ok (.invokestatic 59, 3) := by decide +kernel
theorem dX4_against_32 : decode cX4_against 32 = .ok (.ifCond .ne 10, 3) := by decide +kernel
theorem dX4_against_35 : decode cX4_against 35 = .ok (.iconst 1, 1) := by decide +kernel
theorem dX4_against_36 : decode cX4_against 36 = .ok (.iload 6, 2) := by decide +kernel
theorem dX4_against_38 : decode cX4_against 38 = .ok (.ishl, 1) := by decide +kernel
theorem dX4_against_39 : decode cX4_against 39 = .ok (.goto 4, 3) := by decide +kernel
theorem dX4_against_42 : decode cX4_against 42 = .ok (.iconst 0, 1) := by decide +kernel
theorem dX4_against_43 : decode cX4_against 43 = .ok (.ior, 1) := by decide +kernel
theorem dX4_against_44 : decode cX4_against 44 = .ok (.istore 5, 2) := by decide +kernel
theorem dX4_against_46 : decode cX4_against 46 = .ok (.iinc 6 1, 3) := by decide +kernel
theorem dX4_against_49 : decode cX4_against 49 = .ok (.goto (-43), 3) := by decide +kernel
theorem dX4_against_52 : decode cX4_against 52 = .ok (.iconst 0, 1) := by decide +kernel
theorem dX4_against_53 : decode cX4_against 53 = .ok (.istore 6, 2) := by decide +kernel
theorem dX4_against_55 : decode cX4_against 55 = .ok (.iload 6, 2) := by decide +kernel
theorem dX4_against_57 : decode cX4_against 57 = .ok (.iload 4, 2) := by decide +kernel
theorem dX4_against_59 : decode cX4_against 59 = .ok (.if_icmp .ge 98, 3) := by decide +kernel
theorem dX4_against_62 : decode cX4_against 62 = .ok (.aload_n 0, 1) := by decide +kernel
theorem dX4_against_63 : decode cX4_against 63 = .ok (.getfield 7, 3) := by decide +kernel
theorem dX4_against_66 : decode cX4_against 66 = .ok (.iconst 2, 1) := by decide +kernel
theorem dX4_against_67 : decode cX4_against 67 = .ok (.iaload, 1) := by decide +kernel
theorem dX4_against_68 : decode cX4_against 68 = .ok (.iconst 1, 1) := by decide +kernel
theorem dX4_against_69 : decode cX4_against 69 = .ok (.if_icmp .ne 88, 3) := by decide +kernel
theorem dX4_against_72 : decode cX4_against 72 = .ok (.aload_n 0, 1) := by decide +kernel
theorem dX4_against_73 : decode cX4_against 73 = .ok (.getfield 7, 3) := by decide +kernel
theorem dX4_against_76 : decode cX4_against 76 = .ok (.bipush 8, 2) := by decide +kernel
theorem dX4_against_78 : decode cX4_against 78 = .ok (.iload 6, 2) := by decide +kernel
theorem dX4_against_80 : decode cX4_against 80 = .ok (.iadd, 1) := by decide +kernel
theorem dX4_against_81 : decode cX4_against 81 = .ok (.iaload, 1) := by decide +kernel
theorem dX4_against_82 : decode cX4_against 82 = .ok (.istore 7, 2) := by decide +kernel
theorem dX4_against_84 : decode cX4_against 84 = .ok (.iload_n 3, 1) := by decide +kernel
theorem dX4_against_85 : decode cX4_against 85 = .ok (.aload_n 0, 1) := by decide +kernel
theorem dX4_against_86 : decode cX4_against 86 = .ok (.iload 7, 2) := by decide +kernel
theorem dX4_against_88 : decode cX4_against 88 = .ok (.iconst 1, 1) := by decide +kernel
theorem dX4_against_89 : decode cX4_against 89 = .ok (.invokevirtual 63, 3) := by decide +kernel
theorem dX4_against_92 : decode cX4_against 92 = .ok (.if_icmp .lt 18, 3) := by decide +kernel
theorem dX4_against_95 : decode cX4_against 95 = .ok (.iload_n 3, 1) := by decide +kernel
theorem dX4_against_96 : decode cX4_against 96 = .ok (.aload_n 0, 1) := by decide +kernel
theorem dX4_against_97 : decode cX4_against 97 = .ok (.iload 7, 2) := by decide +kernel
theorem dX4_against_99 : decode cX4_against 99 = .ok (.iconst 2, 1) := by decide +kernel
theorem dX4_against_100 : decode cX4_against 100 = .ok (.invokevirtual 63, 3) := by decide +kernel
theorem dX4_against_103 : decode cX4_against 103 = .ok (.if_icmp .ge 7, 3) := by decide +kernel
theorem dX4_against_106 : decode cX4_against 106 = .ok (.iconst 1, 1) := by decide +kernel
theorem dX4_against_107 : decode cX4_against 107 = .ok (.goto 4, 3) := by decide +kernel
theorem dX4_against_110 : decode cX4_against 110 = .ok (.iconst 0, 1) := by decide +kernel
theorem dX4_against_111 : decode cX4_against 111 = .ok (.istore 8, 2) := by decide +kernel
theorem dX4_against_113 : decode cX4_against 113 = .ok (.iload 5, 2) := by decide +kernel
theorem dX4_against_115 : decode cX4_against 115 = .ok (.iload 7, 2) := by decide +kernel
theorem dX4_against_117 : decode cX4_against 117 = .ok (.iload_n 1, 1) := by decide +kernel
theorem dX4_against_118 : decode cX4_against 118 = .ok (.if_icmp .eq 29, 3) := by decide +kernel
theorem dX4_against_121 : decode cX4_against 121 = .ok (.iload 8, 2) := by decide +kernel
theorem dX4_against_123 : decode cX4_against 123 = .ok (.ifCond .eq 24, 3) := by decide +kernel
theorem dX4_against_126 : decode cX4_against 126 = .ok (.iload_n 2, 1) := by decide +kernel
theorem dX4_against_127 : decode cX4_against 127 = .ok (.aload_n 0, 1) := by decide +kernel
theorem dX4_against_128 : decode cX4_against 128 = .ok (.iload 7, 2) := by decide +kernel
theorem dX4_against_130 : decode cX4_against 130 = .ok (.iconst 0, 1) := by decide +kernel
theorem dX4_against_131 : decode cX4_against 131 = .ok (.invokevirtual 63, 3) := by decide +kernel
theorem dX4_against_134 : decode cX4_against 134 = .ok (.invokestatic 59, 3) := by decide +kernel
theorem dX4_against_137 : decode cX4_against 137 = .ok (.ifCond .ne 10, 3) := by decide +kernel
theorem dX4_against_140 : decode cX4_against 140 = .ok (.iconst 1, 1) := by decide +kernel
theorem dX4_against_141 : decode cX4_against 141 = .ok (.iload 7, 2) := by decide +kernel
theorem dX4_against_143 : decode cX4_against 143 = .ok (.ishl, 1) := by decide +kernel
theorem dX4_against_144 : decode cX4_against 144 = .ok (.goto 4, 3) := by decide +kernel
theorem dX4_against_147 : decode cX4_against 147 = .ok (.iconst 0, 1) := by decide +kernel
theorem dX4_against_148 : decode cX4_against 148 = .ok (.ior, 1) := by decide +kernel
theorem dX4_against_149 : decode cX4_against 149 = .ok (.istore 5, 2) := by decide +kernel
theorem dX4_against_151 : decode cX4_against 151 = .ok (.iinc 6 1, 3) := by decide +kernel
theorem dX4_against_154 : decode cX4_against 154 = .ok (.goto (-99), 3) := by decide +kernel
theorem dX4_against_157 : decode cX4_against 157 = .ok (.iload 5, 2) := by decide +kernel
theorem dX4_against_159 : decode cX4_against 159 = .ok (.ireturn, 1) := by decide +kernel
set_option maxRecDepth 20000 in
theorem ggX4_stoppedBy_X4_lock : GoodIn wsX4_stoppedBy wsX4_lock := goodIn_r _ [5, 6, 18, 19, 20, 21, 22, 23, 24, 25, 26, 27, 28, 29, 30, 31, 32, 33] (by decide +kernel) (by decide +kernel)
set_option maxRecDepth 20000 in
theorem gX4_stoppedBy_X4_lock : GoodIn wsX4_stoppedBy (wsV RX4 55 RX4 yX4_lock wsX4_lock) := goodIn_app (goodIn_of _ (by decide +kernel)) ggX4_stoppedBy_X4_lock
set_option maxRecDepth 20000 in
theorem ggX4_stoppedBy_X4_against : GoodIn wsX4_stoppedBy wsX4_against := goodIn_r _ [10, 6, 1, 2, 3, 4, 5, 11, 12, 13, 14, 15, 16, 17, 18, 19, 20, 21, 22, 23, 24, 25, 26, 27, 28, 29, 30, 31, 32, 33] (by decide +kernel) (by decide +kernel)
set_option maxRecDepth 20000 in
theorem gX4_stoppedBy_X4_against : GoodIn wsX4_stoppedBy (wsV RX4 66 RX4 yX4_against wsX4_against) := goodIn_app (goodIn_of _ (by decide +kernel)) ggX4_stoppedBy_X4_against
theorem dX4_stoppedBy_0 : decode cX4_stoppedBy 0 = .ok (.aload_n 0, 1) := by decide +kernel
theorem dX4_stoppedBy_1 : decode cX4_stoppedBy 1 = .ok (.iload_n 1, 1) := by decide +kernel
theorem dX4_stoppedBy_2 : decode cX4_stoppedBy 2 = .ok (.iload_n 3, 1) := by decide +kernel
theorem dX4_stoppedBy_3 : decode cX4_stoppedBy 3 = .ok (.invokevirtual 55, 3) := by decide +kernel
theorem dX4_stoppedBy_6 : decode cX4_stoppedBy 6 = .ok (.iload_n 2, 1) := by decide +kernel
theorem dX4_stoppedBy_7 : decode cX4_stoppedBy 7 = .ok (.if_icmp .lt 7, 3) := by decide +kernel
theorem dX4_stoppedBy_10 : decode cX4_stoppedBy 10 = .ok (.iconst 0, 1) := by decide +kernel
theorem dX4_stoppedBy_11 : decode cX4_stoppedBy 11 = .ok (.goto 12, 3) := by decide +kernel
theorem dX4_stoppedBy_14 : decode cX4_stoppedBy 14 = .ok (.aload_n 0, 1) := by decide +kernel
theorem dX4_stoppedBy_15 : decode cX4_stoppedBy 15 = .ok (.iload_n 1, 1) := by decide +kernel
theorem dX4_stoppedBy_16 : decode cX4_stoppedBy 16 = .ok (.iload_n 2, 1) := by decide +kernel
theorem dX4_stoppedBy_17 : decode cX4_stoppedBy 17 = .ok (.iload_n 3, 1) := by decide +kernel
theorem dX4_stoppedBy_18 : decode cX4_stoppedBy 18 = .ok (.iload 4, 2) := by decide +kernel
theorem dX4_stoppedBy_20 : decode cX4_stoppedBy 20 = .ok (.invokevirtual 66, 3) := by decide +kernel
theorem dX4_stoppedBy_23 : decode cX4_stoppedBy 23 = .ok (.ireturn, 1) := by decide +kernel
set_option maxRecDepth 20000 in
theorem ggX4_stoppedIn_X4_stoppedBy : GoodIn wsX4_stoppedIn wsX4_stoppedBy := goodIn_r _ [5, 6, 7, 8, 4, 9, 10, 11, 12, 13, 14, 15, 16, 17, 18, 19, 20, 21, 22, 23, 24, 25, 26, 27, 28, 29, 30, 31, 32, 33, 34, 35, 36, 37] (by decide +kernel) (by decide +kernel)
set_option maxRecDepth 20000 in
theorem gX4_stoppedIn_X4_stoppedBy : GoodIn wsX4_stoppedIn (wsV RX4 70 RX4 yX4_stoppedBy wsX4_stoppedBy) := goodIn_app (goodIn_of _ (by decide +kernel)) ggX4_stoppedIn_X4_stoppedBy
theorem dX4_stoppedIn_0 : decode cX4_stoppedIn 0 = .ok (.iconst 0, 1) := by decide +kernel
theorem dX4_stoppedIn_1 : decode cX4_stoppedIn 1 = .ok (.istore 6, 2) := by decide +kernel
theorem dX4_stoppedIn_3 : decode cX4_stoppedIn 3 = .ok (.iload_n 3, 1) := by decide +kernel
theorem dX4_stoppedIn_4 : decode cX4_stoppedIn 4 = .ok (.istore 7, 2) := by decide +kernel
theorem dX4_stoppedIn_6 : decode cX4_stoppedIn 6 = .ok (.iload 7, 2) := by decide +kernel
theorem dX4_stoppedIn_8 : decode cX4_stoppedIn 8 = .ok (.iload 4, 2) := by decide +kernel
theorem dX4_stoppedIn_10 : decode cX4_stoppedIn 10 = .ok (.if_icmp .ge 24, 3) := by decide +kernel
theorem dX4_stoppedIn_13 : decode cX4_stoppedIn 13 = .ok (.iload 6, 2) := by decide +kernel
theorem dX4_stoppedIn_15 : decode cX4_stoppedIn 15 = .ok (.aload_n 0, 1) := by decide +kernel
theorem dX4_stoppedIn_16 : decode cX4_stoppedIn 16 = .ok (.iload_n 1, 1) := by decide +kernel
theorem dX4_stoppedIn_17 : decode cX4_stoppedIn 17 = .ok (.iload_n 2, 1) := by decide +kernel
theorem dX4_stoppedIn_18 : decode cX4_stoppedIn 18 = .ok (.iload 7, 2) := by decide +kernel
theorem dX4_stoppedIn_20 : decode cX4_stoppedIn 20 = .ok (.iload 5, 2) := by decide +kernel
theorem dX4_stoppedIn_22 : decode cX4_stoppedIn 22 = .ok (.invokevirtual 70, 3) := by decide +kernel
theorem dX4_stoppedIn_25 : decode cX4_stoppedIn 25 = .ok (.ior, 1) := by decide +kernel
theorem dX4_stoppedIn_26 : decode cX4_stoppedIn 26 = .ok (.istore 6, 2) := by decide +kernel
theorem dX4_stoppedIn_28 : decode cX4_stoppedIn 28 = .ok (.iinc 7 1, 3) := by decide +kernel
theorem dX4_stoppedIn_31 : decode cX4_stoppedIn 31 = .ok (.goto (-25), 3) := by decide +kernel
theorem dX4_stoppedIn_34 : decode cX4_stoppedIn 34 = .ok (.iload 6, 2) := by decide +kernel
theorem dX4_stoppedIn_36 : decode cX4_stoppedIn 36 = .ok (.ireturn, 1) := by decide +kernel
theorem dX4_placeInRow_0 : decode cX4_placeInRow 0 = .ok (.iconst 0, 1) := by decide +kernel
theorem dX4_placeInRow_1 : decode cX4_placeInRow 1 = .ok (.istore_n 2, 1) := by decide +kernel
theorem dX4_placeInRow_2 : decode cX4_placeInRow 2 = .ok (.iload_n 2, 1) := by decide +kernel
theorem dX4_placeInRow_3 : decode cX4_placeInRow 3 = .ok (.aload_n 0, 1) := by decide +kernel
theorem dX4_placeInRow_4 : decode cX4_placeInRow 4 = .ok (.getfield 7, 3) := by decide +kernel
theorem dX4_placeInRow_7 : decode cX4_placeInRow 7 = .ok (.iconst 1, 1) := by decide +kernel
theorem dX4_placeInRow_8 : decode cX4_placeInRow 8 = .ok (.iaload, 1) := by decide +kernel
theorem dX4_placeInRow_9 : decode cX4_placeInRow 9 = .ok (.if_icmp .ge 22, 3) := by decide +kernel
theorem dX4_placeInRow_12 : decode cX4_placeInRow 12 = .ok (.aload_n 0, 1) := by decide +kernel
theorem dX4_placeInRow_13 : decode cX4_placeInRow 13 = .ok (.getfield 7, 3) := by decide +kernel
theorem dX4_placeInRow_16 : decode cX4_placeInRow 16 = .ok (.bipush 8, 2) := by decide +kernel
theorem dX4_placeInRow_18 : decode cX4_placeInRow 18 = .ok (.iload_n 2, 1) := by decide +kernel
theorem dX4_placeInRow_19 : decode cX4_placeInRow 19 = .ok (.iadd, 1) := by decide +kernel
theorem dX4_placeInRow_20 : decode cX4_placeInRow 20 = .ok (.iaload, 1) := by decide +kernel
theorem dX4_placeInRow_21 : decode cX4_placeInRow 21 = .ok (.iload_n 1, 1) := by decide +kernel
theorem dX4_placeInRow_22 : decode cX4_placeInRow 22 = .ok (.if_icmp .eq 9, 3) := by decide +kernel
theorem dX4_placeInRow_25 : decode cX4_placeInRow 25 = .ok (.iinc 2 1, 3) := by decide +kernel
theorem dX4_placeInRow_28 : decode cX4_placeInRow 28 = .ok (.goto (-26), 3) := by decide +kernel
theorem dX4_placeInRow_31 : decode cX4_placeInRow 31 = .ok (.iload_n 2, 1) := by decide +kernel
theorem dX4_placeInRow_32 : decode cX4_placeInRow 32 = .ok (.aload_n 0, 1) := by decide +kernel
theorem dX4_placeInRow_33 : decode cX4_placeInRow 33 = .ok (.getfield 7, 3) := by decide +kernel
theorem dX4_placeInRow_36 : decode cX4_placeInRow 36 = .ok (.iconst 1, 1) := by decide +kernel
theorem dX4_placeInRow_37 : decode cX4_placeInRow 37 = .ok (.iaload, 1) := by decide +kernel
theorem dX4_placeInRow_38 : decode cX4_placeInRow 38 = .ok (.if_icmp .ge 7, 3) := by decide +kernel
theorem dX4_placeInRow_41 : decode cX4_placeInRow 41 = .ok (.iload_n 2, 1) := by decide +kernel
theorem dX4_placeInRow_42 : decode cX4_placeInRow 42 = .ok (.goto 5, 3) := by decide +kernel
theorem dX4_placeInRow_45 : decode cX4_placeInRow 45 = .ok (.bipush (-6), 2) := by decide +kernel
theorem dX4_placeInRow_47 : decode cX4_placeInRow 47 = .ok (.ireturn, 1) := by decide +kernel
set_option maxRecDepth 20000 in
theorem ggX4_waitsForNow_X4_placeInRow : GoodIn wsX4_waitsForNow wsX4_placeInRow := goodIn_r _ [5, 6, 30, 31, 32, 33, 34, 35, 36, 37, 38, 39, 40, 41, 42, 43, 44, 45] (by decide +kernel) (by decide +kernel)
set_option maxRecDepth 20000 in
theorem gX4_waitsForNow_X4_placeInRow : GoodIn wsX4_waitsForNow (wsV RX4 73 RX4 yX4_placeInRow wsX4_placeInRow) := goodIn_app (goodIn_of _ (by decide +kernel)) ggX4_waitsForNow_X4_placeInRow
set_option maxRecDepth 20000 in
theorem ggX4_waitsForNow_X4_of : GoodIn wsX4_waitsForNow wsX4_of := goodIn_r _ [10, 6, 30, 31, 32, 33, 34, 35, 36, 37, 38, 39, 40, 41, 42, 43, 44, 45] (by decide +kernel) (by decide +kernel)
set_option maxRecDepth 20000 in
theorem gX4_waitsForNow_X4_of : GoodIn wsX4_waitsForNow (wsV RX4 63 RX4 yX4_of wsX4_of) := goodIn_app (goodIn_of _ (by decide +kernel)) ggX4_waitsForNow_X4_of
set_option maxRecDepth 20000 in
theorem ggX4_waitsForNow_X4_stoppedIn : GoodIn wsX4_waitsForNow wsX4_stoppedIn := goodIn_r _ [14, 15, 16, 17, 4, 18, 19, 20, 21, 22, 6, 23, 24, 25, 26, 27, 28, 29, 7, 8, 9, 10, 30, 31, 32, 33, 34, 35, 36, 37, 38, 39, 40, 41, 42, 43, 44, 45] (by decide +kernel) (by decide +kernel)
set_option maxRecDepth 20000 in
theorem gX4_waitsForNow_X4_stoppedIn : GoodIn wsX4_waitsForNow (wsV RX4 77 RX4 yX4_stoppedIn wsX4_stoppedIn) := goodIn_app (goodIn_of _ (by decide +kernel)) ggX4_waitsForNow_X4_stoppedIn
theorem dX4_waitsForNow_0 : decode cX4_waitsForNow 0 = .ok (.aload_n 0, 1) := by decide +kernel
theorem dX4_waitsForNow_1 : decode cX4_waitsForNow 1 = .ok (.iload_n 1, 1) := by decide +kernel
theorem dX4_waitsForNow_2 : decode cX4_waitsForNow 2 = .ok (.invokevirtual 73, 3) := by decide +kernel
theorem dX4_waitsForNow_5 : decode cX4_waitsForNow 5 = .ok (.istore_n 2, 1) := by decide +kernel
theorem dX4_waitsForNow_6 : decode cX4_waitsForNow 6 = .ok (.iload_n 2, 1) := by decide +kernel
theorem dX4_waitsForNow_7 : decode cX4_waitsForNow 7 = .ok (.ifCond .ge 7, 3) := by decide +kernel
theorem dX4_waitsForNow_10 : decode cX4_waitsForNow 10 = .ok (.iconst 0, 1) := by decide +kernel
theorem dX4_waitsForNow_11 : decode cX4_waitsForNow 11 = .ok (.goto 27, 3) := by decide +kernel
theorem dX4_waitsForNow_14 : decode cX4_waitsForNow 14 = .ok (.aload_n 0, 1) := by decide +kernel
theorem dX4_waitsForNow_15 : decode cX4_waitsForNow 15 = .ok (.iload_n 1, 1) := by decide +kernel
theorem dX4_waitsForNow_16 : decode cX4_waitsForNow 16 = .ok (.aload_n 0, 1) := by decide +kernel
theorem dX4_waitsForNow_17 : decode cX4_waitsForNow 17 = .ok (.iload_n 1, 1) := by decide +kernel
theorem dX4_waitsForNow_18 : decode cX4_waitsForNow 18 = .ok (.iconst 0, 1) := by decide +kernel
theorem dX4_waitsForNow_19 : decode cX4_waitsForNow 19 = .ok (.invokevirtual 63, 3) := by decide +kernel
theorem dX4_waitsForNow_22 : decode cX4_waitsForNow 22 = .ok (.aload_n 0, 1) := by decide +kernel
theorem dX4_waitsForNow_23 : decode cX4_waitsForNow 23 = .ok (.iload_n 1, 1) := by decide +kernel
theorem dX4_waitsForNow_24 : decode cX4_waitsForNow 24 = .ok (.iconst 1, 1) := by decide +kernel
theorem dX4_waitsForNow_25 : decode cX4_waitsForNow 25 = .ok (.invokevirtual 63, 3) := by decide +kernel
theorem dX4_waitsForNow_28 : decode cX4_waitsForNow 28 = .ok (.aload_n 0, 1) := by decide +kernel
theorem dX4_waitsForNow_29 : decode cX4_waitsForNow 29 = .ok (.iload_n 1, 1) := by decide +kernel
theorem dX4_waitsForNow_30 : decode cX4_waitsForNow 30 = .ok (.iconst 2, 1) := by decide +kernel
theorem dX4_waitsForNow_31 : decode cX4_waitsForNow 31 = .ok (.invokevirtual 63, 3) := by decide +kernel
theorem dX4_waitsForNow_34 : decode cX4_waitsForNow 34 = .ok (.iload_n 2, 1) := by decide +kernel
theorem dX4_waitsForNow_35 : decode cX4_waitsForNow 35 = .ok (.invokevirtual 77, 3) := by decide +kernel
theorem dX4_waitsForNow_38 : decode cX4_waitsForNow 38 = .ok (.ireturn, 1) := by decide +kernel
set_option maxRecDepth 20000 in
theorem ggX4_give_X4_layLock : GoodIn wsX4_give wsX4_layLock := goodIn_r _ [5, 6, 11, 12, 13, 14, 15, 16, 17, 18, 19, 20, 21, 22, 23, 24, 25, 26] (by decide +kernel) (by decide +kernel)
set_option maxRecDepth 20000 in
theorem gX4_give_X4_layLock : GoodIn wsX4_give (wsV RX4 81 RX4 yX4_layLock wsX4_layLock) := goodIn_app (goodIn_of _ (by decide +kernel)) ggX4_give_X4_layLock
set_option maxRecDepth 20000 in
theorem ggX4_give_X4_more : GoodIn wsX4_give wsX4_more := goodIn_r _ [10, 6, 11, 12, 13, 14, 15, 16, 17, 18, 19, 20, 21, 22, 23, 24, 25, 26] (by decide +kernel) (by decide +kernel)
set_option maxRecDepth 20000 in
theorem gX4_give_X4_more : GoodIn wsX4_give (wsV RX4 85 RX4 yX4_more wsX4_more) := goodIn_app (goodIn_of _ (by decide +kernel)) ggX4_give_X4_more
theorem dX4_give_0 : decode cX4_give 0 = .ok (.iload_n 3, 1) := by decide +kernel
theorem dX4_give_1 : decode cX4_give 1 = .ok (.istore 5, 2) := by decide +kernel
theorem dX4_give_3 : decode cX4_give 3 = .ok (.iload 5, 2) := by decide +kernel
theorem dX4_give_5 : decode cX4_give 5 = .ok (.iload 4, 2) := by decide +kernel
theorem dX4_give_7 : decode cX4_give 7 = .ok (.if_icmp .ge 17, 3) := by decide +kernel
theorem dX4_give_10 : decode cX4_give 10 = .ok (.aload_n 0, 1) := by decide +kernel
theorem dX4_give_11 : decode cX4_give 11 = .ok (.iload_n 1, 1) := by decide +kernel
theorem dX4_give_12 : decode cX4_give 12 = .ok (.iload 5, 2) := by decide +kernel
theorem dX4_give_14 : decode cX4_give 14 = .ok (.iload_n 2, 1) := by decide +kernel
theorem dX4_give_15 : decode cX4_give 15 = .ok (.invokevirtual 81, 3) := by decide +kernel
theorem dX4_give_18 : decode cX4_give 18 = .ok (.iinc 5 1, 3) := by decide +kernel
theorem dX4_give_21 : decode cX4_give 21 = .ok (.goto (-18), 3) := by decide +kernel
theorem dX4_give_24 : decode cX4_give 24 = .ok (.aload_n 0, 1) := by decide +kernel
theorem dX4_give_25 : decode cX4_give 25 = .ok (.iload_n 1, 1) := by decide +kernel
theorem dX4_give_26 : decode cX4_give 26 = .ok (.iconst 4, 1) := by decide +kernel
theorem dX4_give_27 : decode cX4_give 27 = .ok (.iconst 1, 1) := by decide +kernel
theorem dX4_give_28 : decode cX4_give 28 = .ok (.invokevirtual 85, 3) := by decide +kernel
theorem dX4_give_31 : decode cX4_give 31 = .ok (.return_, 1) := by decide +kernel
set_option maxRecDepth 20000 in
theorem ggX4_leaveRow_X4_placeInRow : GoodIn wsX4_leaveRow wsX4_placeInRow := goodIn_r _ [6, 1, 11, 12, 13, 14, 15, 16, 17, 18, 19, 20, 21, 22, 23, 24, 25, 26] (by decide +kernel) (by decide +kernel)
set_option maxRecDepth 20000 in
theorem gX4_leaveRow_X4_placeInRow : GoodIn wsX4_leaveRow (wsV RX4 73 RX4 yX4_placeInRow wsX4_placeInRow) := goodIn_app (goodIn_of _ (by decide +kernel)) ggX4_leaveRow_X4_placeInRow
set_option maxRecDepth 20000 in
theorem ggX4_leaveRow_X4_lay : GoodIn wsX4_leaveRow wsX4_lay := goodIn_r _ [10, 1, 11, 12, 13, 14, 15, 16, 17, 18, 19, 20, 21, 22, 23, 24, 25, 26] (by decide +kernel) (by decide +kernel)
set_option maxRecDepth 20000 in
theorem gX4_leaveRow_X4_lay : GoodIn wsX4_leaveRow (wsV RX4 88 RX4 yX4_lay wsX4_lay) := goodIn_app (goodIn_of _ (by decide +kernel)) ggX4_leaveRow_X4_lay
theorem dX4_leaveRow_0 : decode cX4_leaveRow 0 = .ok (.aload_n 0, 1) := by decide +kernel
theorem dX4_leaveRow_1 : decode cX4_leaveRow 1 = .ok (.iload_n 1, 1) := by decide +kernel
theorem dX4_leaveRow_2 : decode cX4_leaveRow 2 = .ok (.invokevirtual 73, 3) := by decide +kernel
theorem dX4_leaveRow_5 : decode cX4_leaveRow 5 = .ok (.istore_n 2, 1) := by decide +kernel
theorem dX4_leaveRow_6 : decode cX4_leaveRow 6 = .ok (.aload_n 0, 1) := by decide +kernel
theorem dX4_leaveRow_7 : decode cX4_leaveRow 7 = .ok (.getfield 7, 3) := by decide +kernel
theorem dX4_leaveRow_10 : decode cX4_leaveRow 10 = .ok (.iconst 1, 1) := by decide +kernel
theorem dX4_leaveRow_11 : decode cX4_leaveRow 11 = .ok (.dup2, 1) := by decide +kernel
theorem dX4_leaveRow_12 : decode cX4_leaveRow 12 = .ok (.iaload, 1) := by decide +kernel
theorem dX4_leaveRow_13 : decode cX4_leaveRow 13 = .ok (.iconst 1, 1) := by decide +kernel
theorem dX4_leaveRow_14 : decode cX4_leaveRow 14 = .ok (.isub, 1) := by decide +kernel
theorem dX4_leaveRow_15 : decode cX4_leaveRow 15 = .ok (.iastore, 1) := by decide +kernel
theorem dX4_leaveRow_16 : decode cX4_leaveRow 16 = .ok (.iload_n 2, 1) := by decide +kernel
theorem dX4_leaveRow_17 : decode cX4_leaveRow 17 = .ok (.istore_n 3, 1) := by decide +kernel
theorem dX4_leaveRow_18 : decode cX4_leaveRow 18 = .ok (.iload_n 3, 1) := by decide +kernel
theorem dX4_leaveRow_19 : decode cX4_leaveRow 19 = .ok (.aload_n 0, 1) := by decide +kernel
theorem dX4_leaveRow_20 : decode cX4_leaveRow 20 = .ok (.getfield 7, 3) := by decide +kernel
theorem dX4_leaveRow_23 : decode cX4_leaveRow 23 = .ok (.iconst 1, 1) := by decide +kernel
theorem dX4_leaveRow_24 : decode cX4_leaveRow 24 = .ok (.iaload, 1) := by decide +kernel
theorem dX4_leaveRow_25 : decode cX4_leaveRow 25 = .ok (.if_icmp .ge 29, 3) := by decide +kernel
theorem dX4_leaveRow_28 : decode cX4_leaveRow 28 = .ok (.aload_n 0, 1) := by decide +kernel
theorem dX4_leaveRow_29 : decode cX4_leaveRow 29 = .ok (.getfield 7, 3) := by decide +kernel
theorem dX4_leaveRow_32 : decode cX4_leaveRow 32 = .ok (.bipush 8, 2) := by decide +kernel
theorem dX4_leaveRow_34 : decode cX4_leaveRow 34 = .ok (.iload_n 3, 1) := by decide +kernel
theorem dX4_leaveRow_35 : decode cX4_leaveRow 35 = .ok (.iadd, 1) := by decide +kernel
theorem dX4_leaveRow_36 : decode cX4_leaveRow 36 = .ok (.aload_n 0, 1) := by decide +kernel
theorem dX4_leaveRow_37 : decode cX4_leaveRow 37 = .ok (.getfield 7, 3) := by decide +kernel
theorem dX4_leaveRow_40 : decode cX4_leaveRow 40 = .ok (.bipush 8, 2) := by decide +kernel
theorem dX4_leaveRow_42 : decode cX4_leaveRow 42 = .ok (.iload_n 3, 1) := by decide +kernel
theorem dX4_leaveRow_43 : decode cX4_leaveRow 43 = .ok (.iadd, 1) := by decide +kernel
theorem dX4_leaveRow_44 : decode cX4_leaveRow 44 = .ok (.iconst 1, 1) := by decide +kernel
theorem dX4_leaveRow_45 : decode cX4_leaveRow 45 = .ok (.iadd, 1) := by decide +kernel
theorem dX4_leaveRow_46 : decode cX4_leaveRow 46 = .ok (.iaload, 1) := by decide +kernel
theorem dX4_leaveRow_47 : decode cX4_leaveRow 47 = .ok (.iastore, 1) := by decide +kernel
theorem dX4_leaveRow_48 : decode cX4_leaveRow 48 = .ok (.iinc 3 1, 3) := by decide +kernel
theorem dX4_leaveRow_51 : decode cX4_leaveRow 51 = .ok (.goto (-33), 3) := by decide +kernel
theorem dX4_leaveRow_54 : decode cX4_leaveRow 54 = .ok (.aload_n 0, 1) := by decide +kernel
theorem dX4_leaveRow_55 : decode cX4_leaveRow 55 = .ok (.iload_n 1, 1) := by decide +kernel
theorem dX4_leaveRow_56 : decode cX4_leaveRow 56 = .ok (.iconst 0, 1) := by decide +kernel
theorem dX4_leaveRow_57 : decode cX4_leaveRow 57 = .ok (.iconst 0, 1) := by decide +kernel
theorem dX4_leaveRow_58 : decode cX4_leaveRow 58 = .ok (.invokevirtual 88, 3) := by decide +kernel
theorem dX4_leaveRow_61 : decode cX4_leaveRow 61 = .ok (.return_, 1) := by decide +kernel
set_option maxRecDepth 20000 in
theorem ggX4_joinRow_X4_lay : GoodIn wsX4_joinRow wsX4_lay := goodIn_r _ [6, 1, 7, 8, 9, 10, 11, 12, 13, 14, 15, 16, 17, 18, 19, 20, 21, 22] (by decide +kernel) (by decide +kernel)
set_option maxRecDepth 20000 in
theorem gX4_joinRow_X4_lay : GoodIn wsX4_joinRow (wsV RX4 88 RX4 yX4_lay wsX4_lay) := goodIn_app (goodIn_of _ (by decide +kernel)) ggX4_joinRow_X4_lay
theorem dX4_joinRow_0 : decode cX4_joinRow 0 = .ok (.aload_n 0, 1) := by decide +kernel
theorem dX4_joinRow_1 : decode cX4_joinRow 1 = .ok (.getfield 7, 3) := by decide +kernel
theorem dX4_joinRow_4 : decode cX4_joinRow 4 = .ok (.bipush 8, 2) := by decide +kernel
theorem dX4_joinRow_6 : decode cX4_joinRow 6 = .ok (.aload_n 0, 1) := by decide +kernel
theorem dX4_joinRow_7 : decode cX4_joinRow 7 = .ok (.getfield 7, 3) := by decide +kernel
theorem dX4_joinRow_10 : decode cX4_joinRow 10 = .ok (.iconst 1, 1) := by decide +kernel
theorem dX4_joinRow_11 : decode cX4_joinRow 11 = .ok (.iaload, 1) := by decide +kernel
theorem dX4_joinRow_12 : decode cX4_joinRow 12 = .ok (.iadd, 1) := by decide +kernel
theorem dX4_joinRow_13 : decode cX4_joinRow 13 = .ok (.iload_n 1, 1) := by decide +kernel
theorem dX4_joinRow_14 : decode cX4_joinRow 14 = .ok (.iastore, 1) := by decide +kernel
theorem dX4_joinRow_15 : decode cX4_joinRow 15 = .ok (.aload_n 0, 1) := by decide +kernel
theorem dX4_joinRow_16 : decode cX4_joinRow 16 = .ok (.getfield 7, 3) := by decide +kernel
theorem dX4_joinRow_19 : decode cX4_joinRow 19 = .ok (.iconst 1, 1) := by decide +kernel
theorem dX4_joinRow_20 : decode cX4_joinRow 20 = .ok (.dup2, 1) := by decide +kernel
theorem dX4_joinRow_21 : decode cX4_joinRow 21 = .ok (.iaload, 1) := by decide +kernel
theorem dX4_joinRow_22 : decode cX4_joinRow 22 = .ok (.iconst 1, 1) := by decide +kernel
theorem dX4_joinRow_23 : decode cX4_joinRow 23 = .ok (.iadd, 1) := by decide +kernel
theorem dX4_joinRow_24 : decode cX4_joinRow 24 = .ok (.iastore, 1) := by decide +kernel
theorem dX4_joinRow_25 : decode cX4_joinRow 25 = .ok (.aload_n 0, 1) := by decide +kernel
theorem dX4_joinRow_26 : decode cX4_joinRow 26 = .ok (.iload_n 1, 1) := by decide +kernel
theorem dX4_joinRow_27 : decode cX4_joinRow 27 = .ok (.iconst 0, 1) := by decide +kernel
theorem dX4_joinRow_28 : decode cX4_joinRow 28 = .ok (.iload_n 2, 1) := by decide +kernel
theorem dX4_joinRow_29 : decode cX4_joinRow 29 = .ok (.invokevirtual 88, 3) := by decide +kernel
theorem dX4_joinRow_32 : decode cX4_joinRow 32 = .ok (.aload_n 0, 1) := by decide +kernel
theorem dX4_joinRow_33 : decode cX4_joinRow 33 = .ok (.iload_n 1, 1) := by decide +kernel
theorem dX4_joinRow_34 : decode cX4_joinRow 34 = .ok (.iconst 1, 1) := by decide +kernel
theorem dX4_joinRow_35 : decode cX4_joinRow 35 = .ok (.iload_n 3, 1) := by decide +kernel
theorem dX4_joinRow_36 : decode cX4_joinRow 36 = .ok (.invokevirtual 88, 3) := by decide +kernel
theorem dX4_joinRow_39 : decode cX4_joinRow 39 = .ok (.aload_n 0, 1) := by decide +kernel
theorem dX4_joinRow_40 : decode cX4_joinRow 40 = .ok (.iload_n 1, 1) := by decide +kernel
theorem dX4_joinRow_41 : decode cX4_joinRow 41 = .ok (.iconst 2, 1) := by decide +kernel
theorem dX4_joinRow_42 : decode cX4_joinRow 42 = .ok (.iload 4, 2) := by decide +kernel
theorem dX4_joinRow_44 : decode cX4_joinRow 44 = .ok (.invokevirtual 88, 3) := by decide +kernel
theorem dX4_joinRow_47 : decode cX4_joinRow 47 = .ok (.aload_n 0, 1) := by decide +kernel
theorem dX4_joinRow_48 : decode cX4_joinRow 48 = .ok (.iload_n 1, 1) := by decide +kernel
theorem dX4_joinRow_49 : decode cX4_joinRow 49 = .ok (.iconst 3, 1) := by decide +kernel
theorem dX4_joinRow_50 : decode cX4_joinRow 50 = .ok (.iconst 0, 1) := by decide +kernel
theorem dX4_joinRow_51 : decode cX4_joinRow 51 = .ok (.invokevirtual 88, 3) := by decide +kernel
theorem dX4_joinRow_54 : decode cX4_joinRow 54 = .ok (.return_, 1) := by decide +kernel
set_option maxRecDepth 20000 in
theorem ggX4_firstGivable_X4_waitsForNow : GoodIn wsX4_firstGivable wsX4_waitsForNow := goodIn_r _ [6, 7, 8, 9, 5, 10, 1, 11, 12, 13, 14, 15, 16, 17, 18, 19, 20, 21, 22, 23, 24, 25, 26, 27, 28, 29, 30, 31, 32, 33, 34, 35, 36, 37, 38, 39, 40, 41, 42, 43, 44, 45, 46, 47, 48, 49] (by decide +kernel) (by decide +kernel)
set_option maxRecDepth 20000 in
theorem gX4_firstGivable_X4_waitsForNow : GoodIn wsX4_firstGivable (wsV RX4 91 RX4 yX4_waitsForNow wsX4_waitsForNow) := goodIn_app (goodIn_of _ (by decide +kernel)) ggX4_firstGivable_X4_waitsForNow
theorem dX4_firstGivable_0 : decode cX4_firstGivable 0 = .ok (.iconst 0, 1) := by decide +kernel
theorem dX4_firstGivable_1 : decode cX4_firstGivable 1 = .ok (.istore_n 1, 1) := by decide +kernel
theorem dX4_firstGivable_2 : decode cX4_firstGivable 2 = .ok (.iload_n 1, 1) := by decide +kernel
theorem dX4_firstGivable_3 : decode cX4_firstGivable 3 = .ok (.aload_n 0, 1) := by decide +kernel
theorem dX4_firstGivable_4 : decode cX4_firstGivable 4 = .ok (.getfield 7, 3) := by decide +kernel
theorem dX4_firstGivable_7 : decode cX4_firstGivable 7 = .ok (.iconst 1, 1) := by decide +kernel
theorem dX4_firstGivable_8 : decode cX4_firstGivable 8 = .ok (.iaload, 1) := by decide +kernel
theorem dX4_firstGivable_9 : decode cX4_firstGivable 9 = .ok (.if_icmp .ge 29, 3) := by decide +kernel
theorem dX4_firstGivable_12 : decode cX4_firstGivable 12 = .ok (.aload_n 0, 1) := by decide +kernel
theorem dX4_firstGivable_13 : decode cX4_firstGivable 13 = .ok (.getfield 7, 3) := by decide +kernel
theorem dX4_firstGivable_16 : decode cX4_firstGivable 16 = .ok (.bipush 8, 2) := by decide +kernel
theorem dX4_firstGivable_18 : decode cX4_firstGivable 18 = .ok (.iload_n 1, 1) := by decide +kernel
theorem dX4_firstGivable_19 : decode cX4_firstGivable 19 = .ok (.iadd, 1) := by decide +kernel
theorem dX4_firstGivable_20 : decode cX4_firstGivable 20 = .ok (.iaload, 1) := by decide +kernel
theorem dX4_firstGivable_21 : decode cX4_firstGivable 21 = .ok (.istore_n 2, 1) := by decide +kernel
theorem dX4_firstGivable_22 : decode cX4_firstGivable 22 = .ok (.aload_n 0, 1) := by decide +kernel
theorem dX4_firstGivable_23 : decode cX4_firstGivable 23 = .ok (.iload_n 2, 1) := by decide +kernel
theorem dX4_firstGivable_24 : decode cX4_firstGivable 24 = .ok (.invokevirtual 91, 3) := by decide +kernel
theorem dX4_firstGivable_27 : decode cX4_firstGivable 27 = .ok (.ifCond .ne 5, 3) := by decide +kernel
theorem dX4_firstGivable_30 : decode cX4_firstGivable 30 = .ok (.iload_n 2, 1) := by decide +kernel
theorem dX4_firstGivable_31 : decode cX4_firstGivable 31 = .ok (.ireturn, 1) := by decide +kernel
theorem dX4_firstGivable_32 : decode cX4_firstGivable 32 = .ok (.iinc 1 1, 3) := by decide +kernel
theorem dX4_firstGivable_35 : decode cX4_firstGivable 35 = .ok (.goto (-33), 3) := by decide +kernel
theorem dX4_firstGivable_38 : decode cX4_firstGivable 38 = .ok (.bipush (-6), 2) := by decide +kernel
theorem dX4_firstGivable_40 : decode cX4_firstGivable 40 = .ok (.ireturn, 1) := by decide +kernel
set_option maxRecDepth 20000 in
theorem ggX4_goThrough_X4_firstGivable : GoodIn wsX4_goThrough wsX4_firstGivable := goodIn_r _ [5, 6, 7, 8, 9, 4, 10, 11, 12, 13, 14, 15, 16, 17, 18, 19, 20, 21, 22, 23, 24, 25, 26, 27, 28, 29, 30, 31, 32, 33, 34, 35, 36, 37, 58, 59, 60, 61, 62, 63, 64, 65, 66, 67, 68, 69, 70, 71, 72, 73] (by decide +kernel) (by decide +kernel)
set_option maxRecDepth 20000 in
theorem gX4_goThrough_X4_firstGivable : GoodIn wsX4_goThrough (wsV RX4 94 RX4 yX4_firstGivable wsX4_firstGivable) := goodIn_app (goodIn_of _ (by decide +kernel)) ggX4_goThrough_X4_firstGivable
set_option maxRecDepth 20000 in
theorem ggX4_goThrough_X4_of : GoodIn wsX4_goThrough wsX4_of := goodIn_r _ [18, 6, 58, 59, 60, 61, 62, 63, 64, 65, 66, 67, 68, 69, 70, 71, 72, 73] (by decide +kernel) (by decide +kernel)
set_option maxRecDepth 20000 in
theorem gX4_goThrough_X4_of : GoodIn wsX4_goThrough (wsV RX4 63 RX4 yX4_of wsX4_of) := goodIn_app (goodIn_of _ (by decide +kernel)) ggX4_goThrough_X4_of
set_option maxRecDepth 20000 in
theorem ggX4_goThrough_X4_lay : GoodIn wsX4_goThrough wsX4_lay := goodIn_r _ [41, 6, 58, 59, 60, 61, 62, 63, 64, 65, 66, 67, 68, 69, 70, 71, 72, 73] (by decide +kernel) (by decide +kernel)
set_option maxRecDepth 20000 in
theorem gX4_goThrough_X4_lay : GoodIn wsX4_goThrough (wsV RX4 88 RX4 yX4_lay wsX4_lay) := goodIn_app (goodIn_of _ (by decide +kernel)) ggX4_goThrough_X4_lay
set_option maxRecDepth 20000 in
theorem ggX4_goThrough_X4_give : GoodIn wsX4_goThrough wsX4_give := goodIn_r _ [45, 46, 47, 48, 4, 49, 6, 50, 51, 52, 53, 58, 59, 60, 61, 62, 63, 64, 65, 66, 67, 68, 69, 70, 71, 72, 73] (by decide +kernel) (by decide +kernel)
set_option maxRecDepth 20000 in
theorem gX4_goThrough_X4_give : GoodIn wsX4_goThrough (wsV RX4 98 RX4 yX4_give wsX4_give) := goodIn_app (goodIn_of _ (by decide +kernel)) ggX4_goThrough_X4_give
set_option maxRecDepth 20000 in
theorem ggX4_goThrough_X4_leaveRow : GoodIn wsX4_goThrough wsX4_leaveRow := goodIn_r _ [57, 6, 11, 12, 13, 4, 14, 38, 39, 40, 41, 58, 59, 60, 61, 62, 63, 64, 65, 66, 67, 68, 69, 70, 71, 72, 73] (by decide +kernel) (by decide +kernel)
set_option maxRecDepth 20000 in
theorem gX4_goThrough_X4_leaveRow : GoodIn wsX4_goThrough (wsV RX4 102 RX4 yX4_leaveRow wsX4_leaveRow) := goodIn_app (goodIn_of _ (by decide +kernel)) ggX4_goThrough_X4_leaveRow
theorem dX4_goThrough_0 : decode cX4_goThrough 0 = .ok (.aload_n 0, 1) := by decide +kernel
theorem dX4_goThrough_1 : decode cX4_goThrough 1 = .ok (.invokevirtual 94, 3) := by decide +kernel
theorem dX4_goThrough_4 : decode cX4_goThrough 4 = .ok (.istore_n 1, 1) := by decide +kernel
theorem dX4_goThrough_5 : decode cX4_goThrough 5 = .ok (.iload_n 1, 1) := by decide +kernel
theorem dX4_goThrough_6 : decode cX4_goThrough 6 = .ok (.ifCond .lt 75, 3) := by decide +kernel
theorem dX4_goThrough_9 : decode cX4_goThrough 9 = .ok (.aload_n 0, 1) := by decide +kernel
theorem dX4_goThrough_10 : decode cX4_goThrough 10 = .ok (.iload_n 1, 1) := by decide +kernel
theorem dX4_goThrough_11 : decode cX4_goThrough 11 = .ok (.iconst 3, 1) := by decide +kernel
theorem dX4_goThrough_12 : decode cX4_goThrough 12 = .ok (.invokevirtual 63, 3) := by decide +kernel
theorem dX4_goThrough_15 : decode cX4_goThrough 15 = .ok (.istore_n 2, 1) := by decide +kernel
theorem dX4_goThrough_16 : decode cX4_goThrough 16 = .ok (.aload_n 0, 1) := by decide +kernel
theorem dX4_goThrough_17 : decode cX4_goThrough 17 = .ok (.iload_n 1, 1) := by decide +kernel
theorem dX4_goThrough_18 : decode cX4_goThrough 18 = .ok (.bipush 7, 2) := by decide +kernel
theorem dX4_goThrough_20 : decode cX4_goThrough 20 = .ok (.iload_n 2, 1) := by decide +kernel
theorem dX4_goThrough_21 : decode cX4_goThrough 21 = .ok (.aload_n 0, 1) := by decide +kernel
theorem dX4_goThrough_22 : decode cX4_goThrough 22 = .ok (.iload_n 1, 1) := by decide +kernel
theorem dX4_goThrough_23 : decode cX4_goThrough 23 = .ok (.bipush 7, 2) := by decide +kernel
theorem dX4_goThrough_25 : decode cX4_goThrough 25 = .ok (.invokevirtual 63, 3) := by decide +kernel
theorem dX4_goThrough_28 : decode cX4_goThrough 28 = .ok (.if_icmp .le 7, 3) := by decide +kernel
theorem dX4_goThrough_31 : decode cX4_goThrough 31 = .ok (.iload_n 2, 1) := by decide +kernel
theorem dX4_goThrough_32 : decode cX4_goThrough 32 = .ok (.goto 10, 3) := by decide +kernel
theorem dX4_goThrough_35 : decode cX4_goThrough 35 = .ok (.aload_n 0, 1) := by decide +kernel
theorem dX4_goThrough_36 : decode cX4_goThrough 36 = .ok (.iload_n 1, 1) := by decide +kernel
theorem dX4_goThrough_37 : decode cX4_goThrough 37 = .ok (.bipush 7, 2) := by decide +kernel
theorem dX4_goThrough_39 : decode cX4_goThrough 39 = .ok (.invokevirtual 63, 3) := by decide +kernel
theorem dX4_goThrough_42 : decode cX4_goThrough 42 = .ok (.invokevirtual 88, 3) := by decide +kernel
theorem dX4_goThrough_45 : decode cX4_goThrough 45 = .ok (.aload_n 0, 1) := by decide +kernel
theorem dX4_goThrough_46 : decode cX4_goThrough 46 = .ok (.iload_n 1, 1) := by decide +kernel
theorem dX4_goThrough_47 : decode cX4_goThrough 47 = .ok (.aload_n 0, 1) := by decide +kernel
theorem dX4_goThrough_48 : decode cX4_goThrough 48 = .ok (.iload_n 1, 1) := by decide +kernel
theorem dX4_goThrough_49 : decode cX4_goThrough 49 = .ok (.iconst 0, 1) := by decide +kernel
theorem dX4_goThrough_50 : decode cX4_goThrough 50 = .ok (.invokevirtual 63, 3) := by decide +kernel
theorem dX4_goThrough_53 : decode cX4_goThrough 53 = .ok (.aload_n 0, 1) := by decide +kernel
theorem dX4_goThrough_54 : decode cX4_goThrough 54 = .ok (.iload_n 1, 1) := by decide +kernel
theorem dX4_goThrough_55 : decode cX4_goThrough 55 = .ok (.iconst 1, 1) := by decide +kernel
theorem dX4_goThrough_56 : decode cX4_goThrough 56 = .ok (.invokevirtual 63, 3) := by decide +kernel
theorem dX4_goThrough_59 : decode cX4_goThrough 59 = .ok (.aload_n 0, 1) := by decide +kernel
theorem dX4_goThrough_60 : decode cX4_goThrough 60 = .ok (.iload_n 1, 1) := by decide +kernel
theorem dX4_goThrough_61 : decode cX4_goThrough 61 = .ok (.iconst 2, 1) := by decide +kernel
theorem dX4_goThrough_62 : decode cX4_goThrough 62 = .ok (.invokevirtual 63, 3) := by decide +kernel
theorem dX4_goThrough_65 : decode cX4_goThrough 65 = .ok (.invokevirtual 98, 3) := by decide +kernel
theorem dX4_goThrough_68 : decode cX4_goThrough 68 = .ok (.aload_n 0, 1) := by decide +kernel
theorem dX4_goThrough_69 : decode cX4_goThrough 69 = .ok (.iload_n 1, 1) := by decide +kernel
theorem dX4_goThrough_70 : decode cX4_goThrough 70 = .ok (.invokevirtual 102, 3) := by decide +kernel
theorem dX4_goThrough_73 : decode cX4_goThrough 73 = .ok (.aload_n 0, 1) := by decide +kernel
theorem dX4_goThrough_74 : decode cX4_goThrough 74 = .ok (.invokevirtual 94, 3) := by decide +kernel
theorem dX4_goThrough_77 : decode cX4_goThrough 77 = .ok (.istore_n 1, 1) := by decide +kernel
theorem dX4_goThrough_78 : decode cX4_goThrough 78 = .ok (.goto (-73), 3) := by decide +kernel
theorem dX4_goThrough_81 : decode cX4_goThrough 81 = .ok (.return_, 1) := by decide +kernel
set_option maxRecDepth 20000 in
theorem ggX4_layWaits_X4_waitsForNow : GoodIn wsX4_layWaits wsX4_waitsForNow := goodIn_r _ [6, 7, 8, 9, 5, 10, 11, 12, 13, 14, 15, 16, 17, 18, 19, 20, 21, 22, 23, 24, 25, 26, 27, 28, 29, 30, 31, 32, 33, 34, 35, 36, 37, 38, 39, 40, 41, 42, 43, 44, 45, 46, 47, 48, 49, 50] (by decide +kernel) (by decide +kernel)
set_option maxRecDepth 20000 in
theorem gX4_layWaits_X4_waitsForNow : GoodIn wsX4_layWaits (wsV RX4 91 RX4 yX4_waitsForNow wsX4_waitsForNow) := goodIn_app (goodIn_of _ (by decide +kernel)) ggX4_layWaits_X4_waitsForNow
theorem dX4_layWaits_0 : decode cX4_layWaits 0 = .ok (.iconst 0, 1) := by decide +kernel
theorem dX4_layWaits_1 : decode cX4_layWaits 1 = .ok (.istore_n 1, 1) := by decide +kernel
theorem dX4_layWaits_2 : decode cX4_layWaits 2 = .ok (.iload_n 1, 1) := by decide +kernel
theorem dX4_layWaits_3 : decode cX4_layWaits 3 = .ok (.bipush 8, 2) := by decide +kernel
theorem dX4_layWaits_5 : decode cX4_layWaits 5 = .ok (.if_icmp .ge 20, 3) := by decide +kernel
theorem dX4_layWaits_8 : decode cX4_layWaits 8 = .ok (.aload_n 0, 1) := by decide +kernel
theorem dX4_layWaits_9 : decode cX4_layWaits 9 = .ok (.getfield 29, 3) := by decide +kernel
theorem dX4_layWaits_12 : decode cX4_layWaits 12 = .ok (.iload_n 1, 1) := by decide +kernel
theorem dX4_layWaits_13 : decode cX4_layWaits 13 = .ok (.aload_n 0, 1) := by decide +kernel
theorem dX4_layWaits_14 : decode cX4_layWaits 14 = .ok (.iload_n 1, 1) := by decide +kernel
theorem dX4_layWaits_15 : decode cX4_layWaits 15 = .ok (.invokevirtual 91, 3) := by decide +kernel
