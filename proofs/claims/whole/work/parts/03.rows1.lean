theorem dX0_init_0 : decode cX0_init 0 = .ok (.aload_n 0, 1) := by decide +kernel
theorem dX0_init_1 : decode cX0_init 1 = .ok (.invokespecial 3, 3) := by decide +kernel
theorem dX0_init_4 : decode cX0_init 4 = .ok (.aload_n 0, 1) := by decide +kernel
theorem dX0_init_5 : decode cX0_init 5 = .ok (.bipush 7, 2) := by decide +kernel
theorem dX0_init_7 : decode cX0_init 7 = .ok (.anewarray 11, 3) := by decide +kernel
theorem dX0_init_10 : decode cX0_init 10 = .ok (.putfield 13, 3) := by decide +kernel
theorem dX0_init_13 : decode cX0_init 13 = .ok (.return_, 1) := by decide +kernel
set_option maxRecDepth 20000 in
theorem ggX0_note_X1_init : GoodIn wsX0_note wsX1_init := goodIn_r _ [7, 8, 9, 10, 11, 12, 13, 14, 15, 16, 17, 18, 19, 20, 21, 22, 23, 24, 40, 41, 42, 43, 44, 45, 46, 47, 48, 49, 50, 51, 52, 53, 54, 55] (by decide +kernel) (by decide +kernel)
set_option maxRecDepth 20000 in
theorem gX0_note_X1_init_n21 : GoodIn wsX0_note (wsX1_init) := ggX0_note_X1_init
set_option maxRecDepth 20000 in
theorem ggX0_note_X1_become : GoodIn wsX0_note wsX1_become := goodIn_r _ [28, 29, 30, 31, 32, 12, 33, 34, 35, 36, 14, 15, 16, 17, 18, 19, 20, 21, 22, 23, 40, 41, 42, 43, 44, 45, 46, 47, 48, 49, 50, 51, 52, 53, 54, 55] (by decide +kernel) (by decide +kernel)
set_option maxRecDepth 20000 in
theorem gX0_note_X1_become : GoodIn wsX0_note (wsV RX0 22 RX1 yX1_become wsX1_become) := goodIn_app (goodIn_of _ (by decide +kernel)) ggX0_note_X1_become
theorem dX0_note_0 : decode cX0_note 0 = .ok (.aload_n 0, 1) := by decide +kernel
theorem dX0_note_1 : decode cX0_note 1 = .ok (.getfield 13, 3) := by decide +kernel
theorem dX0_note_4 : decode cX0_note 4 = .ok (.aload_n 0, 1) := by decide +kernel
theorem dX0_note_5 : decode cX0_note 5 = .ok (.getfield 17, 3) := by decide +kernel
theorem dX0_note_8 : decode cX0_note 8 = .ok (.aaload, 1) := by decide +kernel
theorem dX0_note_9 : decode cX0_note 9 = .ok (.astore_n 2, 1) := by decide +kernel
theorem dX0_note_10 : decode cX0_note 10 = .ok (.aload_n 2, 1) := by decide +kernel
theorem dX0_note_11 : decode cX0_note 11 = .ok (.ifnonnull 21, 3) := by decide +kernel
theorem dX0_note_14 : decode cX0_note 14 = .ok (.new 11, 3) := by decide +kernel
theorem dX0_note_17 : decode cX0_note 17 = .ok (.dup, 1) := by decide +kernel
theorem dX0_note_18 : decode cX0_note 18 = .ok (.invokespecial 21, 3) := by decide +kernel
theorem dX0_note_21 : decode cX0_note 21 = .ok (.astore_n 2, 1) := by decide +kernel
theorem dX0_note_22 : decode cX0_note 22 = .ok (.aload_n 0, 1) := by decide +kernel
theorem dX0_note_23 : decode cX0_note 23 = .ok (.getfield 13, 3) := by decide +kernel
theorem dX0_note_26 : decode cX0_note 26 = .ok (.aload_n 0, 1) := by decide +kernel
theorem dX0_note_27 : decode cX0_note 27 = .ok (.getfield 17, 3) := by decide +kernel
theorem dX0_note_30 : decode cX0_note 30 = .ok (.aload_n 2, 1) := by decide +kernel
theorem dX0_note_31 : decode cX0_note 31 = .ok (.aastore, 1) := by decide +kernel
theorem dX0_note_32 : decode cX0_note 32 = .ok (.aload_n 2, 1) := by decide +kernel
theorem dX0_note_33 : decode cX0_note 33 = .ok (.aload_n 1, 1) := by decide +kernel
theorem dX0_note_34 : decode cX0_note 34 = .ok (.invokevirtual 22, 3) := by decide +kernel
theorem dX0_note_37 : decode cX0_note 37 = .ok (.return_, 1) := by decide +kernel
theorem dX0_settle_0 : decode cX0_settle 0 = .ok (.iload_n 1, 1) := by decide +kernel
theorem dX0_settle_1 : decode cX0_settle 1 = .ok (.ifCond .lt 31, 3) := by decide +kernel
theorem dX0_settle_4 : decode cX0_settle 4 = .ok (.aload_n 0, 1) := by decide +kernel
theorem dX0_settle_5 : decode cX0_settle 5 = .ok (.aload_n 0, 1) := by decide +kernel
theorem dX0_settle_6 : decode cX0_settle 6 = .ok (.getfield 17, 3) := by decide +kernel
theorem dX0_settle_9 : decode cX0_settle 9 = .ok (.iconst 1, 1) := by decide +kernel
theorem dX0_settle_10 : decode cX0_settle 10 = .ok (.iadd, 1) := by decide +kernel
theorem dX0_settle_11 : decode cX0_settle 11 = .ok (.bipush 7, 2) := by decide +kernel
theorem dX0_settle_13 : decode cX0_settle 13 = .ok (.irem, 1) := by decide +kernel
theorem dX0_settle_14 : decode cX0_settle 14 = .ok (.putfield 17, 3) := by decide +kernel
theorem dX0_settle_17 : decode cX0_settle 17 = .ok (.aload_n 0, 1) := by decide +kernel
theorem dX0_settle_18 : decode cX0_settle 18 = .ok (.aload_n 0, 1) := by decide +kernel
theorem dX0_settle_19 : decode cX0_settle 19 = .ok (.getfield 26, 3) := by decide +kernel
theorem dX0_settle_22 : decode cX0_settle 22 = .ok (.iconst 1, 1) := by decide +kernel
theorem dX0_settle_23 : decode cX0_settle 23 = .ok (.iadd, 1) := by decide +kernel
theorem dX0_settle_24 : decode cX0_settle 24 = .ok (.bipush 6, 2) := by decide +kernel
theorem dX0_settle_26 : decode cX0_settle 26 = .ok (.invokestatic 29, 3) := by decide +kernel
theorem dX0_settle_29 : decode cX0_settle 29 = .ok (.putfield 26, 3) := by decide +kernel
theorem dX0_settle_32 : decode cX0_settle 32 = .ok (.iload_n 1, 1) := by decide +kernel
theorem dX0_settle_33 : decode cX0_settle 33 = .ok (.ireturn, 1) := by decide +kernel
set_option maxRecDepth 20000 in
theorem ggX0_goBack_X1_become : GoodIn wsX0_goBack wsX1_become := goodIn_r _ [8, 9, 10, 11, 12, 13, 14, 15, 16, 17, 18, 19, 20, 21, 22, 23, 24, 25, 26, 27, 31, 32, 33, 34, 35, 36, 37, 38, 39, 40, 41, 42, 43, 44, 45, 46] (by decide +kernel) (by decide +kernel)
set_option maxRecDepth 20000 in
theorem gX0_goBack_X1_become : GoodIn wsX0_goBack (wsV RX0 22 RX1 yX1_become wsX1_become) := goodIn_app (goodIn_of _ (by decide +kernel)) ggX0_goBack_X1_become
theorem dX0_goBack_0 : decode cX0_goBack 0 = .ok (.aload_n 0, 1) := by decide +kernel
theorem dX0_goBack_1 : decode cX0_goBack 1 = .ok (.getfield 17, 3) := by decide +kernel
theorem dX0_goBack_4 : decode cX0_goBack 4 = .ok (.bipush 6, 2) := by decide +kernel
theorem dX0_goBack_6 : decode cX0_goBack 6 = .ok (.iadd, 1) := by decide +kernel
theorem dX0_goBack_7 : decode cX0_goBack 7 = .ok (.bipush 7, 2) := by decide +kernel
theorem dX0_goBack_9 : decode cX0_goBack 9 = .ok (.irem, 1) := by decide +kernel
theorem dX0_goBack_10 : decode cX0_goBack 10 = .ok (.istore_n 2, 1) := by decide +kernel
theorem dX0_goBack_11 : decode cX0_goBack 11 = .ok (.aload_n 0, 1) := by decide +kernel
theorem dX0_goBack_12 : decode cX0_goBack 12 = .ok (.getfield 13, 3) := by decide +kernel
theorem dX0_goBack_15 : decode cX0_goBack 15 = .ok (.iload_n 2, 1) := by decide +kernel
theorem dX0_goBack_16 : decode cX0_goBack 16 = .ok (.aaload, 1) := by decide +kernel
theorem dX0_goBack_17 : decode cX0_goBack 17 = .ok (.astore_n 3, 1) := by decide +kernel
theorem dX0_goBack_18 : decode cX0_goBack 18 = .ok (.aload_n 0, 1) := by decide +kernel
theorem dX0_goBack_19 : decode cX0_goBack 19 = .ok (.getfield 26, 3) := by decide +kernel
theorem dX0_goBack_22 : decode cX0_goBack 22 = .ok (.ifCond .eq 7, 3) := by decide +kernel
theorem dX0_goBack_25 : decode cX0_goBack 25 = .ok (.aload_n 3, 1) := by decide +kernel
theorem dX0_goBack_26 : decode cX0_goBack 26 = .ok (.ifnonnull 4, 3) := by decide +kernel
theorem dX0_goBack_29 : decode cX0_goBack 29 = .ok (.return_, 1) := by decide +kernel
theorem dX0_goBack_30 : decode cX0_goBack 30 = .ok (.aload_n 1, 1) := by decide +kernel
theorem dX0_goBack_31 : decode cX0_goBack 31 = .ok (.aload_n 3, 1) := by decide +kernel
theorem dX0_goBack_32 : decode cX0_goBack 32 = .ok (.invokevirtual 22, 3) := by decide +kernel
theorem dX0_goBack_35 : decode cX0_goBack 35 = .ok (.aload_n 0, 1) := by decide +kernel
theorem dX0_goBack_36 : decode cX0_goBack 36 = .ok (.iload_n 2, 1) := by decide +kernel
theorem dX0_goBack_37 : decode cX0_goBack 37 = .ok (.putfield 17, 3) := by decide +kernel
theorem dX0_goBack_40 : decode cX0_goBack 40 = .ok (.aload_n 0, 1) := by decide +kernel
theorem dX0_goBack_41 : decode cX0_goBack 41 = .ok (.dup, 1) := by decide +kernel
theorem dX0_goBack_42 : decode cX0_goBack 42 = .ok (.getfield 26, 3) := by decide +kernel
theorem dX0_goBack_45 : decode cX0_goBack 45 = .ok (.iconst 1, 1) := by decide +kernel
theorem dX0_goBack_46 : decode cX0_goBack 46 = .ok (.isub, 1) := by decide +kernel
theorem dX0_goBack_47 : decode cX0_goBack 47 = .ok (.putfield 26, 3) := by decide +kernel
theorem dX0_goBack_50 : decode cX0_goBack 50 = .ok (.return_, 1) := by decide +kernel
theorem dX1_init_0 : decode cX1_init 0 = .ok (.aload_n 0, 1) := by decide +kernel
theorem dX1_init_1 : decode cX1_init 1 = .ok (.invokespecial 3, 3) := by decide +kernel
theorem dX1_init_4 : decode cX1_init 4 = .ok (.aload_n 0, 1) := by decide +kernel
theorem dX1_init_5 : decode cX1_init 5 = .ok (.iconst 3, 1) := by decide +kernel
theorem dX1_init_6 : decode cX1_init 6 = .ok (.newarray .int, 2) := by decide +kernel
theorem dX1_init_8 : decode cX1_init 8 = .ok (.putfield 9, 3) := by decide +kernel
theorem dX1_init_11 : decode cX1_init 11 = .ok (.aload_n 0, 1) := by decide +kernel
theorem dX1_init_12 : decode cX1_init 12 = .ok (.iconst 4, 1) := by decide +kernel
theorem dX1_init_13 : decode cX1_init 13 = .ok (.sipush 300, 3) := by decide +kernel
theorem dX1_init_16 : decode cX1_init 16 = .ok (.multianewarray 15 2, 4) := by decide +kernel
theorem dX1_init_20 : decode cX1_init 20 = .ok (.putfield 17, 3) := by decide +kernel
theorem dX1_init_23 : decode cX1_init 23 = .ok (.aload_n 0, 1) := by decide +kernel
theorem dX1_init_24 : decode cX1_init 24 = .ok (.bipush 8, 2) := by decide +kernel
theorem dX1_init_26 : decode cX1_init 26 = .ok (.newarray .int, 2) := by decide +kernel
theorem dX1_init_28 : decode cX1_init 28 = .ok (.putfield 20, 3) := by decide +kernel
theorem dX1_init_31 : decode cX1_init 31 = .ok (.aload_n 0, 1) := by decide +kernel
theorem dX1_init_32 : decode cX1_init 32 = .ok (.bipush 8, 2) := by decide +kernel
theorem dX1_init_34 : decode cX1_init 34 = .ok (.newarray .int, 2) := by decide +kernel
theorem dX1_init_36 : decode cX1_init 36 = .ok (.putfield 23, 3) := by decide +kernel
theorem dX1_init_39 : decode cX1_init 39 = .ok (.aload_n 0, 1) := by decide +kernel
theorem dX1_init_40 : decode cX1_init 40 = .ok (.bipush 8, 2) := by decide +kernel
theorem dX1_init_42 : decode cX1_init 42 = .ok (.newarray .int, 2) := by decide +kernel
theorem dX1_init_44 : decode cX1_init 44 = .ok (.putfield 26, 3) := by decide +kernel
theorem dX1_init_47 : decode cX1_init 47 = .ok (.aload_n 0, 1) := by decide +kernel
theorem dX1_init_48 : decode cX1_init 48 = .ok (.bipush 8, 2) := by decide +kernel
theorem dX1_init_50 : decode cX1_init 50 = .ok (.newarray .int, 2) := by decide +kernel
theorem dX1_init_52 : decode cX1_init 52 = .ok (.putfield 29, 3) := by decide +kernel
theorem dX1_init_55 : decode cX1_init 55 = .ok (.aload_n 0, 1) := by decide +kernel
theorem dX1_init_56 : decode cX1_init 56 = .ok (.bipush 8, 2) := by decide +kernel
theorem dX1_init_58 : decode cX1_init 58 = .ok (.newarray .int, 2) := by decide +kernel
theorem dX1_init_60 : decode cX1_init 60 = .ok (.putfield 32, 3) := by decide +kernel
theorem dX1_init_63 : decode cX1_init 63 = .ok (.aload_n 0, 1) := by decide +kernel
theorem dX1_init_64 : decode cX1_init 64 = .ok (.bipush 8, 2) := by decide +kernel
theorem dX1_init_66 : decode cX1_init 66 = .ok (.newarray .int, 2) := by decide +kernel
theorem dX1_init_68 : decode cX1_init 68 = .ok (.putfield 35, 3) := by decide +kernel
theorem dX1_init_71 : decode cX1_init 71 = .ok (.aload_n 0, 1) := by decide +kernel
theorem dX1_init_72 : decode cX1_init 72 = .ok (.bipush 8, 2) := by decide +kernel
theorem dX1_init_74 : decode cX1_init 74 = .ok (.newarray .int, 2) := by decide +kernel
theorem dX1_init_76 : decode cX1_init 76 = .ok (.putfield 38, 3) := by decide +kernel
theorem dX1_init_79 : decode cX1_init 79 = .ok (.aload_n 0, 1) := by decide +kernel
theorem dX1_init_80 : decode cX1_init 80 = .ok (.bipush 8, 2) := by decide +kernel
theorem dX1_init_82 : decode cX1_init 82 = .ok (.newarray .int, 2) := by decide +kernel
theorem dX1_init_84 : decode cX1_init 84 = .ok (.putfield 41, 3) := by decide +kernel
theorem dX1_init_87 : decode cX1_init 87 = .ok (.aload_n 0, 1) := by decide +kernel
theorem dX1_init_88 : decode cX1_init 88 = .ok (.bipush 8, 2) := by decide +kernel
theorem dX1_init_90 : decode cX1_init 90 = .ok (.newarray .int, 2) := by decide +kernel
theorem dX1_init_92 : decode cX1_init 92 = .ok (.putfield 44, 3) := by decide +kernel
theorem dX1_init_95 : decode cX1_init 95 = .ok (.aload_n 0, 1) := by decide +kernel
theorem dX1_init_96 : decode cX1_init 96 = .ok (.bipush 8, 2) := by decide +kernel
theorem dX1_init_98 : decode cX1_init 98 = .ok (.newarray .int, 2) := by decide +kernel
theorem dX1_init_100 : decode cX1_init 100 = .ok (.putfield 47, 3) := by decide +kernel
theorem dX1_init_103 : decode cX1_init 103 = .ok (.return_, 1) := by decide +kernel
theorem dX1_become_0 : decode cX1_become 0 = .ok (.aload_n 0, 1) := by decide +kernel
theorem dX1_become_1 : decode cX1_become 1 = .ok (.aload_n 1, 1) := by decide +kernel
theorem dX1_become_2 : decode cX1_become 2 = .ok (.getfield 50, 3) := by decide +kernel
theorem dX1_become_5 : decode cX1_become 5 = .ok (.putfield 50, 3) := by decide +kernel
theorem dX1_become_8 : decode cX1_become 8 = .ok (.aload_n 0, 1) := by decide +kernel
theorem dX1_become_9 : decode cX1_become 9 = .ok (.aload_n 1, 1) := by decide +kernel
theorem dX1_become_10 : decode cX1_become 10 = .ok (.getfield 54, 3) := by decide +kernel
theorem dX1_become_13 : decode cX1_become 13 = .ok (.putfield 54, 3) := by decide +kernel
theorem dX1_become_16 : decode cX1_become 16 = .ok (.aload_n 0, 1) := by decide +kernel
theorem dX1_become_17 : decode cX1_become 17 = .ok (.aload_n 1, 1) := by decide +kernel
theorem dX1_become_18 : decode cX1_become 18 = .ok (.getfield 57, 3) := by decide +kernel
theorem dX1_become_21 : decode cX1_become 21 = .ok (.putfield 57, 3) := by decide +kernel
theorem dX1_become_24 : decode cX1_become 24 = .ok (.aload_n 0, 1) := by decide +kernel
theorem dX1_become_25 : decode cX1_become 25 = .ok (.aload_n 1, 1) := by decide +kernel
theorem dX1_become_26 : decode cX1_become 26 = .ok (.getfield 60, 3) := by decide +kernel
theorem dX1_become_29 : decode cX1_become 29 = .ok (.putfield 60, 3) := by decide +kernel
theorem dX1_become_32 : decode cX1_become 32 = .ok (.aload_n 1, 1) := by decide +kernel
theorem dX1_become_33 : decode cX1_become 33 = .ok (.getfield 9, 3) := by decide +kernel
theorem dX1_become_36 : decode cX1_become 36 = .ok (.iconst 0, 1) := by decide +kernel
theorem dX1_become_37 : decode cX1_become 37 = .ok (.aload_n 0, 1) := by decide +kernel
theorem dX1_become_38 : decode cX1_become 38 = .ok (.getfield 9, 3) := by decide +kernel
theorem dX1_become_41 : decode cX1_become 41 = .ok (.iconst 0, 1) := by decide +kernel
theorem dX1_become_42 : decode cX1_become 42 = .ok (.iconst 3, 1) := by decide +kernel
theorem dX1_become_43 : decode cX1_become 43 = .ok (.invokestatic 63, 3) := by decide +kernel
theorem dX1_become_46 : decode cX1_become 46 = .ok (.iconst 1, 1) := by decide +kernel
theorem dX1_become_47 : decode cX1_become 47 = .ok (.istore_n 2, 1) := by decide +kernel
theorem dX1_become_48 : decode cX1_become 48 = .ok (.iload_n 2, 1) := by decide +kernel
theorem dX1_become_49 : decode cX1_become 49 = .ok (.iconst 3, 1) := by decide +kernel
theorem dX1_become_50 : decode cX1_become 50 = .ok (.if_icmp .gt 29, 3) := by decide +kernel
theorem dX1_become_53 : decode cX1_become 53 = .ok (.aload_n 1, 1) := by decide +kernel
theorem dX1_become_54 : decode cX1_become 54 = .ok (.getfield 17, 3) := by decide +kernel
theorem dX1_become_57 : decode cX1_become 57 = .ok (.iload_n 2, 1) := by decide +kernel
theorem dX1_become_58 : decode cX1_become 58 = .ok (.aaload, 1) := by decide +kernel
theorem dX1_become_59 : decode cX1_become 59 = .ok (.iconst 0, 1) := by decide +kernel
theorem dX1_become_60 : decode cX1_become 60 = .ok (.aload_n 0, 1) := by decide +kernel
theorem dX1_become_61 : decode cX1_become 61 = .ok (.getfield 17, 3) := by decide +kernel
theorem dX1_become_64 : decode cX1_become 64 = .ok (.iload_n 2, 1) := by decide +kernel
theorem dX1_become_65 : decode cX1_become 65 = .ok (.aaload, 1) := by decide +kernel
theorem dX1_become_66 : decode cX1_become 66 = .ok (.iconst 0, 1) := by decide +kernel
theorem dX1_become_67 : decode cX1_become 67 = .ok (.sipush 300, 3) := by decide +kernel
theorem dX1_become_70 : decode cX1_become 70 = .ok (.invokestatic 63, 3) := by decide +kernel
theorem dX1_become_73 : decode cX1_become 73 = .ok (.iinc 2 1, 3) := by decide +kernel
theorem dX1_become_76 : decode cX1_become 76 = .ok (.goto (-28), 3) := by decide +kernel
theorem dX1_become_79 : decode cX1_become 79 = .ok (.aload_n 1, 1) := by decide +kernel
theorem dX1_become_80 : decode cX1_become 80 = .ok (.getfield 20, 3) := by decide +kernel
theorem dX1_become_83 : decode cX1_become 83 = .ok (.iconst 0, 1) := by decide +kernel
theorem dX1_become_84 : decode cX1_become 84 = .ok (.aload_n 0, 1) := by decide +kernel
theorem dX1_become_85 : decode cX1_become 85 = .ok (.getfield 20, 3) := by decide +kernel
theorem dX1_become_88 : decode cX1_become 88 = .ok (.iconst 0, 1) := by decide +kernel
theorem dX1_become_89 : decode cX1_become 89 = .ok (.bipush 8, 2) := by decide +kernel
theorem dX1_become_91 : decode cX1_become 91 = .ok (.invokestatic 63, 3) := by decide +kernel
theorem dX1_become_94 : decode cX1_become 94 = .ok (.aload_n 1, 1) := by decide +kernel
theorem dX1_become_95 : decode cX1_become 95 = .ok (.getfield 23, 3) := by decide +kernel
theorem dX1_become_98 : decode cX1_become 98 = .ok (.iconst 0, 1) := by decide +kernel
theorem dX1_become_99 : decode cX1_become 99 = .ok (.aload_n 0, 1) := by decide +kernel
theorem dX1_become_100 : decode cX1_become 100 = .ok (.getfield 23, 3) := by decide +kernel
theorem dX1_become_103 : decode cX1_become 103 = .ok (.iconst 0, 1) := by decide +kernel
theorem dX1_become_104 : decode cX1_become 104 = .ok (.bipush 8, 2) := by decide +kernel
theorem dX1_become_106 : decode cX1_become 106 = .ok (.invokestatic 63, 3) := by decide +kernel
theorem dX1_become_109 : decode cX1_become 109 = .ok (.aload_n 1, 1) := by decide +kernel
theorem dX1_become_110 : decode cX1_become 110 = .ok (.getfield 26, 3) := by decide +kernel
theorem dX1_become_113 : decode cX1_become 113 = .ok (.iconst 0, 1) := by decide +kernel
theorem dX1_become_114 : decode cX1_become 114 = .ok (.aload_n 0, 1) := by decide +kernel
theorem dX1_become_115 : decode cX1_become 115 = .ok (.getfield 26, 3) := by decide +kernel
theorem dX1_become_118 : decode cX1_become 118 = .ok (.iconst 0, 1) := by decide +kernel
theorem dX1_become_119 : decode cX1_become 119 = .ok (.bipush 8, 2) := by decide +kernel
theorem dX1_become_121 : decode cX1_become 121 = .ok (.invokestatic 63, 3) := by decide +kernel
theorem dX1_become_124 : decode cX1_become 124 = .ok (.aload_n 1, 1) := by decide +kernel
theorem dX1_become_125 : decode cX1_become 125 = .ok (.getfield 29, 3) := by decide +kernel
theorem dX1_become_128 : decode cX1_become 128 = .ok (.iconst 0, 1) := by decide +kernel
theorem dX1_become_129 : decode cX1_become 129 = .ok (.aload_n 0, 1) := by decide +kernel
theorem dX1_become_130 : decode cX1_become 130 = .ok (.getfield 29, 3) := by decide +kernel
theorem dX1_become_133 : decode cX1_become 133 = .ok (.iconst 0, 1) := by decide +kernel
theorem dX1_become_134 : decode cX1_become 134 = .ok (.bipush 8, 2) := by decide +kernel
theorem dX1_become_136 : decode cX1_become 136 = .ok (.invokestatic 63, 3) := by decide +kernel
theorem dX1_become_139 : decode cX1_become 139 = .ok (.aload_n 1, 1) := by decide +kernel
theorem dX1_become_140 : decode cX1_become 140 = .ok (.getfield 32, 3) := by decide +kernel
theorem dX1_become_143 : decode cX1_become 143 = .ok (.iconst 0, 1) := by decide +kernel
theorem dX1_become_144 : decode cX1_become 144 = .ok (.aload_n 0, 1) := by decide +kernel
theorem dX1_become_145 : decode cX1_become 145 = .ok (.getfield 32, 3) := by decide +kernel
theorem dX1_become_148 : decode cX1_become 148 = .ok (.iconst 0, 1) := by decide +kernel
theorem dX1_become_149 : decode cX1_become 149 = .ok (.bipush 8, 2) := by decide +kernel
theorem dX1_become_151 : decode cX1_become 151 = .ok (.invokestatic 63, 3) := by decide +kernel
theorem dX1_become_154 : decode cX1_become 154 = .ok (.aload_n 1, 1) := by decide +kernel
theorem dX1_become_155 : decode cX1_become 155 = .ok (.getfield 35, 3) := by decide +kernel
theorem dX1_become_158 : decode cX1_become 158 = .ok (.iconst 0, 1) := by decide +kernel
theorem dX1_become_159 : decode cX1_become 159 = .ok (.aload_n 0, 1) := by decide +kernel
theorem dX1_become_160 : decode cX1_become 160 = .ok (.getfield 35, 3) := by decide +kernel
theorem dX1_become_163 : decode cX1_become 163 = .ok (.iconst 0, 1) := by decide +kernel
theorem dX1_become_164 : decode cX1_become 164 = .ok (.bipush 8, 2) := by decide +kernel
theorem dX1_become_166 : decode cX1_become 166 = .ok (.invokestatic 63, 3) := by decide +kernel
theorem dX1_become_169 : decode cX1_become 169 = .ok (.aload_n 1, 1) := by decide +kernel
theorem dX1_become_170 : decode cX1_become 170 = .ok (.getfield 38, 3) := by decide +kernel
theorem dX1_become_173 : decode cX1_become 173 = .ok (.iconst 0, 1) := by decide +kernel
theorem dX1_become_174 : decode cX1_become 174 = .ok (.aload_n 0, 1) := by decide +kernel
theorem dX1_become_175 : decode cX1_become 175 = .ok (.getfield 38, 3) := by decide +kernel
theorem dX1_become_178 : decode cX1_become 178 = .ok (.iconst 0, 1) := by decide +kernel
theorem dX1_become_179 : decode cX1_become 179 = .ok (.bipush 8, 2) := by decide +kernel
theorem dX1_become_181 : decode cX1_become 181 = .ok (.invokestatic 63, 3) := by decide +kernel
theorem dX1_become_184 : decode cX1_become 184 = .ok (.aload_n 1, 1) := by decide +kernel
theorem dX1_become_185 : decode cX1_become 185 = .ok (.getfield 41, 3) := by decide +kernel
theorem dX1_become_188 : decode cX1_become 188 = .ok (.iconst 0, 1) := by decide +kernel
theorem dX1_become_189 : decode cX1_become 189 = .ok (.aload_n 0, 1) := by decide +kernel
theorem dX1_become_190 : decode cX1_become 190 = .ok (.getfield 41, 3) := by decide +kernel
theorem dX1_become_193 : decode cX1_become 193 = .ok (.iconst 0, 1) := by decide +kernel
theorem dX1_become_194 : decode cX1_become 194 = .ok (.bipush 8, 2) := by decide +kernel
theorem dX1_become_196 : decode cX1_become 196 = .ok (.invokestatic 63, 3) := by decide +kernel
theorem dX1_become_199 : decode cX1_become 199 = .ok (.aload_n 1, 1) := by decide +kernel
theorem dX1_become_200 : decode cX1_become 200 = .ok (.getfield 44, 3) := by decide +kernel
theorem dX1_become_203 : decode cX1_become 203 = .ok (.iconst 0, 1) := by decide +kernel
theorem dX1_become_204 : decode cX1_become 204 = .ok (.aload_n 0, 1) := by decide +kernel
theorem dX1_become_205 : decode cX1_become 205 = .ok (.getfield 44, 3) := by decide +kernel
theorem dX1_become_208 : decode cX1_become 208 = .ok (.iconst 0, 1) := by decide +kernel
theorem dX1_become_209 : decode cX1_become 209 = .ok (.bipush 8, 2) := by decide +kernel
theorem dX1_become_211 : decode cX1_become 211 = .ok (.invokestatic 63, 3) := by decide +kernel
theorem dX1_become_214 : decode cX1_become 214 = .ok (.return_, 1) := by decide +kernel
theorem dX1_change_0 : decode cX1_change 0 = .ok (.iload_n 1, 1) := by decide +kernel
theorem dX1_change_1 : decode cX1_change 1 = .ok (.ifCond .lt 8, 3) := by decide +kernel
theorem dX1_change_4 : decode cX1_change 4 = .ok (.iload_n 1, 1) := by decide +kernel
theorem dX1_change_5 : decode cX1_change 5 = .ok (.iconst 2, 1) := by decide +kernel
theorem dX1_change_6 : decode cX1_change 6 = .ok (.if_icmp .le 6, 3) := by decide +kernel
theorem dX1_change_9 : decode cX1_change 9 = .ok (.bipush (-2), 2) := by decide +kernel
theorem dX1_change_11 : decode cX1_change 11 = .ok (.ireturn, 1) := by decide +kernel
theorem dX1_change_12 : decode cX1_change 12 = .ok (.iload_n 1, 1) := by decide +kernel
theorem dX1_change_13 : decode cX1_change 13 = .ok (.iconst 2, 1) := by decide +kernel
theorem dX1_change_14 : decode cX1_change 14 = .ok (.if_icmp .ne 9, 3) := by decide +kernel
theorem dX1_change_17 : decode cX1_change 17 = .ok (.sipush 200, 3) := by decide +kernel
theorem dX1_change_20 : decode cX1_change 20 = .ok (.goto 4, 3) := by decide +kernel
theorem dX1_change_23 : decode cX1_change 23 = .ok (.iconst 1, 1) := by decide +kernel
theorem dX1_change_24 : decode cX1_change 24 = .ok (.istore_n 3, 1) := by decide +kernel
theorem dX1_change_25 : decode cX1_change 25 = .ok (.iload_n 2, 1) := by decide +kernel
theorem dX1_change_26 : decode cX1_change 26 = .ok (.ifCond .lt 8, 3) := by decide +kernel
theorem dX1_change_29 : decode cX1_change 29 = .ok (.iload_n 2, 1) := by decide +kernel
theorem dX1_change_30 : decode cX1_change 30 = .ok (.iload_n 3, 1) := by decide +kernel
theorem dX1_change_31 : decode cX1_change 31 = .ok (.if_icmp .le 6, 3) := by decide +kernel
theorem dX1_change_34 : decode cX1_change 34 = .ok (.bipush (-2), 2) := by decide +kernel
theorem dX1_change_36 : decode cX1_change 36 = .ok (.ireturn, 1) := by decide +kernel
theorem dX1_change_37 : decode cX1_change 37 = .ok (.iload_n 1, 1) := by decide +kernel
theorem dX1_change_38 : decode cX1_change 38 = .ok (.ifCond .ne 13, 3) := by decide +kernel
theorem dX1_change_41 : decode cX1_change 41 = .ok (.aload_n 0, 1) := by decide +kernel
theorem dX1_change_42 : decode cX1_change 42 = .ok (.getfield 54, 3) := by decide +kernel
theorem dX1_change_45 : decode cX1_change 45 = .ok (.ifCond .le 6, 3) := by decide +kernel
theorem dX1_change_48 : decode cX1_change 48 = .ok (.bipush (-5), 2) := by decide +kernel
theorem dX1_change_50 : decode cX1_change 50 = .ok (.ireturn, 1) := by decide +kernel
theorem dX1_change_51 : decode cX1_change 51 = .ok (.aload_n 0, 1) := by decide +kernel
theorem dX1_change_52 : decode cX1_change 52 = .ok (.getfield 9, 3) := by decide +kernel
theorem dX1_change_55 : decode cX1_change 55 = .ok (.iload_n 1, 1) := by decide +kernel
theorem dX1_change_56 : decode cX1_change 56 = .ok (.iaload, 1) := by decide +kernel
theorem dX1_change_57 : decode cX1_change 57 = .ok (.istore 4, 2) := by decide +kernel
theorem dX1_change_59 : decode cX1_change 59 = .ok (.aload_n 0, 1) := by decide +kernel
theorem dX1_change_60 : decode cX1_change 60 = .ok (.getfield 9, 3) := by decide +kernel
theorem dX1_change_63 : decode cX1_change 63 = .ok (.iload_n 1, 1) := by decide +kernel
theorem dX1_change_64 : decode cX1_change 64 = .ok (.iload_n 2, 1) := by decide +kernel
theorem dX1_change_65 : decode cX1_change 65 = .ok (.iastore, 1) := by decide +kernel
theorem dX1_change_66 : decode cX1_change 66 = .ok (.iload 4, 2) := by decide +kernel
theorem dX1_change_68 : decode cX1_change 68 = .ok (.ireturn, 1) := by decide +kernel
set_option maxRecDepth 20000 in
theorem ggX1_ask_X3_isOwner : GoodIn wsX1_ask wsX3_isOwner := goodIn_r _ [7] (by decide +kernel) (by decide +kernel)
set_option maxRecDepth 20000 in
theorem gX1_ask_X3_isOwner_n69 : GoodIn wsX1_ask (wsX3_isOwner) := ggX1_ask_X3_isOwner
set_option maxRecDepth 20000 in
theorem ggX1_ask_X3_isLock : GoodIn wsX1_ask wsX3_isLock := goodIn_r _ [9] (by decide +kernel) (by decide +kernel)
set_option maxRecDepth 20000 in
theorem gX1_ask_X3_isLock_n73 : GoodIn wsX1_ask (wsX3_isLock) := ggX1_ask_X3_isLock
set_option maxRecDepth 20000 in
theorem ggX1_ask_X3_isRange : GoodIn wsX1_ask wsX3_isRange := goodIn_r _ [11, 12, 13, 6, 14] (by decide +kernel) (by decide +kernel)
set_option maxRecDepth 20000 in
theorem gX1_ask_X3_isRange_n76 : GoodIn wsX1_ask (wsX3_isRange) := ggX1_ask_X3_isRange
set_option maxRecDepth 20000 in
theorem ggX1_ask_X1_inWay : GoodIn wsX1_ask wsX1_inWay := goodIn_r _ [19, 20, 3, 21, 1, 22, 23, 24, 25, 26, 27, 28, 29, 30, 31, 6, 32, 33, 34, 35, 18, 36, 95, 96, 97, 98, 99, 100, 101, 102, 103, 104, 105, 106, 107, 108, 109, 110] (by decide +kernel) (by decide +kernel)
set_option maxRecDepth 20000 in
theorem gX1_ask_X1_inWay : GoodIn wsX1_ask (wsV RX1 80 RX1 yX1_inWay wsX1_inWay) := goodIn_app (goodIn_of _ (by decide +kernel)) ggX1_ask_X1_inWay
set_option maxRecDepth 20000 in
theorem ggX1_ask_X1_give : GoodIn wsX1_ask wsX1_give := goodIn_r _ [40, 41, 42, 43, 44, 18, 45, 20, 95, 96, 97, 98, 99, 100, 101, 102, 103, 104, 105, 106, 107, 108, 109, 110] (by decide +kernel) (by decide +kernel)
set_option maxRecDepth 20000 in
theorem gX1_ask_X1_give : GoodIn wsX1_ask (wsV RX1 84 RX1 yX1_give wsX1_give) := goodIn_app (goodIn_of _ (by decide +kernel)) ggX1_ask_X1_give
set_option maxRecDepth 20000 in
theorem ggX1_ask_X1_goThroughRow : GoodIn wsX1_ask wsX1_goThroughRow := goodIn_r _ [49, 2, 21, 1, 22, 27, 50, 51, 23, 24, 25, 26, 52, 53, 54, 18, 55, 15, 16, 17, 19, 20, 3, 28, 29, 30, 31, 6, 32, 33, 34, 35, 36, 37, 38, 39, 40, 41, 42, 43, 44, 45, 56, 57, 58, 59, 60, 61, 62, 63, 95, 96, 97, 98, 99, 100, 101, 102, 103, 104, 105, 106, 107, 108, 109, 110] (by decide +kernel) (by decide +kernel)
set_option maxRecDepth 20000 in
theorem gX1_ask_X1_goThroughRow : GoodIn wsX1_ask (wsV RX1 88 RX1 yX1_goThroughRow wsX1_goThroughRow) := goodIn_app (goodIn_of _ (by decide +kernel)) ggX1_ask_X1_goThroughRow
set_option maxRecDepth 20000 in
theorem ggX1_ask_X1_join : GoodIn wsX1_ask wsX1_join := goodIn_r _ [67, 2, 21, 1, 22, 27, 51, 95, 96, 97, 98, 99, 100, 101, 102, 103, 104, 105, 106, 107, 108, 109, 110] (by decide +kernel) (by decide +kernel)
set_option maxRecDepth 20000 in
theorem gX1_ask_X1_join : GoodIn wsX1_ask (wsV RX1 92 RX1 yX1_join wsX1_join) := goodIn_app (goodIn_of _ (by decide +kernel)) ggX1_ask_X1_join
set_option maxRecDepth 20000 in
theorem ggX1_ask_X1_ringOf : GoodIn wsX1_ask wsX1_ringOf := goodIn_r _ [71, 72, 2, 21, 52, 53, 54, 18, 55, 1, 22, 27, 15, 16, 17, 19, 20, 3, 23, 24, 25, 26, 28, 29, 30, 31, 6, 32, 33, 34, 35, 36, 95, 96, 97, 98, 99, 100, 101, 102, 103, 104, 105, 106, 107, 108, 109, 110] (by decide +kernel) (by decide +kernel)
set_option maxRecDepth 20000 in
theorem gX1_ask_X1_ringOf : GoodIn wsX1_ask (wsV RX1 95 RX1 yX1_ringOf wsX1_ringOf) := goodIn_app (goodIn_of _ (by decide +kernel)) ggX1_ask_X1_ringOf
set_option maxRecDepth 20000 in
theorem ggX1_ask_X1_quitRow : GoodIn wsX1_ask wsX1_quitRow := goodIn_r _ [59, 2, 21, 1, 60, 61, 62, 18, 63, 95, 96, 97, 98, 99, 100, 101, 102, 103, 104, 105, 106, 107, 108, 109, 110] (by decide +kernel) (by decide +kernel)
set_option maxRecDepth 20000 in
theorem gX1_ask_X1_quitRow : GoodIn wsX1_ask (wsV RX1 99 RX1 yX1_quitRow wsX1_quitRow) := goodIn_app (goodIn_of _ (by decide +kernel)) ggX1_ask_X1_quitRow
set_option maxRecDepth 20000 in
theorem ggX1_ask_X1_leastHarmed : GoodIn wsX1_ask wsX1_leastHarmed := goodIn_r _ [76, 31, 6, 32, 77, 78, 79, 18, 80, 81, 82, 83, 84, 2, 21, 22, 27, 1, 85, 86, 87, 88, 20, 95, 96, 97, 98, 99, 100, 101, 102, 103, 104, 105, 106, 107, 108, 109, 110] (by decide +kernel) (by decide +kernel)
set_option maxRecDepth 20000 in
theorem gX1_ask_X1_leastHarmed : GoodIn wsX1_ask (wsV RX1 103 RX1 yX1_leastHarmed wsX1_leastHarmed) := goodIn_app (goodIn_of _ (by decide +kernel)) ggX1_ask_X1_leastHarmed
set_option maxRecDepth 20000 in
theorem ggX1_ask_X1_giveUp : GoodIn wsX1_ask wsX1_giveUp := goodIn_r _ [92, 93, 94, 5, 6, 7, 81, 82, 83, 18, 84, 2, 21, 22, 27, 1, 85, 86, 87, 88, 20, 31, 32, 42, 43, 44, 45, 95, 96, 97, 98, 99, 100, 101, 102, 103, 104, 105, 106, 107, 108, 109, 110] (by decide +kernel) (by decide +kernel)
set_option maxRecDepth 20000 in
theorem gX1_ask_X1_giveUp : GoodIn wsX1_ask (wsV RX1 106 RX1 yX1_giveUp wsX1_giveUp) := goodIn_app (goodIn_of _ (by decide +kernel)) ggX1_ask_X1_giveUp
theorem dX1_ask_0 : decode cX1_ask 0 = .ok (.iload_n 1, 1) := by decide +kernel
theorem dX1_ask_1 : decode cX1_ask 1 = .ok (.invokestatic 69, 3) := by decide +kernel
theorem dX1_ask_4 : decode cX1_ask 4 = .ok (.ifCond .ne 5, 3) := by decide +kernel
theorem dX1_ask_7 : decode cX1_ask 7 = .ok (.iconst (-1), 1) := by decide +kernel
theorem dX1_ask_8 : decode cX1_ask 8 = .ok (.ireturn, 1) := by decide +kernel
theorem dX1_ask_9 : decode cX1_ask 9 = .ok (.iload_n 2, 1) := by decide +kernel
theorem dX1_ask_10 : decode cX1_ask 10 = .ok (.invokestatic 73, 3) := by decide +kernel
theorem dX1_ask_13 : decode cX1_ask 13 = .ok (.ifCond .eq 23, 3) := by decide +kernel
theorem dX1_ask_16 : decode cX1_ask 16 = .ok (.iload_n 3, 1) := by decide +kernel
theorem dX1_ask_17 : decode cX1_ask 17 = .ok (.iload 4, 2) := by decide +kernel
theorem dX1_ask_19 : decode cX1_ask 19 = .ok (.invokestatic 76, 3) := by decide +kernel
theorem dX1_ask_22 : decode cX1_ask 22 = .ok (.ifCond .eq 14, 3) := by decide +kernel
theorem dX1_ask_25 : decode cX1_ask 25 = .ok (.iload 5, 2) := by decide +kernel
theorem dX1_ask_27 : decode cX1_ask 27 = .ok (.ifCond .lt 9, 3) := by decide +kernel
theorem dX1_ask_30 : decode cX1_ask 30 = .ok (.iload 5, 2) := by decide +kernel
theorem dX1_ask_32 : decode cX1_ask 32 = .ok (.iconst 1, 1) := by decide +kernel
theorem dX1_ask_33 : decode cX1_ask 33 = .ok (.if_icmp .le 6, 3) := by decide +kernel
theorem dX1_ask_36 : decode cX1_ask 36 = .ok (.bipush (-2), 2) := by decide +kernel
theorem dX1_ask_38 : decode cX1_ask 38 = .ok (.ireturn, 1) := by decide +kernel
theorem dX1_ask_39 : decode cX1_ask 39 = .ok (.aload_n 0, 1) := by decide +kernel
theorem dX1_ask_40 : decode cX1_ask 40 = .ok (.getfield 23, 3) := by decide +kernel
theorem dX1_ask_43 : decode cX1_ask 43 = .ok (.iload_n 1, 1) := by decide +kernel
theorem dX1_ask_44 : decode cX1_ask 44 = .ok (.iaload, 1) := by decide +kernel
theorem dX1_ask_45 : decode cX1_ask 45 = .ok (.ifCond .eq 6, 3) := by decide +kernel
theorem dX1_ask_48 : decode cX1_ask 48 = .ok (.bipush (-5), 2) := by decide +kernel
theorem dX1_ask_50 : decode cX1_ask 50 = .ok (.ireturn, 1) := by decide +kernel
theorem dX1_ask_51 : decode cX1_ask 51 = .ok (.aload_n 0, 1) := by decide +kernel
theorem dX1_ask_52 : decode cX1_ask 52 = .ok (.iload_n 1, 1) := by decide +kernel
theorem dX1_ask_53 : decode cX1_ask 53 = .ok (.iload_n 2, 1) := by decide +kernel
theorem dX1_ask_54 : decode cX1_ask 54 = .ok (.iload_n 3, 1) := by decide +kernel
theorem dX1_ask_55 : decode cX1_ask 55 = .ok (.iload 4, 2) := by decide +kernel
theorem dX1_ask_57 : decode cX1_ask 57 = .ok (.aload_n 0, 1) := by decide +kernel
theorem dX1_ask_58 : decode cX1_ask 58 = .ok (.getfield 54, 3) := by decide +kernel
theorem dX1_ask_61 : decode cX1_ask 61 = .ok (.invokevirtual 80, 3) := by decide +kernel
theorem dX1_ask_64 : decode cX1_ask 64 = .ok (.ifCond .ne 19, 3) := by decide +kernel
theorem dX1_ask_67 : decode cX1_ask 67 = .ok (.aload_n 0, 1) := by decide +kernel
theorem dX1_ask_68 : decode cX1_ask 68 = .ok (.iload_n 1, 1) := by decide +kernel
theorem dX1_ask_69 : decode cX1_ask 69 = .ok (.iload_n 2, 1) := by decide +kernel
theorem dX1_ask_70 : decode cX1_ask 70 = .ok (.iload_n 3, 1) := by decide +kernel
theorem dX1_ask_71 : decode cX1_ask 71 = .ok (.iload 4, 2) := by decide +kernel
theorem dX1_ask_73 : decode cX1_ask 73 = .ok (.invokevirtual 84, 3) := by decide +kernel
theorem dX1_ask_76 : decode cX1_ask 76 = .ok (.aload_n 0, 1) := by decide +kernel
theorem dX1_ask_77 : decode cX1_ask 77 = .ok (.invokevirtual 88, 3) := by decide +kernel
theorem dX1_ask_80 : decode cX1_ask 80 = .ok (.pop, 1) := by decide +kernel
theorem dX1_ask_81 : decode cX1_ask 81 = .ok (.iconst 1, 1) := by decide +kernel
theorem dX1_ask_82 : decode cX1_ask 82 = .ok (.ireturn, 1) := by decide +kernel
theorem dX1_ask_83 : decode cX1_ask 83 = .ok (.iload 5, 2) := by decide +kernel
theorem dX1_ask_85 : decode cX1_ask 85 = .ok (.ifCond .ne 6, 3) := by decide +kernel
theorem dX1_ask_88 : decode cX1_ask 88 = .ok (.bipush (-5), 2) := by decide +kernel
theorem dX1_ask_90 : decode cX1_ask 90 = .ok (.ireturn, 1) := by decide +kernel
theorem dX1_ask_91 : decode cX1_ask 91 = .ok (.aload_n 0, 1) := by decide +kernel
theorem dX1_ask_92 : decode cX1_ask 92 = .ok (.iload_n 1, 1) := by decide +kernel
theorem dX1_ask_93 : decode cX1_ask 93 = .ok (.iload_n 2, 1) := by decide +kernel
theorem dX1_ask_94 : decode cX1_ask 94 = .ok (.iload_n 3, 1) := by decide +kernel
theorem dX1_ask_95 : decode cX1_ask 95 = .ok (.iload 4, 2) := by decide +kernel
theorem dX1_ask_97 : decode cX1_ask 97 = .ok (.invokevirtual 92, 3) := by decide +kernel
theorem dX1_ask_100 : decode cX1_ask 100 = .ok (.aload_n 0, 1) := by decide +kernel
theorem dX1_ask_101 : decode cX1_ask 101 = .ok (.iload_n 1, 1) := by decide +kernel
theorem dX1_ask_102 : decode cX1_ask 102 = .ok (.invokevirtual 95, 3) := by decide +kernel
theorem dX1_ask_105 : decode cX1_ask 105 = .ok (.istore 6, 2) := by decide +kernel
theorem dX1_ask_107 : decode cX1_ask 107 = .ok (.iload 6, 2) := by decide +kernel
theorem dX1_ask_109 : decode cX1_ask 109 = .ok (.ifCond .eq 20, 3) := by decide +kernel
theorem dX1_ask_112 : decode cX1_ask 112 = .ok (.aload_n 0, 1) := by decide +kernel
theorem dX1_ask_113 : decode cX1_ask 113 = .ok (.getfield 9, 3) := by decide +kernel
theorem dX1_ask_116 : decode cX1_ask 116 = .ok (.iconst 1, 1) := by decide +kernel
theorem dX1_ask_117 : decode cX1_ask 117 = .ok (.iaload, 1) := by decide +kernel
theorem dX1_ask_118 : decode cX1_ask 118 = .ok (.ifCond .ne 11, 3) := by decide +kernel
theorem dX1_ask_121 : decode cX1_ask 121 = .ok (.aload_n 0, 1) := by decide +kernel
theorem dX1_ask_122 : decode cX1_ask 122 = .ok (.iload_n 1, 1) := by decide +kernel
theorem dX1_ask_123 : decode cX1_ask 123 = .ok (.invokevirtual 99, 3) := by decide +kernel
theorem dX1_ask_126 : decode cX1_ask 126 = .ok (.bipush (-5), 2) := by decide +kernel
theorem dX1_ask_128 : decode cX1_ask 128 = .ok (.ireturn, 1) := by decide +kernel
theorem dX1_ask_129 : decode cX1_ask 129 = .ok (.aload_n 0, 1) := by decide +kernel
theorem dX1_ask_130 : decode cX1_ask 130 = .ok (.getfield 38, 3) := by decide +kernel
theorem dX1_ask_133 : decode cX1_ask 133 = .ok (.iload_n 1, 1) := by decide +kernel
theorem dX1_ask_134 : decode cX1_ask 134 = .ok (.dup2, 1) := by decide +kernel
theorem dX1_ask_135 : decode cX1_ask 135 = .ok (.iaload, 1) := by decide +kernel
theorem dX1_ask_136 : decode cX1_ask 136 = .ok (.iconst 1, 1) := by decide +kernel
theorem dX1_ask_137 : decode cX1_ask 137 = .ok (.iadd, 1) := by decide +kernel
theorem dX1_ask_138 : decode cX1_ask 138 = .ok (.iastore, 1) := by decide +kernel
theorem dX1_ask_139 : decode cX1_ask 139 = .ok (.iconst 0, 1) := by decide +kernel
theorem dX1_ask_140 : decode cX1_ask 140 = .ok (.istore 7, 2) := by decide +kernel
theorem dX1_ask_142 : decode cX1_ask 142 = .ok (.iload 7, 2) := by decide +kernel
theorem dX1_ask_144 : decode cX1_ask 144 = .ok (.sipush 4800, 3) := by decide +kernel
theorem dX1_ask_147 : decode cX1_ask 147 = .ok (.if_icmp .ge 38, 3) := by decide +kernel
theorem dX1_ask_150 : decode cX1_ask 150 = .ok (.iload 6, 2) := by decide +kernel
theorem dX1_ask_152 : decode cX1_ask 152 = .ok (.ifCond .eq 33, 3) := by decide +kernel
theorem dX1_ask_155 : decode cX1_ask 155 = .ok (.aload_n 0, 1) := by decide +kernel
theorem dX1_ask_156 : decode cX1_ask 156 = .ok (.aload_n 0, 1) := by decide +kernel
theorem dX1_ask_157 : decode cX1_ask 157 = .ok (.iload 6, 2) := by decide +kernel
theorem dX1_ask_159 : decode cX1_ask 159 = .ok (.invokevirtual 103, 3) := by decide +kernel
theorem dX1_ask_162 : decode cX1_ask 162 = .ok (.iload 6, 2) := by decide +kernel
theorem dX1_ask_164 : decode cX1_ask 164 = .ok (.invokevirtual 106, 3) := by decide +kernel
theorem dX1_ask_167 : decode cX1_ask 167 = .ok (.aload_n 0, 1) := by decide +kernel
theorem dX1_ask_168 : decode cX1_ask 168 = .ok (.invokevirtual 88, 3) := by decide +kernel
theorem dX1_ask_171 : decode cX1_ask 171 = .ok (.pop, 1) := by decide +kernel
theorem dX1_ask_172 : decode cX1_ask 172 = .ok (.aload_n 0, 1) := by decide +kernel
theorem dX1_ask_173 : decode cX1_ask 173 = .ok (.iload_n 1, 1) := by decide +kernel
theorem dX1_ask_174 : decode cX1_ask 174 = .ok (.invokevirtual 95, 3) := by decide +kernel
theorem dX1_ask_177 : decode cX1_ask 177 = .ok (.istore 6, 2) := by decide +kernel
theorem dX1_ask_179 : decode cX1_ask 179 = .ok (.iinc 7 1, 3) := by decide +kernel
theorem dX1_ask_182 : decode cX1_ask 182 = .ok (.goto (-40), 3) := by decide +kernel
theorem dX1_ask_185 : decode cX1_ask 185 = .ok (.aload_n 0, 1) := by decide +kernel
theorem dX1_ask_186 : decode cX1_ask 186 = .ok (.getfield 23, 3) := by decide +kernel
theorem dX1_ask_189 : decode cX1_ask 189 = .ok (.iload_n 1, 1) := by decide +kernel
theorem dX1_ask_190 : decode cX1_ask 190 = .ok (.iaload, 1) := by decide +kernel
theorem dX1_ask_191 : decode cX1_ask 191 = .ok (.ifCond .ne 7, 3) := by decide +kernel
theorem dX1_ask_194 : decode cX1_ask 194 = .ok (.iconst 1, 1) := by decide +kernel
theorem dX1_ask_195 : decode cX1_ask 195 = .ok (.goto 4, 3) := by decide +kernel
theorem dX1_ask_198 : decode cX1_ask 198 = .ok (.iconst 0, 1) := by decide +kernel
theorem dX1_ask_199 : decode cX1_ask 199 = .ok (.ireturn, 1) := by decide +kernel
set_option maxRecDepth 20000 in
theorem ggX1_release_X3_isOwner : GoodIn wsX1_release wsX3_isOwner := goodIn_r _ [3] (by decide +kernel) (by decide +kernel)
set_option maxRecDepth 20000 in
theorem gX1_release_X3_isOwner_n69 : GoodIn wsX1_release (wsX3_isOwner) := ggX1_release_X3_isOwner
set_option maxRecDepth 20000 in
theorem ggX1_release_X3_isRange : GoodIn wsX1_release wsX3_isRange := goodIn_r _ [5, 6, 7, 2, 8] (by decide +kernel) (by decide +kernel)
set_option maxRecDepth 20000 in
theorem gX1_release_X3_isRange_n76 : GoodIn wsX1_release (wsX3_isRange) := ggX1_release_X3_isRange
set_option maxRecDepth 20000 in
theorem ggX1_release_X1_freeRange : GoodIn wsX1_release wsX1_freeRange := goodIn_r _ [13, 14, 15, 16, 12, 17, 18, 19, 20, 21, 22, 69, 70, 71, 72, 73, 74, 75, 76, 77, 78, 79, 80, 81, 82, 83, 84] (by decide +kernel) (by decide +kernel)
set_option maxRecDepth 20000 in
theorem gX1_release_X1_freeRange : GoodIn wsX1_release (wsV RX1 110 RX1 yX1_freeRange wsX1_freeRange) := goodIn_app (goodIn_of _ (by decide +kernel)) ggX1_release_X1_freeRange
set_option maxRecDepth 20000 in
theorem ggX1_release_X1_goThroughRow : GoodIn wsX1_release wsX1_goThroughRow := goodIn_r _ [26, 27, 28, 29, 30, 31, 32, 33, 34, 35, 36, 37, 38, 39, 40, 12, 41, 42, 43, 44, 45, 18, 46, 47, 48, 49, 50, 2, 51, 52, 53, 54, 55, 56, 57, 58, 59, 60, 19, 20, 21, 22, 61, 62, 63, 64, 65, 66, 67, 68, 69, 70, 71, 72, 73, 74, 75, 76, 77, 78, 79, 80, 81, 82, 83, 84] (by decide +kernel) (by decide +kernel)
set_option maxRecDepth 20000 in
theorem gX1_release_X1_goThroughRow : GoodIn wsX1_release (wsV RX1 88 RX1 yX1_goThroughRow wsX1_goThroughRow) := goodIn_app (goodIn_of _ (by decide +kernel)) ggX1_release_X1_goThroughRow
theorem dX1_release_0 : decode cX1_release 0 = .ok (.iload_n 1, 1) := by decide +kernel
theorem dX1_release_1 : decode cX1_release 1 = .ok (.invokestatic 69, 3) := by decide +kernel
theorem dX1_release_4 : decode cX1_release 4 = .ok (.ifCond .ne 5, 3) := by decide +kernel
theorem dX1_release_7 : decode cX1_release 7 = .ok (.iconst (-1), 1) := by decide +kernel
theorem dX1_release_8 : decode cX1_release 8 = .ok (.ireturn, 1) := by decide +kernel
theorem dX1_release_9 : decode cX1_release 9 = .ok (.iload_n 2, 1) := by decide +kernel
theorem dX1_release_10 : decode cX1_release 10 = .ok (.iload_n 3, 1) := by decide +kernel
theorem dX1_release_11 : decode cX1_release 11 = .ok (.invokestatic 76, 3) := by decide +kernel
theorem dX1_release_14 : decode cX1_release 14 = .ok (.ifCond .ne 6, 3) := by decide +kernel
theorem dX1_release_17 : decode cX1_release 17 = .ok (.bipush (-2), 2) := by decide +kernel
theorem dX1_release_19 : decode cX1_release 19 = .ok (.ireturn, 1) := by decide +kernel
theorem dX1_release_20 : decode cX1_release 20 = .ok (.aload_n 0, 1) := by decide +kernel
theorem dX1_release_21 : decode cX1_release 21 = .ok (.iload_n 1, 1) := by decide +kernel
theorem dX1_release_22 : decode cX1_release 22 = .ok (.iload_n 2, 1) := by decide +kernel
theorem dX1_release_23 : decode cX1_release 23 = .ok (.iload_n 3, 1) := by decide +kernel
theorem dX1_release_24 : decode cX1_release 24 = .ok (.invokevirtual 110, 3) := by decide +kernel
theorem dX1_release_27 : decode cX1_release 27 = .ok (.istore 4, 2) := by decide +kernel
theorem dX1_release_29 : decode cX1_release 29 = .ok (.aload_n 0, 1) := by decide +kernel
theorem dX1_release_30 : decode cX1_release 30 = .ok (.invokevirtual 88, 3) := by decide +kernel
theorem dX1_release_33 : decode cX1_release 33 = .ok (.pop, 1) := by decide +kernel
theorem dX1_release_34 : decode cX1_release 34 = .ok (.iload 4, 2) := by decide +kernel
theorem dX1_release_36 : decode cX1_release 36 = .ok (.ireturn, 1) := by decide +kernel
set_option maxRecDepth 20000 in
theorem ggX1_withdraw_X3_isOwner : GoodIn wsX1_withdraw wsX3_isOwner := goodIn_r _ [5] (by decide +kernel) (by decide +kernel)
set_option maxRecDepth 20000 in
theorem gX1_withdraw_X3_isOwner_n69 : GoodIn wsX1_withdraw (wsX3_isOwner) := ggX1_withdraw_X3_isOwner
set_option maxRecDepth 20000 in
theorem ggX1_withdraw_X1_quitRow : GoodIn wsX1_withdraw wsX1_quitRow := goodIn_r _ [10, 11, 12, 1, 13, 14, 15, 9, 16, 56, 57, 58, 59, 60, 61, 62, 63, 64, 65, 66, 67, 68, 69, 70, 71] (by decide +kernel) (by decide +kernel)
set_option maxRecDepth 20000 in
theorem gX1_withdraw_X1_quitRow : GoodIn wsX1_withdraw (wsV RX1 99 RX1 yX1_quitRow wsX1_quitRow) := goodIn_app (goodIn_of _ (by decide +kernel)) ggX1_withdraw_X1_quitRow
set_option maxRecDepth 20000 in
theorem ggX1_withdraw_X1_goThroughRow : GoodIn wsX1_withdraw wsX1_goThroughRow := goodIn_r _ [20, 11, 12, 1, 21, 22, 23, 2, 24, 25, 26, 27, 28, 29, 30, 9, 31, 32, 33, 34, 35, 36, 37, 38, 39, 40, 41, 4, 42, 43, 44, 45, 46, 47, 48, 49, 50, 51, 52, 53, 54, 55, 6, 7, 8, 10, 13, 14, 15, 16, 56, 57, 58, 59, 60, 61, 62, 63, 64, 65, 66, 67, 68, 69, 70, 71] (by decide +kernel) (by decide +kernel)
set_option maxRecDepth 20000 in
theorem gX1_withdraw_X1_goThroughRow : GoodIn wsX1_withdraw (wsV RX1 88 RX1 yX1_goThroughRow wsX1_goThroughRow) := goodIn_app (goodIn_of _ (by decide +kernel)) ggX1_withdraw_X1_goThroughRow
theorem dX1_withdraw_0 : decode cX1_withdraw 0 = .ok (.iload_n 1, 1) := by decide +kernel
theorem dX1_withdraw_1 : decode cX1_withdraw 1 = .ok (.invokestatic 69, 3) := by decide +kernel
theorem dX1_withdraw_4 : decode cX1_withdraw 4 = .ok (.ifCond .ne 5, 3) := by decide +kernel
theorem dX1_withdraw_7 : decode cX1_withdraw 7 = .ok (.iconst (-1), 1) := by decide +kernel
theorem dX1_withdraw_8 : decode cX1_withdraw 8 = .ok (.ireturn, 1) := by decide +kernel
theorem dX1_withdraw_9 : decode cX1_withdraw 9 = .ok (.aload_n 0, 1) := by decide +kernel
theorem dX1_withdraw_10 : decode cX1_withdraw 10 = .ok (.getfield 23, 3) := by decide +kernel
theorem dX1_withdraw_13 : decode cX1_withdraw 13 = .ok (.iload_n 1, 1) := by decide +kernel
theorem dX1_withdraw_14 : decode cX1_withdraw 14 = .ok (.iaload, 1) := by decide +kernel
theorem dX1_withdraw_15 : decode cX1_withdraw 15 = .ok (.ifCond .ne 6, 3) := by decide +kernel
theorem dX1_withdraw_18 : decode cX1_withdraw 18 = .ok (.bipush (-5), 2) := by decide +kernel
theorem dX1_withdraw_20 : decode cX1_withdraw 20 = .ok (.ireturn, 1) := by decide +kernel
theorem dX1_withdraw_21 : decode cX1_withdraw 21 = .ok (.aload_n 0, 1) := by decide +kernel
theorem dX1_withdraw_22 : decode cX1_withdraw 22 = .ok (.getfield 32, 3) := by decide +kernel
theorem dX1_withdraw_25 : decode cX1_withdraw 25 = .ok (.iload_n 1, 1) := by decide +kernel
theorem dX1_withdraw_26 : decode cX1_withdraw 26 = .ok (.iaload, 1) := by decide +kernel
theorem dX1_withdraw_27 : decode cX1_withdraw 27 = .ok (.istore_n 2, 1) := by decide +kernel
theorem dX1_withdraw_28 : decode cX1_withdraw 28 = .ok (.aload_n 0, 1) := by decide +kernel
theorem dX1_withdraw_29 : decode cX1_withdraw 29 = .ok (.iload_n 1, 1) := by decide +kernel
theorem dX1_withdraw_30 : decode cX1_withdraw 30 = .ok (.invokevirtual 99, 3) := by decide +kernel
theorem dX1_withdraw_33 : decode cX1_withdraw 33 = .ok (.aload_n 0, 1) := by decide +kernel
theorem dX1_withdraw_34 : decode cX1_withdraw 34 = .ok (.invokevirtual 88, 3) := by decide +kernel
theorem dX1_withdraw_37 : decode cX1_withdraw 37 = .ok (.pop, 1) := by decide +kernel
theorem dX1_withdraw_38 : decode cX1_withdraw 38 = .ok (.iload_n 2, 1) := by decide +kernel
theorem dX1_withdraw_39 : decode cX1_withdraw 39 = .ok (.ireturn, 1) := by decide +kernel
set_option maxRecDepth 20000 in
theorem ggX1_depart_X3_isOwner : GoodIn wsX1_depart wsX3_isOwner := goodIn_r _ [3] (by decide +kernel) (by decide +kernel)
set_option maxRecDepth 20000 in
theorem gX1_depart_X3_isOwner_n69 : GoodIn wsX1_depart (wsX3_isOwner) := ggX1_depart_X3_isOwner
set_option maxRecDepth 20000 in
theorem ggX1_depart_X1_strip : GoodIn wsX1_depart wsX1_strip := goodIn_r _ [8, 9, 10, 11, 7, 12, 13, 14, 15, 16, 17, 18, 19, 20, 21, 22, 23, 24, 25, 26, 27, 28, 29, 30, 31, 32, 68, 69, 70, 71, 72, 73, 74, 75, 76, 77, 78, 79, 80, 81, 82, 83] (by decide +kernel) (by decide +kernel)
set_option maxRecDepth 20000 in
theorem gX1_depart_X1_strip : GoodIn wsX1_depart (wsV RX1 114 RX1 yX1_strip wsX1_strip) := goodIn_app (goodIn_of _ (by decide +kernel)) ggX1_depart_X1_strip
set_option maxRecDepth 20000 in
theorem ggX1_depart_X1_goThroughRow : GoodIn wsX1_depart wsX1_goThroughRow := goodIn_r _ [36, 13, 14, 15, 37, 38, 39, 40, 41, 42, 43, 44, 45, 46, 47, 7, 48, 49, 50, 51, 52, 28, 53, 54, 55, 56, 57, 2, 58, 59, 60, 61, 62, 63, 64, 65, 66, 67, 29, 30, 31, 32, 9, 10, 11, 12, 16, 17, 18, 19, 68, 69, 70, 71, 72, 73, 74, 75, 76, 77, 78, 79, 80, 81, 82, 83] (by decide +kernel) (by decide +kernel)
set_option maxRecDepth 20000 in
theorem gX1_depart_X1_goThroughRow : GoodIn wsX1_depart (wsV RX1 88 RX1 yX1_goThroughRow wsX1_goThroughRow) := goodIn_app (goodIn_of _ (by decide +kernel)) ggX1_depart_X1_goThroughRow
theorem dX1_depart_0 : decode cX1_depart 0 = .ok (.iload_n 1, 1) := by decide +kernel
theorem dX1_depart_1 : decode cX1_depart 1 = .ok (.invokestatic 69, 3) := by decide +kernel
theorem dX1_depart_4 : decode cX1_depart 4 = .ok (.ifCond .ne 5, 3) := by decide +kernel
theorem dX1_depart_7 : decode cX1_depart 7 = .ok (.iconst (-1), 1) := by decide +kernel
theorem dX1_depart_8 : decode cX1_depart 8 = .ok (.ireturn, 1) := by decide +kernel
theorem dX1_depart_9 : decode cX1_depart 9 = .ok (.aload_n 0, 1) := by decide +kernel
theorem dX1_depart_10 : decode cX1_depart 10 = .ok (.iload_n 1, 1) := by decide +kernel
theorem dX1_depart_11 : decode cX1_depart 11 = .ok (.invokevirtual 114, 3) := by decide +kernel
theorem dX1_depart_14 : decode cX1_depart 14 = .ok (.istore_n 2, 1) := by decide +kernel
theorem dX1_depart_15 : decode cX1_depart 15 = .ok (.aload_n 0, 1) := by decide +kernel
theorem dX1_depart_16 : decode cX1_depart 16 = .ok (.invokevirtual 88, 3) := by decide +kernel
theorem dX1_depart_19 : decode cX1_depart 19 = .ok (.pop, 1) := by decide +kernel
theorem dX1_depart_20 : decode cX1_depart 20 = .ok (.iload_n 2, 1) := by decide +kernel
theorem dX1_depart_21 : decode cX1_depart 21 = .ok (.ireturn, 1) := by decide +kernel
set_option maxRecDepth 20000 in
theorem ggX1_pass_X1_endPatience : GoodIn wsX1_pass wsX1_endPatience := goodIn_r _ [7, 8, 9, 10, 11, 1, 12, 13, 14, 6, 15, 16, 17, 18, 19, 20, 60, 61, 62, 63, 64, 65, 66, 67, 68, 69, 70, 71, 72, 73, 74, 75] (by decide +kernel) (by decide +kernel)
set_option maxRecDepth 20000 in
theorem gX1_pass_X1_endPatience : GoodIn wsX1_pass (wsV RX1 117 RX1 yX1_endPatience wsX1_endPatience) := goodIn_app (goodIn_of _ (by decide +kernel)) ggX1_pass_X1_endPatience
set_option maxRecDepth 20000 in
theorem ggX1_pass_X1_goThroughRow : GoodIn wsX1_pass wsX1_goThroughRow := goodIn_r _ [24, 9, 10, 16, 25, 26, 27, 11, 28, 29, 30, 31, 32, 33, 34, 6, 35, 36, 37, 38, 39, 40, 8, 41, 42, 43, 44, 45, 46, 47, 48, 49, 50, 51, 52, 53, 54, 55, 56, 57, 58, 59, 12, 13, 14, 15, 17, 18, 19, 20, 60, 61, 62, 63, 64, 65, 66, 67, 68, 69, 70, 71, 72, 73, 74, 75] (by decide +kernel) (by decide +kernel)
set_option maxRecDepth 20000 in
theorem gX1_pass_X1_goThroughRow : GoodIn wsX1_pass (wsV RX1 88 RX1 yX1_goThroughRow wsX1_goThroughRow) := goodIn_app (goodIn_of _ (by decide +kernel)) ggX1_pass_X1_goThroughRow
theorem dX1_pass_0 : decode cX1_pass 0 = .ok (.iload_n 1, 1) := by decide +kernel
theorem dX1_pass_1 : decode cX1_pass 1 = .ok (.iconst 1, 1) := by decide +kernel
theorem dX1_pass_2 : decode cX1_pass 2 = .ok (.if_icmp .lt 10, 3) := by decide +kernel
theorem dX1_pass_5 : decode cX1_pass 5 = .ok (.iload_n 1, 1) := by decide +kernel
theorem dX1_pass_6 : decode cX1_pass 6 = .ok (.sipush 300, 3) := by decide +kernel
theorem dX1_pass_9 : decode cX1_pass 9 = .ok (.if_icmp .le 6, 3) := by decide +kernel
theorem dX1_pass_12 : decode cX1_pass 12 = .ok (.bipush (-2), 2) := by decide +kernel
theorem dX1_pass_14 : decode cX1_pass 14 = .ok (.ireturn, 1) := by decide +kernel
theorem dX1_pass_15 : decode cX1_pass 15 = .ok (.aload_n 0, 1) := by decide +kernel
theorem dX1_pass_16 : decode cX1_pass 16 = .ok (.getfield 57, 3) := by decide +kernel
theorem dX1_pass_19 : decode cX1_pass 19 = .ok (.istore_n 2, 1) := by decide +kernel
theorem dX1_pass_20 : decode cX1_pass 20 = .ok (.iconst 0, 1) := by decide +kernel
theorem dX1_pass_21 : decode cX1_pass 21 = .ok (.istore_n 3, 1) := by decide +kernel
theorem dX1_pass_22 : decode cX1_pass 22 = .ok (.iload_n 3, 1) := by decide +kernel
theorem dX1_pass_23 : decode cX1_pass 23 = .ok (.iload_n 1, 1) := by decide +kernel
theorem dX1_pass_24 : decode cX1_pass 24 = .ok (.if_icmp .ge 31, 3) := by decide +kernel
theorem dX1_pass_27 : decode cX1_pass 27 = .ok (.aload_n 0, 1) := by decide +kernel
theorem dX1_pass_28 : decode cX1_pass 28 = .ok (.invokevirtual 117, 3) := by decide +kernel
theorem dX1_pass_31 : decode cX1_pass 31 = .ok (.ifCond .eq 8, 3) := by decide +kernel
theorem dX1_pass_34 : decode cX1_pass 34 = .ok (.aload_n 0, 1) := by decide +kernel
theorem dX1_pass_35 : decode cX1_pass 35 = .ok (.invokevirtual 88, 3) := by decide +kernel
theorem dX1_pass_38 : decode cX1_pass 38 = .ok (.pop, 1) := by decide +kernel
theorem dX1_pass_39 : decode cX1_pass 39 = .ok (.aload_n 0, 1) := by decide +kernel
theorem dX1_pass_40 : decode cX1_pass 40 = .ok (.dup, 1) := by decide +kernel
theorem dX1_pass_41 : decode cX1_pass 41 = .ok (.getfield 50, 3) := by decide +kernel
theorem dX1_pass_44 : decode cX1_pass 44 = .ok (.iconst 1, 1) := by decide +kernel
theorem dX1_pass_45 : decode cX1_pass 45 = .ok (.iadd, 1) := by decide +kernel
theorem dX1_pass_46 : decode cX1_pass 46 = .ok (.putfield 50, 3) := by decide +kernel
theorem dX1_pass_49 : decode cX1_pass 49 = .ok (.iinc 3 1, 3) := by decide +kernel
theorem dX1_pass_52 : decode cX1_pass 52 = .ok (.goto (-30), 3) := by decide +kernel
theorem dX1_pass_55 : decode cX1_pass 55 = .ok (.aload_n 0, 1) := by decide +kernel
theorem dX1_pass_56 : decode cX1_pass 56 = .ok (.getfield 57, 3) := by decide +kernel
theorem dX1_pass_59 : decode cX1_pass 59 = .ok (.iload_n 2, 1) := by decide +kernel
theorem dX1_pass_60 : decode cX1_pass 60 = .ok (.isub, 1) := by decide +kernel
theorem dX1_pass_61 : decode cX1_pass 61 = .ok (.ireturn, 1) := by decide +kernel
set_option maxRecDepth 20000 in
theorem ggX1_endPatience_X1_quitRow : GoodIn wsX1_endPatience wsX1_quitRow := goodIn_r _ [10, 2, 3, 11, 12, 13, 14, 9, 15, 16, 17, 18, 19, 20, 21, 22, 23, 24, 25, 26, 27, 28, 29, 30, 31] (by decide +kernel) (by decide +kernel)
set_option maxRecDepth 20000 in
theorem gX1_endPatience_X1_quitRow : GoodIn wsX1_endPatience (wsV RX1 99 RX1 yX1_quitRow wsX1_quitRow) := goodIn_app (goodIn_of _ (by decide +kernel)) ggX1_endPatience_X1_quitRow
theorem dX1_endPatience_0 : decode cX1_endPatience 0 = .ok (.aload_n 0, 1) := by decide +kernel
theorem dX1_endPatience_1 : decode cX1_endPatience 1 = .ok (.getfield 9, 3) := by decide +kernel
theorem dX1_endPatience_4 : decode cX1_endPatience 4 = .ok (.iconst 2, 1) := by decide +kernel
theorem dX1_endPatience_5 : decode cX1_endPatience 5 = .ok (.iaload, 1) := by decide +kernel
theorem dX1_endPatience_6 : decode cX1_endPatience 6 = .ok (.istore_n 1, 1) := by decide +kernel
theorem dX1_endPatience_7 : decode cX1_endPatience 7 = .ok (.aload_n 0, 1) := by decide +kernel
theorem dX1_endPatience_8 : decode cX1_endPatience 8 = .ok (.getfield 54, 3) := by decide +kernel
theorem dX1_endPatience_11 : decode cX1_endPatience 11 = .ok (.istore_n 2, 1) := by decide +kernel
theorem dX1_endPatience_12 : decode cX1_endPatience 12 = .ok (.iload_n 2, 1) := by decide +kernel
theorem dX1_endPatience_13 : decode cX1_endPatience 13 = .ok (.iconst 1, 1) := by decide +kernel
theorem dX1_endPatience_14 : decode cX1_endPatience 14 = .ok (.isub, 1) := by decide +kernel
theorem dX1_endPatience_15 : decode cX1_endPatience 15 = .ok (.istore_n 3, 1) := by decide +kernel
theorem dX1_endPatience_16 : decode cX1_endPatience 16 = .ok (.iload_n 3, 1) := by decide +kernel
theorem dX1_endPatience_17 : decode cX1_endPatience 17 = .ok (.ifCond .lt 49, 3) := by decide +kernel
theorem dX1_endPatience_20 : decode cX1_endPatience 20 = .ok (.aload_n 0, 1) := by decide +kernel
theorem dX1_endPatience_21 : decode cX1_endPatience 21 = .ok (.getfield 20, 3) := by decide +kernel
theorem dX1_endPatience_24 : decode cX1_endPatience 24 = .ok (.iload_n 3, 1) := by decide +kernel
theorem dX1_endPatience_25 : decode cX1_endPatience 25 = .ok (.iaload, 1) := by decide +kernel
theorem dX1_endPatience_26 : decode cX1_endPatience 26 = .ok (.istore 4, 2) := by decide +kernel
theorem dX1_endPatience_28 : decode cX1_endPatience 28 = .ok (.aload_n 0, 1) := by decide +kernel
theorem dX1_endPatience_29 : decode cX1_endPatience 29 = .ok (.getfield 32, 3) := by decide +kernel
theorem dX1_endPatience_32 : decode cX1_endPatience 32 = .ok (.iload 4, 2) := by decide +kernel
theorem dX1_endPatience_34 : decode cX1_endPatience 34 = .ok (.dup2, 1) := by decide +kernel
theorem dX1_endPatience_35 : decode cX1_endPatience 35 = .ok (.iaload, 1) := by decide +kernel
theorem dX1_endPatience_36 : decode cX1_endPatience 36 = .ok (.iconst 1, 1) := by decide +kernel
theorem dX1_endPatience_37 : decode cX1_endPatience 37 = .ok (.iadd, 1) := by decide +kernel
theorem dX1_endPatience_38 : decode cX1_endPatience 38 = .ok (.iastore, 1) := by decide +kernel
theorem dX1_endPatience_39 : decode cX1_endPatience 39 = .ok (.iload_n 1, 1) := by decide +kernel
theorem dX1_endPatience_40 : decode cX1_endPatience 40 = .ok (.ifCond .le 20, 3) := by decide +kernel
theorem dX1_endPatience_43 : decode cX1_endPatience 43 = .ok (.aload_n 0, 1) := by decide +kernel
theorem dX1_endPatience_44 : decode cX1_endPatience 44 = .ok (.getfield 32, 3) := by decide +kernel
theorem dX1_endPatience_47 : decode cX1_endPatience 47 = .ok (.iload 4, 2) := by decide +kernel
theorem dX1_endPatience_49 : decode cX1_endPatience 49 = .ok (.iaload, 1) := by decide +kernel
theorem dX1_endPatience_50 : decode cX1_endPatience 50 = .ok (.iload_n 1, 1) := by decide +kernel
theorem dX1_endPatience_51 : decode cX1_endPatience 51 = .ok (.if_icmp .lt 9, 3) := by decide +kernel
theorem dX1_endPatience_54 : decode cX1_endPatience 54 = .ok (.aload_n 0, 1) := by decide +kernel
theorem dX1_endPatience_55 : decode cX1_endPatience 55 = .ok (.iload 4, 2) := by decide +kernel
theorem dX1_endPatience_57 : decode cX1_endPatience 57 = .ok (.invokevirtual 99, 3) := by decide +kernel
theorem dX1_endPatience_60 : decode cX1_endPatience 60 = .ok (.iinc 3 (-1), 3) := by decide +kernel
theorem dX1_endPatience_63 : decode cX1_endPatience 63 = .ok (.goto (-47), 3) := by decide +kernel
theorem dX1_endPatience_66 : decode cX1_endPatience 66 = .ok (.aload_n 0, 1) := by decide +kernel
theorem dX1_endPatience_67 : decode cX1_endPatience 67 = .ok (.dup, 1) := by decide +kernel
theorem dX1_endPatience_68 : decode cX1_endPatience 68 = .ok (.getfield 57, 3) := by decide +kernel
theorem dX1_endPatience_71 : decode cX1_endPatience 71 = .ok (.iload_n 2, 1) := by decide +kernel
theorem dX1_endPatience_72 : decode cX1_endPatience 72 = .ok (.aload_n 0, 1) := by decide +kernel
theorem dX1_endPatience_73 : decode cX1_endPatience 73 = .ok (.getfield 54, 3) := by decide +kernel
theorem dX1_endPatience_76 : decode cX1_endPatience 76 = .ok (.isub, 1) := by decide +kernel
theorem dX1_endPatience_77 : decode cX1_endPatience 77 = .ok (.iadd, 1) := by decide +kernel
theorem dX1_endPatience_78 : decode cX1_endPatience 78 = .ok (.putfield 57, 3) := by decide +kernel
theorem dX1_endPatience_81 : decode cX1_endPatience 81 = .ok (.aload_n 0, 1) := by decide +kernel
theorem dX1_endPatience_82 : decode cX1_endPatience 82 = .ok (.getfield 54, 3) := by decide +kernel
theorem dX1_endPatience_85 : decode cX1_endPatience 85 = .ok (.iload_n 2, 1) := by decide +kernel
theorem dX1_endPatience_86 : decode cX1_endPatience 86 = .ok (.if_icmp .ge 7, 3) := by decide +kernel
theorem dX1_endPatience_89 : decode cX1_endPatience 89 = .ok (.iconst 1, 1) := by decide +kernel
theorem dX1_endPatience_90 : decode cX1_endPatience 90 = .ok (.goto 4, 3) := by decide +kernel
theorem dX1_endPatience_93 : decode cX1_endPatience 93 = .ok (.iconst 0, 1) := by decide +kernel
theorem dX1_endPatience_94 : decode cX1_endPatience 94 = .ok (.ireturn, 1) := by decide +kernel
set_option maxRecDepth 20000 in
theorem ggX1_strip_X1_quitRow : GoodIn wsX1_strip wsX1_quitRow := goodIn_r _ [5, 6, 7, 8, 9, 10, 11, 4, 12, 26, 27, 28, 29, 30, 31, 32, 33, 34, 35, 36, 37, 38, 39, 40, 41] (by decide +kernel) (by decide +kernel)
set_option maxRecDepth 20000 in
theorem gX1_strip_X1_quitRow : GoodIn wsX1_strip (wsV RX1 99 RX1 yX1_quitRow wsX1_quitRow) := goodIn_app (goodIn_of _ (by decide +kernel)) ggX1_strip_X1_quitRow
set_option maxRecDepth 20000 in
theorem ggX1_strip_X1_freeRange : GoodIn wsX1_strip wsX1_freeRange := goodIn_r _ [16, 17, 18, 19, 4, 20, 21, 22, 23, 24, 25, 26, 27, 28, 29, 30, 31, 32, 33, 34, 35, 36, 37, 38, 39, 40, 41] (by decide +kernel) (by decide +kernel)
set_option maxRecDepth 20000 in
theorem gX1_strip_X1_freeRange : GoodIn wsX1_strip (wsV RX1 110 RX1 yX1_freeRange wsX1_freeRange) := goodIn_app (goodIn_of _ (by decide +kernel)) ggX1_strip_X1_freeRange
theorem dX1_strip_0 : decode cX1_strip 0 = .ok (.aload_n 0, 1) := by decide +kernel
theorem dX1_strip_1 : decode cX1_strip 1 = .ok (.iload_n 1, 1) := by decide +kernel
theorem dX1_strip_2 : decode cX1_strip 2 = .ok (.invokevirtual 99, 3) := by decide +kernel
theorem dX1_strip_5 : decode cX1_strip 5 = .ok (.aload_n 0, 1) := by decide +kernel
theorem dX1_strip_6 : decode cX1_strip 6 = .ok (.iload_n 1, 1) := by decide +kernel
theorem dX1_strip_7 : decode cX1_strip 7 = .ok (.iconst 0, 1) := by decide +kernel
theorem dX1_strip_8 : decode cX1_strip 8 = .ok (.sipush 300, 3) := by decide +kernel
theorem dX1_strip_11 : decode cX1_strip 11 = .ok (.invokevirtual 110, 3) := by decide +kernel
theorem dX1_strip_14 : decode cX1_strip 14 = .ok (.ireturn, 1) := by decide +kernel
set_option maxRecDepth 20000 in
theorem ggX1_freeRange_X1_kindAt : GoodIn wsX1_freeRange wsX1_kindAt := goodIn_r _ [5, 6, 11, 12, 13, 14, 15, 16, 17, 18, 19, 20, 21, 22, 23, 24, 25, 26] (by decide +kernel) (by decide +kernel)
set_option maxRecDepth 20000 in
theorem gX1_freeRange_X1_kindAt : GoodIn wsX1_freeRange (wsV RX1 121 RX1 yX1_kindAt wsX1_kindAt) := goodIn_app (goodIn_of _ (by decide +kernel)) ggX1_freeRange_X1_kindAt
set_option maxRecDepth 20000 in
theorem ggX1_freeRange_X1_lock : GoodIn wsX1_freeRange wsX1_lock := goodIn_r _ [10, 6, 11, 12, 13, 14, 15, 16, 17, 18, 19, 20, 21, 22, 23, 24, 25, 26] (by decide +kernel) (by decide +kernel)
set_option maxRecDepth 20000 in
theorem gX1_freeRange_X1_lock : GoodIn wsX1_freeRange (wsV RX1 125 RX1 yX1_lock wsX1_lock) := goodIn_app (goodIn_of _ (by decide +kernel)) ggX1_freeRange_X1_lock
theorem dX1_freeRange_0 : decode cX1_freeRange 0 = .ok (.iconst 0, 1) := by decide +kernel
theorem dX1_freeRange_1 : decode cX1_freeRange 1 = .ok (.istore 4, 2) := by decide +kernel
theorem dX1_freeRange_3 : decode cX1_freeRange 3 = .ok (.iload_n 2, 1) := by decide +kernel
theorem dX1_freeRange_4 : decode cX1_freeRange 4 = .ok (.istore 5, 2) := by decide +kernel
theorem dX1_freeRange_6 : decode cX1_freeRange 6 = .ok (.iload 5, 2) := by decide +kernel
theorem dX1_freeRange_8 : decode cX1_freeRange 8 = .ok (.iload_n 3, 1) := by decide +kernel
theorem dX1_freeRange_9 : decode cX1_freeRange 9 = .ok (.if_icmp .ge 30, 3) := by decide +kernel
theorem dX1_freeRange_12 : decode cX1_freeRange 12 = .ok (.aload_n 0, 1) := by decide +kernel
theorem dX1_freeRange_13 : decode cX1_freeRange 13 = .ok (.iload_n 1, 1) := by decide +kernel
theorem dX1_freeRange_14 : decode cX1_freeRange 14 = .ok (.iload 5, 2) := by decide +kernel
theorem dX1_freeRange_16 : decode cX1_freeRange 16 = .ok (.invokevirtual 121, 3) := by decide +kernel
theorem dX1_freeRange_19 : decode cX1_freeRange 19 = .ok (.ifCond .eq 14, 3) := by decide +kernel
theorem dX1_freeRange_22 : decode cX1_freeRange 22 = .ok (.aload_n 0, 1) := by decide +kernel
theorem dX1_freeRange_23 : decode cX1_freeRange 23 = .ok (.iload_n 1, 1) := by decide +kernel
theorem dX1_freeRange_24 : decode cX1_freeRange 24 = .ok (.iload 5, 2) := by decide +kernel
theorem dX1_freeRange_26 : decode cX1_freeRange 26 = .ok (.iconst 0, 1) := by decide +kernel
theorem dX1_freeRange_27 : decode cX1_freeRange 27 = .ok (.invokevirtual 125, 3) := by decide +kernel
theorem dX1_freeRange_30 : decode cX1_freeRange 30 = .ok (.iinc 4 1, 3) := by decide +kernel
theorem dX1_freeRange_33 : decode cX1_freeRange 33 = .ok (.iinc 5 1, 3) := by decide +kernel
theorem dX1_freeRange_36 : decode cX1_freeRange 36 = .ok (.goto (-30), 3) := by decide +kernel
theorem dX1_freeRange_39 : decode cX1_freeRange 39 = .ok (.iload 4, 2) := by decide +kernel
theorem dX1_freeRange_41 : decode cX1_freeRange 41 = .ok (.ireturn, 1) := by decide +kernel
theorem dX1_lock_0 : decode cX1_lock 0 = .ok (.iconst 1, 1) := by decide +kernel
theorem dX1_lock_1 : decode cX1_lock 1 = .ok (.iload_n 1, 1) := by decide +kernel
theorem dX1_lock_2 : decode cX1_lock 2 = .ok (.ishl, 1) := by decide +kernel
theorem dX1_lock_3 : decode cX1_lock 3 = .ok (.istore 4, 2) := by decide +kernel
theorem dX1_lock_5 : decode cX1_lock 5 = .ok (.iconst 1, 1) := by decide +kernel
theorem dX1_lock_6 : decode cX1_lock 6 = .ok (.istore 5, 2) := by decide +kernel
theorem dX1_lock_8 : decode cX1_lock 8 = .ok (.iload 5, 2) := by decide +kernel
theorem dX1_lock_10 : decode cX1_lock 10 = .ok (.iload_n 3, 1) := by decide +kernel
theorem dX1_lock_11 : decode cX1_lock 11 = .ok (.if_icmp .gt 23, 3) := by decide +kernel
theorem dX1_lock_14 : decode cX1_lock 14 = .ok (.aload_n 0, 1) := by decide +kernel
theorem dX1_lock_15 : decode cX1_lock 15 = .ok (.getfield 17, 3) := by decide +kernel
theorem dX1_lock_18 : decode cX1_lock 18 = .ok (.iload 5, 2) := by decide +kernel
theorem dX1_lock_20 : decode cX1_lock 20 = .ok (.aaload, 1) := by decide +kernel
theorem dX1_lock_21 : decode cX1_lock 21 = .ok (.iload_n 2, 1) := by decide +kernel
theorem dX1_lock_22 : decode cX1_lock 22 = .ok (.dup2, 1) := by decide +kernel
theorem dX1_lock_23 : decode cX1_lock 23 = .ok (.iaload, 1) := by decide +kernel
theorem dX1_lock_24 : decode cX1_lock 24 = .ok (.iload 4, 2) := by decide +kernel
theorem dX1_lock_26 : decode cX1_lock 26 = .ok (.ior, 1) := by decide +kernel
theorem dX1_lock_27 : decode cX1_lock 27 = .ok (.iastore, 1) := by decide +kernel
theorem dX1_lock_28 : decode cX1_lock 28 = .ok (.iinc 5 1, 3) := by decide +kernel
theorem dX1_lock_31 : decode cX1_lock 31 = .ok (.goto (-23), 3) := by decide +kernel
theorem dX1_lock_34 : decode cX1_lock 34 = .ok (.iload_n 3, 1) := by decide +kernel
theorem dX1_lock_35 : decode cX1_lock 35 = .ok (.iconst 1, 1) := by decide +kernel
theorem dX1_lock_36 : decode cX1_lock 36 = .ok (.iadd, 1) := by decide +kernel
theorem dX1_lock_37 : decode cX1_lock 37 = .ok (.istore 5, 2) := by decide +kernel
theorem dX1_lock_39 : decode cX1_lock 39 = .ok (.iload 5, 2) := by decide +kernel
theorem dX1_lock_41 : decode cX1_lock 41 = .ok (.iconst 3, 1) := by decide +kernel
theorem dX1_lock_42 : decode cX1_lock 42 = .ok (.if_icmp .gt 25, 3) := by decide +kernel
theorem dX1_lock_45 : decode cX1_lock 45 = .ok (.aload_n 0, 1) := by decide +kernel
theorem dX1_lock_46 : decode cX1_lock 46 = .ok (.getfield 17, 3) := by decide +kernel
theorem dX1_lock_49 : decode cX1_lock 49 = .ok (.iload 5, 2) := by decide +kernel
theorem dX1_lock_51 : decode cX1_lock 51 = .ok (.aaload, 1) := by decide +kernel
theorem dX1_lock_52 : decode cX1_lock 52 = .ok (.iload_n 2, 1) := by decide +kernel
theorem dX1_lock_53 : decode cX1_lock 53 = .ok (.dup2, 1) := by decide +kernel
theorem dX1_lock_54 : decode cX1_lock 54 = .ok (.iaload, 1) := by decide +kernel
theorem dX1_lock_55 : decode cX1_lock 55 = .ok (.iload 4, 2) := by decide +kernel
theorem dX1_lock_57 : decode cX1_lock 57 = .ok (.iconst (-1), 1) := by decide +kernel
theorem dX1_lock_58 : decode cX1_lock 58 = .ok (.ixor, 1) := by decide +kernel
theorem dX1_lock_59 : decode cX1_lock 59 = .ok (.iand, 1) := by decide +kernel
theorem dX1_lock_60 : decode cX1_lock 60 = .ok (.iastore, 1) := by decide +kernel
theorem dX1_lock_61 : decode cX1_lock 61 = .ok (.iinc 5 1, 3) := by decide +kernel
theorem dX1_lock_64 : decode cX1_lock 64 = .ok (.goto (-25), 3) := by decide +kernel
theorem dX1_lock_67 : decode cX1_lock 67 = .ok (.return_, 1) := by decide +kernel
set_option maxRecDepth 20000 in
theorem ggX1_give_X1_lock : GoodIn wsX1_give wsX1_lock := goodIn_r _ [6, 7, 8, 9, 10, 11, 12, 13, 14, 15, 16, 17, 18, 19, 20, 21, 22, 23] (by decide +kernel) (by decide +kernel)
set_option maxRecDepth 20000 in
theorem gX1_give_X1_lock : GoodIn wsX1_give (wsV RX1 125 RX1 yX1_lock wsX1_lock) := goodIn_app (goodIn_of _ (by decide +kernel)) ggX1_give_X1_lock
theorem dX1_give_0 : decode cX1_give 0 = .ok (.iload_n 3, 1) := by decide +kernel
theorem dX1_give_1 : decode cX1_give 1 = .ok (.istore 5, 2) := by decide +kernel
theorem dX1_give_3 : decode cX1_give 3 = .ok (.iload 5, 2) := by decide +kernel
theorem dX1_give_5 : decode cX1_give 5 = .ok (.iload 4, 2) := by decide +kernel
theorem dX1_give_7 : decode cX1_give 7 = .ok (.if_icmp .ge 17, 3) := by decide +kernel
theorem dX1_give_10 : decode cX1_give 10 = .ok (.aload_n 0, 1) := by decide +kernel
theorem dX1_give_11 : decode cX1_give 11 = .ok (.iload_n 1, 1) := by decide +kernel
theorem dX1_give_12 : decode cX1_give 12 = .ok (.iload 5, 2) := by decide +kernel
theorem dX1_give_14 : decode cX1_give 14 = .ok (.iload_n 2, 1) := by decide +kernel
theorem dX1_give_15 : decode cX1_give 15 = .ok (.invokevirtual 125, 3) := by decide +kernel
theorem dX1_give_18 : decode cX1_give 18 = .ok (.iinc 5 1, 3) := by decide +kernel
theorem dX1_give_21 : decode cX1_give 21 = .ok (.goto (-18), 3) := by decide +kernel
theorem dX1_give_24 : decode cX1_give 24 = .ok (.aload_n 0, 1) := by decide +kernel
theorem dX1_give_25 : decode cX1_give 25 = .ok (.getfield 35, 3) := by decide +kernel
theorem dX1_give_28 : decode cX1_give 28 = .ok (.iload_n 1, 1) := by decide +kernel
theorem dX1_give_29 : decode cX1_give 29 = .ok (.dup2, 1) := by decide +kernel
theorem dX1_give_30 : decode cX1_give 30 = .ok (.iaload, 1) := by decide +kernel
theorem dX1_give_31 : decode cX1_give 31 = .ok (.iconst 1, 1) := by decide +kernel
theorem dX1_give_32 : decode cX1_give 32 = .ok (.iadd, 1) := by decide +kernel
theorem dX1_give_33 : decode cX1_give 33 = .ok (.iastore, 1) := by decide +kernel
theorem dX1_give_34 : decode cX1_give 34 = .ok (.return_, 1) := by decide +kernel
theorem dX1_join_0 : decode cX1_join 0 = .ok (.aload_n 0, 1) := by decide +kernel
theorem dX1_join_1 : decode cX1_join 1 = .ok (.getfield 54, 3) := by decide +kernel
theorem dX1_join_4 : decode cX1_join 4 = .ok (.bipush 8, 2) := by decide +kernel
theorem dX1_join_6 : decode cX1_join 6 = .ok (.if_icmp .lt 4, 3) := by decide +kernel
theorem dX1_join_9 : decode cX1_join 9 = .ok (.return_, 1) := by decide +kernel
theorem dX1_join_10 : decode cX1_join 10 = .ok (.aload_n 0, 1) := by decide +kernel
theorem dX1_join_11 : decode cX1_join 11 = .ok (.getfield 20, 3) := by decide +kernel
theorem dX1_join_14 : decode cX1_join 14 = .ok (.aload_n 0, 1) := by decide +kernel
theorem dX1_join_15 : decode cX1_join 15 = .ok (.getfield 54, 3) := by decide +kernel
theorem dX1_join_18 : decode cX1_join 18 = .ok (.iload_n 1, 1) := by decide +kernel
theorem dX1_join_19 : decode cX1_join 19 = .ok (.iastore, 1) := by decide +kernel
theorem dX1_join_20 : decode cX1_join 20 = .ok (.aload_n 0, 1) := by decide +kernel
theorem dX1_join_21 : decode cX1_join 21 = .ok (.dup, 1) := by decide +kernel
theorem dX1_join_22 : decode cX1_join 22 = .ok (.getfield 54, 3) := by decide +kernel
theorem dX1_join_25 : decode cX1_join 25 = .ok (.iconst 1, 1) := by decide +kernel
theorem dX1_join_26 : decode cX1_join 26 = .ok (.iadd, 1) := by decide +kernel
theorem dX1_join_27 : decode cX1_join 27 = .ok (.putfield 54, 3) := by decide +kernel
theorem dX1_join_30 : decode cX1_join 30 = .ok (.aload_n 0, 1) := by decide +kernel
theorem dX1_join_31 : decode cX1_join 31 = .ok (.getfield 23, 3) := by decide +kernel
theorem dX1_join_34 : decode cX1_join 34 = .ok (.iload_n 1, 1) := by decide +kernel
theorem dX1_join_35 : decode cX1_join 35 = .ok (.iload_n 2, 1) := by decide +kernel
theorem dX1_join_36 : decode cX1_join 36 = .ok (.iastore, 1) := by decide +kernel
theorem dX1_join_37 : decode cX1_join 37 = .ok (.aload_n 0, 1) := by decide +kernel
theorem dX1_join_38 : decode cX1_join 38 = .ok (.getfield 26, 3) := by decide +kernel
theorem dX1_join_41 : decode cX1_join 41 = .ok (.iload_n 1, 1) := by decide +kernel
theorem dX1_join_42 : decode cX1_join 42 = .ok (.iload_n 3, 1) := by decide +kernel
theorem dX1_join_43 : decode cX1_join 43 = .ok (.iastore, 1) := by decide +kernel
theorem dX1_join_44 : decode cX1_join 44 = .ok (.aload_n 0, 1) := by decide +kernel
theorem dX1_join_45 : decode cX1_join 45 = .ok (.getfield 29, 3) := by decide +kernel
theorem dX1_join_48 : decode cX1_join 48 = .ok (.iload_n 1, 1) := by decide +kernel
theorem dX1_join_49 : decode cX1_join 49 = .ok (.iload 4, 2) := by decide +kernel
theorem dX1_join_51 : decode cX1_join 51 = .ok (.iastore, 1) := by decide +kernel
theorem dX1_join_52 : decode cX1_join 52 = .ok (.aload_n 0, 1) := by decide +kernel
theorem dX1_join_53 : decode cX1_join 53 = .ok (.getfield 32, 3) := by decide +kernel
theorem dX1_join_56 : decode cX1_join 56 = .ok (.iload_n 1, 1) := by decide +kernel
theorem dX1_join_57 : decode cX1_join 57 = .ok (.iconst 0, 1) := by decide +kernel
theorem dX1_join_58 : decode cX1_join 58 = .ok (.iastore, 1) := by decide +kernel
theorem dX1_join_59 : decode cX1_join 59 = .ok (.return_, 1) := by decide +kernel
set_option maxRecDepth 20000 in
theorem ggX1_quitRow_X1_placeInRow : GoodIn wsX1_quitRow wsX1_placeInRow := goodIn_r _ [8, 1, 2, 9, 10, 11, 12, 13, 14, 15, 16, 17, 18, 19, 20, 21, 22, 23, 24] (by decide +kernel) (by decide +kernel)
set_option maxRecDepth 20000 in
theorem gX1_quitRow_X1_placeInRow : GoodIn wsX1_quitRow (wsV RX1 129 RX1 yX1_placeInRow wsX1_placeInRow) := goodIn_app (goodIn_of _ (by decide +kernel)) ggX1_quitRow_X1_placeInRow
theorem dX1_quitRow_0 : decode cX1_quitRow 0 = .ok (.aload_n 0, 1) := by decide +kernel
theorem dX1_quitRow_1 : decode cX1_quitRow 1 = .ok (.iload_n 1, 1) := by decide +kernel
theorem dX1_quitRow_2 : decode cX1_quitRow 2 = .ok (.invokevirtual 129, 3) := by decide +kernel
theorem dX1_quitRow_5 : decode cX1_quitRow 5 = .ok (.istore_n 2, 1) := by decide +kernel
theorem dX1_quitRow_6 : decode cX1_quitRow 6 = .ok (.iload_n 2, 1) := by decide +kernel
theorem dX1_quitRow_7 : decode cX1_quitRow 7 = .ok (.ifCond .ge 4, 3) := by decide +kernel
theorem dX1_quitRow_10 : decode cX1_quitRow 10 = .ok (.return_, 1) := by decide +kernel
theorem dX1_quitRow_11 : decode cX1_quitRow 11 = .ok (.aload_n 0, 1) := by decide +kernel
theorem dX1_quitRow_12 : decode cX1_quitRow 12 = .ok (.dup, 1) := by decide +kernel
theorem dX1_quitRow_13 : decode cX1_quitRow 13 = .ok (.getfield 54, 3) := by decide +kernel
theorem dX1_quitRow_16 : decode cX1_quitRow 16 = .ok (.iconst 1, 1) := by decide +kernel
theorem dX1_quitRow_17 : decode cX1_quitRow 17 = .ok (.isub, 1) := by decide +kernel
theorem dX1_quitRow_18 : decode cX1_quitRow 18 = .ok (.putfield 54, 3) := by decide +kernel
theorem dX1_quitRow_21 : decode cX1_quitRow 21 = .ok (.iload_n 2, 1) := by decide +kernel
theorem dX1_quitRow_22 : decode cX1_quitRow 22 = .ok (.istore_n 3, 1) := by decide +kernel
theorem dX1_quitRow_23 : decode cX1_quitRow 23 = .ok (.iload_n 3, 1) := by decide +kernel
theorem dX1_quitRow_24 : decode cX1_quitRow 24 = .ok (.aload_n 0, 1) := by decide +kernel
theorem dX1_quitRow_25 : decode cX1_quitRow 25 = .ok (.getfield 54, 3) := by decide +kernel
theorem dX1_quitRow_28 : decode cX1_quitRow 28 = .ok (.if_icmp .ge 23, 3) := by decide +kernel
theorem dX1_quitRow_31 : decode cX1_quitRow 31 = .ok (.aload_n 0, 1) := by decide +kernel
theorem dX1_quitRow_32 : decode cX1_quitRow 32 = .ok (.getfield 20, 3) := by decide +kernel
theorem dX1_quitRow_35 : decode cX1_quitRow 35 = .ok (.iload_n 3, 1) := by decide +kernel
theorem dX1_quitRow_36 : decode cX1_quitRow 36 = .ok (.aload_n 0, 1) := by decide +kernel
theorem dX1_quitRow_37 : decode cX1_quitRow 37 = .ok (.getfield 20, 3) := by decide +kernel
theorem dX1_quitRow_40 : decode cX1_quitRow 40 = .ok (.iload_n 3, 1) := by decide +kernel
theorem dX1_quitRow_41 : decode cX1_quitRow 41 = .ok (.iconst 1, 1) := by decide +kernel
theorem dX1_quitRow_42 : decode cX1_quitRow 42 = .ok (.iadd, 1) := by decide +kernel
theorem dX1_quitRow_43 : decode cX1_quitRow 43 = .ok (.iaload, 1) := by decide +kernel
theorem dX1_quitRow_44 : decode cX1_quitRow 44 = .ok (.iastore, 1) := by decide +kernel
theorem dX1_quitRow_45 : decode cX1_quitRow 45 = .ok (.iinc 3 1, 3) := by decide +kernel
theorem dX1_quitRow_48 : decode cX1_quitRow 48 = .ok (.goto (-25), 3) := by decide +kernel
theorem dX1_quitRow_51 : decode cX1_quitRow 51 = .ok (.aload_n 0, 1) := by decide +kernel
theorem dX1_quitRow_52 : decode cX1_quitRow 52 = .ok (.getfield 23, 3) := by decide +kernel
theorem dX1_quitRow_55 : decode cX1_quitRow 55 = .ok (.iload_n 1, 1) := by decide +kernel
theorem dX1_quitRow_56 : decode cX1_quitRow 56 = .ok (.iconst 0, 1) := by decide +kernel
theorem dX1_quitRow_57 : decode cX1_quitRow 57 = .ok (.iastore, 1) := by decide +kernel
theorem dX1_quitRow_58 : decode cX1_quitRow 58 = .ok (.return_, 1) := by decide +kernel
set_option maxRecDepth 20000 in
theorem ggX1_goThroughRow_X1_waitedForAt : GoodIn wsX1_goThroughRow wsX1_waitedForAt := goodIn_r _ [16, 2, 3, 4, 5, 17, 18, 19, 15, 20, 21, 22, 8, 9, 10, 11, 23, 24, 25, 26, 27, 28, 29, 30, 31, 32, 50, 51, 52, 53, 54, 55, 56, 57, 58, 59, 60, 61, 62, 63, 64, 65] (by decide +kernel) (by decide +kernel)
set_option maxRecDepth 20000 in
theorem gX1_goThroughRow_X1_waitedForAt : GoodIn wsX1_goThroughRow (wsV RX1 132 RX1 yX1_waitedForAt wsX1_waitedForAt) := goodIn_app (goodIn_of _ (by decide +kernel)) ggX1_goThroughRow_X1_waitedForAt
set_option maxRecDepth 20000 in
theorem ggX1_goThroughRow_X1_give : GoodIn wsX1_goThroughRow wsX1_give := goodIn_r _ [36, 37, 38, 39, 40, 15, 41, 21, 50, 51, 52, 53, 54, 55, 56, 57, 58, 59, 60, 61, 62, 63, 64, 65] (by decide +kernel) (by decide +kernel)
set_option maxRecDepth 20000 in
theorem gX1_goThroughRow_X1_give : GoodIn wsX1_goThroughRow (wsV RX1 84 RX1 yX1_give wsX1_give) := goodIn_app (goodIn_of _ (by decide +kernel)) ggX1_goThroughRow_X1_give
set_option maxRecDepth 20000 in
theorem ggX1_goThroughRow_X1_quitRow : GoodIn wsX1_goThroughRow wsX1_quitRow := goodIn_r _ [45, 1, 2, 3, 46, 47, 48, 15, 49, 50, 51, 52, 53, 54, 55, 56, 57, 58, 59, 60, 61, 62, 63, 64, 65] (by decide +kernel) (by decide +kernel)
set_option maxRecDepth 20000 in
theorem gX1_goThroughRow_X1_quitRow : GoodIn wsX1_goThroughRow (wsV RX1 99 RX1 yX1_quitRow wsX1_quitRow) := goodIn_app (goodIn_of _ (by decide +kernel)) ggX1_goThroughRow_X1_quitRow
theorem dX1_goThroughRow_0 : decode cX1_goThroughRow 0 = .ok (.iconst 0, 1) := by decide +kernel
theorem dX1_goThroughRow_1 : decode cX1_goThroughRow 1 = .ok (.istore_n 1, 1) := by decide +kernel
theorem dX1_goThroughRow_2 : decode cX1_goThroughRow 2 = .ok (.iconst 0, 1) := by decide +kernel
theorem dX1_goThroughRow_3 : decode cX1_goThroughRow 3 = .ok (.istore_n 2, 1) := by decide +kernel
theorem dX1_goThroughRow_4 : decode cX1_goThroughRow 4 = .ok (.iconst 0, 1) := by decide +kernel
theorem dX1_goThroughRow_5 : decode cX1_goThroughRow 5 = .ok (.istore_n 3, 1) := by decide +kernel
theorem dX1_goThroughRow_6 : decode cX1_goThroughRow 6 = .ok (.iload_n 3, 1) := by decide +kernel
theorem dX1_goThroughRow_7 : decode cX1_goThroughRow 7 = .ok (.bipush 64, 2) := by decide +kernel
theorem dX1_goThroughRow_9 : decode cX1_goThroughRow 9 = .ok (.if_icmp .ge 105, 3) := by decide +kernel
theorem dX1_goThroughRow_12 : decode cX1_goThroughRow 12 = .ok (.iload_n 2, 1) := by decide +kernel
theorem dX1_goThroughRow_13 : decode cX1_goThroughRow 13 = .ok (.aload_n 0, 1) := by decide +kernel
theorem dX1_goThroughRow_14 : decode cX1_goThroughRow 14 = .ok (.getfield 54, 3) := by decide +kernel
theorem dX1_goThroughRow_17 : decode cX1_goThroughRow 17 = .ok (.if_icmp .ge 97, 3) := by decide +kernel
theorem dX1_goThroughRow_20 : decode cX1_goThroughRow 20 = .ok (.aload_n 0, 1) := by decide +kernel
theorem dX1_goThroughRow_21 : decode cX1_goThroughRow 21 = .ok (.iload_n 2, 1) := by decide +kernel
theorem dX1_goThroughRow_22 : decode cX1_goThroughRow 22 = .ok (.invokevirtual 132, 3) := by decide +kernel
theorem dX1_goThroughRow_25 : decode cX1_goThroughRow 25 = .ok (.ifCond .eq 9, 3) := by decide +kernel
theorem dX1_goThroughRow_28 : decode cX1_goThroughRow 28 = .ok (.iinc 2 1, 3) := by decide +kernel
theorem dX1_goThroughRow_31 : decode cX1_goThroughRow 31 = .ok (.goto 77, 3) := by decide +kernel
theorem dX1_goThroughRow_34 : decode cX1_goThroughRow 34 = .ok (.aload_n 0, 1) := by decide +kernel
theorem dX1_goThroughRow_35 : decode cX1_goThroughRow 35 = .ok (.getfield 20, 3) := by decide +kernel
theorem dX1_goThroughRow_38 : decode cX1_goThroughRow 38 = .ok (.iload_n 2, 1) := by decide +kernel
theorem dX1_goThroughRow_39 : decode cX1_goThroughRow 39 = .ok (.iaload, 1) := by decide +kernel
theorem dX1_goThroughRow_40 : decode cX1_goThroughRow 40 = .ok (.istore 4, 2) := by decide +kernel
theorem dX1_goThroughRow_42 : decode cX1_goThroughRow 42 = .ok (.aload_n 0, 1) := by decide +kernel
theorem dX1_goThroughRow_43 : decode cX1_goThroughRow 43 = .ok (.iload 4, 2) := by decide +kernel
theorem dX1_goThroughRow_45 : decode cX1_goThroughRow 45 = .ok (.aload_n 0, 1) := by decide +kernel
theorem dX1_goThroughRow_46 : decode cX1_goThroughRow 46 = .ok (.getfield 23, 3) := by decide +kernel
theorem dX1_goThroughRow_49 : decode cX1_goThroughRow 49 = .ok (.iload 4, 2) := by decide +kernel
theorem dX1_goThroughRow_51 : decode cX1_goThroughRow 51 = .ok (.iaload, 1) := by decide +kernel
theorem dX1_goThroughRow_52 : decode cX1_goThroughRow 52 = .ok (.aload_n 0, 1) := by decide +kernel
theorem dX1_goThroughRow_53 : decode cX1_goThroughRow 53 = .ok (.getfield 26, 3) := by decide +kernel
theorem dX1_goThroughRow_56 : decode cX1_goThroughRow 56 = .ok (.iload 4, 2) := by decide +kernel
theorem dX1_goThroughRow_58 : decode cX1_goThroughRow 58 = .ok (.iaload, 1) := by decide +kernel
theorem dX1_goThroughRow_59 : decode cX1_goThroughRow 59 = .ok (.aload_n 0, 1) := by decide +kernel
theorem dX1_goThroughRow_60 : decode cX1_goThroughRow 60 = .ok (.getfield 29, 3) := by decide +kernel
theorem dX1_goThroughRow_63 : decode cX1_goThroughRow 63 = .ok (.iload 4, 2) := by decide +kernel
theorem dX1_goThroughRow_65 : decode cX1_goThroughRow 65 = .ok (.iaload, 1) := by decide +kernel
theorem dX1_goThroughRow_66 : decode cX1_goThroughRow 66 = .ok (.invokevirtual 84, 3) := by decide +kernel
theorem dX1_goThroughRow_69 : decode cX1_goThroughRow 69 = .ok (.aload_n 0, 1) := by decide +kernel
theorem dX1_goThroughRow_70 : decode cX1_goThroughRow 70 = .ok (.getfield 44, 3) := by decide +kernel
theorem dX1_goThroughRow_73 : decode cX1_goThroughRow 73 = .ok (.iload 4, 2) := by decide +kernel
theorem dX1_goThroughRow_75 : decode cX1_goThroughRow 75 = .ok (.aload_n 0, 1) := by decide +kernel
theorem dX1_goThroughRow_76 : decode cX1_goThroughRow 76 = .ok (.getfield 44, 3) := by decide +kernel
theorem dX1_goThroughRow_79 : decode cX1_goThroughRow 79 = .ok (.iload 4, 2) := by decide +kernel
theorem dX1_goThroughRow_81 : decode cX1_goThroughRow 81 = .ok (.iaload, 1) := by decide +kernel
theorem dX1_goThroughRow_82 : decode cX1_goThroughRow 82 = .ok (.aload_n 0, 1) := by decide +kernel
theorem dX1_goThroughRow_83 : decode cX1_goThroughRow 83 = .ok (.getfield 32, 3) := by decide +kernel
theorem dX1_goThroughRow_86 : decode cX1_goThroughRow 86 = .ok (.iload 4, 2) := by decide +kernel
theorem dX1_goThroughRow_88 : decode cX1_goThroughRow 88 = .ok (.iaload, 1) := by decide +kernel
theorem dX1_goThroughRow_89 : decode cX1_goThroughRow 89 = .ok (.invokestatic 135, 3) := by decide +kernel
theorem dX1_goThroughRow_92 : decode cX1_goThroughRow 92 = .ok (.iastore, 1) := by decide +kernel
theorem dX1_goThroughRow_93 : decode cX1_goThroughRow 93 = .ok (.aload_n 0, 1) := by decide +kernel
theorem dX1_goThroughRow_94 : decode cX1_goThroughRow 94 = .ok (.iload 4, 2) := by decide +kernel
theorem dX1_goThroughRow_96 : decode cX1_goThroughRow 96 = .ok (.invokevirtual 99, 3) := by decide +kernel
theorem dX1_goThroughRow_99 : decode cX1_goThroughRow 99 = .ok (.iload_n 1, 1) := by decide +kernel
theorem dX1_goThroughRow_100 : decode cX1_goThroughRow 100 = .ok (.iconst 1, 1) := by decide +kernel
theorem dX1_goThroughRow_101 : decode cX1_goThroughRow 101 = .ok (.iload 4, 2) := by decide +kernel
theorem dX1_goThroughRow_103 : decode cX1_goThroughRow 103 = .ok (.ishl, 1) := by decide +kernel
theorem dX1_goThroughRow_104 : decode cX1_goThroughRow 104 = .ok (.ior, 1) := by decide +kernel
theorem dX1_goThroughRow_105 : decode cX1_goThroughRow 105 = .ok (.istore_n 1, 1) := by decide +kernel
theorem dX1_goThroughRow_106 : decode cX1_goThroughRow 106 = .ok (.iconst 0, 1) := by decide +kernel
theorem dX1_goThroughRow_107 : decode cX1_goThroughRow 107 = .ok (.istore_n 2, 1) := by decide +kernel
theorem dX1_goThroughRow_108 : decode cX1_goThroughRow 108 = .ok (.iinc 3 1, 3) := by decide +kernel
theorem dX1_goThroughRow_111 : decode cX1_goThroughRow 111 = .ok (.goto (-105), 3) := by decide +kernel
theorem dX1_goThroughRow_114 : decode cX1_goThroughRow 114 = .ok (.iload_n 1, 1) := by decide +kernel
theorem dX1_goThroughRow_115 : decode cX1_goThroughRow 115 = .ok (.ireturn, 1) := by decide +kernel
set_option maxRecDepth 20000 in
theorem ggX1_inWay_X3_holds : GoodIn wsX1_inWay wsX3_holds := goodIn_r _ [16] (by decide +kernel) (by decide +kernel)
set_option maxRecDepth 20000 in
theorem gX1_inWay_X3_holds_n140 : GoodIn wsX1_inWay (wsX3_holds) := ggX1_inWay_X3_holds
set_option maxRecDepth 20000 in
theorem ggX1_inWay_X1_isWeaker : GoodIn wsX1_inWay wsX1_isWeaker := goodIn_r _ [21, 1, 22, 23, 24, 25, 26, 27, 28, 29, 30, 31, 32, 33, 34, 35, 36, 37] (by decide +kernel) (by decide +kernel)
set_option maxRecDepth 20000 in
theorem gX1_inWay_X1_isWeaker : GoodIn wsX1_inWay (wsV RX1 146 RX1 yX1_isWeaker wsX1_isWeaker) := goodIn_app (goodIn_of _ (by decide +kernel)) ggX1_inWay_X1_isWeaker
theorem dX1_inWay_0 : decode cX1_inWay 0 = .ok (.iconst 1, 1) := by decide +kernel
theorem dX1_inWay_1 : decode cX1_inWay 1 = .ok (.iload_n 1, 1) := by decide +kernel
theorem dX1_inWay_2 : decode cX1_inWay 2 = .ok (.ishl, 1) := by decide +kernel
theorem dX1_inWay_3 : decode cX1_inWay 3 = .ok (.istore 6, 2) := by decide +kernel
theorem dX1_inWay_5 : decode cX1_inWay 5 = .ok (.aload_n 0, 1) := by decide +kernel
theorem dX1_inWay_6 : decode cX1_inWay 6 = .ok (.getfield 17, 3) := by decide +kernel
theorem dX1_inWay_9 : decode cX1_inWay 9 = .ok (.iload_n 2, 1) := by decide +kernel
theorem dX1_inWay_10 : decode cX1_inWay 10 = .ok (.aaload, 1) := by decide +kernel
theorem dX1_inWay_11 : decode cX1_inWay 11 = .ok (.astore 7, 2) := by decide +kernel
theorem dX1_inWay_13 : decode cX1_inWay 13 = .ok (.aload_n 0, 1) := by decide +kernel
theorem dX1_inWay_14 : decode cX1_inWay 14 = .ok (.getfield 17, 3) := by decide +kernel
theorem dX1_inWay_17 : decode cX1_inWay 17 = .ok (.iconst 4, 1) := by decide +kernel
theorem dX1_inWay_18 : decode cX1_inWay 18 = .ok (.iload_n 2, 1) := by decide +kernel
theorem dX1_inWay_19 : decode cX1_inWay 19 = .ok (.isub, 1) := by decide +kernel
theorem dX1_inWay_20 : decode cX1_inWay 20 = .ok (.aaload, 1) := by decide +kernel
theorem dX1_inWay_21 : decode cX1_inWay 21 = .ok (.astore 8, 2) := by decide +kernel
theorem dX1_inWay_23 : decode cX1_inWay 23 = .ok (.iconst 0, 1) := by decide +kernel
theorem dX1_inWay_24 : decode cX1_inWay 24 = .ok (.istore 9, 2) := by decide +kernel
theorem dX1_inWay_26 : decode cX1_inWay 26 = .ok (.iload_n 3, 1) := by decide +kernel
theorem dX1_inWay_27 : decode cX1_inWay 27 = .ok (.istore 10, 2) := by decide +kernel
theorem dX1_inWay_29 : decode cX1_inWay 29 = .ok (.iload 10, 2) := by decide +kernel
theorem dX1_inWay_31 : decode cX1_inWay 31 = .ok (.iload 4, 2) := by decide +kernel
theorem dX1_inWay_33 : decode cX1_inWay 33 = .ok (.if_icmp .ge 30, 3) := by decide +kernel
theorem dX1_inWay_36 : decode cX1_inWay 36 = .ok (.aload 7, 2) := by decide +kernel
theorem dX1_inWay_38 : decode cX1_inWay 38 = .ok (.iload 10, 2) := by decide +kernel
theorem dX1_inWay_40 : decode cX1_inWay 40 = .ok (.iaload, 1) := by decide +kernel
theorem dX1_inWay_41 : decode cX1_inWay 41 = .ok (.iload 6, 2) := by decide +kernel
theorem dX1_inWay_43 : decode cX1_inWay 43 = .ok (.iand, 1) := by decide +kernel
theorem dX1_inWay_44 : decode cX1_inWay 44 = .ok (.ifCond .ne 13, 3) := by decide +kernel
theorem dX1_inWay_47 : decode cX1_inWay 47 = .ok (.iload 9, 2) := by decide +kernel
theorem dX1_inWay_49 : decode cX1_inWay 49 = .ok (.aload 8, 2) := by decide +kernel
theorem dX1_inWay_51 : decode cX1_inWay 51 = .ok (.iload 10, 2) := by decide +kernel
theorem dX1_inWay_53 : decode cX1_inWay 53 = .ok (.iaload, 1) := by decide +kernel
theorem dX1_inWay_54 : decode cX1_inWay 54 = .ok (.ior, 1) := by decide +kernel
theorem dX1_inWay_55 : decode cX1_inWay 55 = .ok (.istore 9, 2) := by decide +kernel
theorem dX1_inWay_57 : decode cX1_inWay 57 = .ok (.iinc 10 1, 3) := by decide +kernel
theorem dX1_inWay_60 : decode cX1_inWay 60 = .ok (.goto (-31), 3) := by decide +kernel
theorem dX1_inWay_63 : decode cX1_inWay 63 = .ok (.iconst 0, 1) := by decide +kernel
theorem dX1_inWay_64 : decode cX1_inWay 64 = .ok (.istore 10, 2) := by decide +kernel
theorem dX1_inWay_66 : decode cX1_inWay 66 = .ok (.iload 10, 2) := by decide +kernel
theorem dX1_inWay_68 : decode cX1_inWay 68 = .ok (.iload 5, 2) := by decide +kernel
theorem dX1_inWay_70 : decode cX1_inWay 70 = .ok (.if_icmp .ge 100, 3) := by decide +kernel
theorem dX1_inWay_73 : decode cX1_inWay 73 = .ok (.aload_n 0, 1) := by decide +kernel
theorem dX1_inWay_74 : decode cX1_inWay 74 = .ok (.getfield 9, 3) := by decide +kernel
theorem dX1_inWay_77 : decode cX1_inWay 77 = .ok (.iconst 0, 1) := by decide +kernel
theorem dX1_inWay_78 : decode cX1_inWay 78 = .ok (.iaload, 1) := by decide +kernel
theorem dX1_inWay_79 : decode cX1_inWay 79 = .ok (.iconst 1, 1) := by decide +kernel
theorem dX1_inWay_80 : decode cX1_inWay 80 = .ok (.if_icmp .ne 90, 3) := by decide +kernel
theorem dX1_inWay_83 : decode cX1_inWay 83 = .ok (.aload_n 0, 1) := by decide +kernel
theorem dX1_inWay_84 : decode cX1_inWay 84 = .ok (.getfield 20, 3) := by decide +kernel
theorem dX1_inWay_87 : decode cX1_inWay 87 = .ok (.iload 10, 2) := by decide +kernel
theorem dX1_inWay_89 : decode cX1_inWay 89 = .ok (.iaload, 1) := by decide +kernel
theorem dX1_inWay_90 : decode cX1_inWay 90 = .ok (.istore 11, 2) := by decide +kernel
theorem dX1_inWay_92 : decode cX1_inWay 92 = .ok (.aload_n 0, 1) := by decide +kernel
theorem dX1_inWay_93 : decode cX1_inWay 93 = .ok (.getfield 23, 3) := by decide +kernel
theorem dX1_inWay_96 : decode cX1_inWay 96 = .ok (.iload 11, 2) := by decide +kernel
theorem dX1_inWay_98 : decode cX1_inWay 98 = .ok (.iaload, 1) := by decide +kernel
theorem dX1_inWay_99 : decode cX1_inWay 99 = .ok (.iload_n 2, 1) := by decide +kernel
theorem dX1_inWay_100 : decode cX1_inWay 100 = .ok (.iadd, 1) := by decide +kernel
theorem dX1_inWay_101 : decode cX1_inWay 101 = .ok (.iconst 4, 1) := by decide +kernel
theorem dX1_inWay_102 : decode cX1_inWay 102 = .ok (.if_icmp .lt 62, 3) := by decide +kernel
theorem dX1_inWay_105 : decode cX1_inWay 105 = .ok (.iload 9, 2) := by decide +kernel
theorem dX1_inWay_107 : decode cX1_inWay 107 = .ok (.iload 11, 2) := by decide +kernel
theorem dX1_inWay_109 : decode cX1_inWay 109 = .ok (.invokestatic 140, 3) := by decide +kernel
theorem dX1_inWay_112 : decode cX1_inWay 112 = .ok (.ifCond .ne 52, 3) := by decide +kernel
theorem dX1_inWay_115 : decode cX1_inWay 115 = .ok (.iload_n 3, 1) := by decide +kernel
theorem dX1_inWay_116 : decode cX1_inWay 116 = .ok (.aload_n 0, 1) := by decide +kernel
theorem dX1_inWay_117 : decode cX1_inWay 117 = .ok (.getfield 26, 3) := by decide +kernel
theorem dX1_inWay_120 : decode cX1_inWay 120 = .ok (.iload 11, 2) := by decide +kernel
theorem dX1_inWay_122 : decode cX1_inWay 122 = .ok (.iaload, 1) := by decide +kernel
theorem dX1_inWay_123 : decode cX1_inWay 123 = .ok (.invokestatic 135, 3) := by decide +kernel
theorem dX1_inWay_126 : decode cX1_inWay 126 = .ok (.istore 12, 2) := by decide +kernel
theorem dX1_inWay_128 : decode cX1_inWay 128 = .ok (.iload 4, 2) := by decide +kernel
theorem dX1_inWay_130 : decode cX1_inWay 130 = .ok (.aload_n 0, 1) := by decide +kernel
theorem dX1_inWay_131 : decode cX1_inWay 131 = .ok (.getfield 29, 3) := by decide +kernel
theorem dX1_inWay_134 : decode cX1_inWay 134 = .ok (.iload 11, 2) := by decide +kernel
theorem dX1_inWay_136 : decode cX1_inWay 136 = .ok (.iaload, 1) := by decide +kernel
theorem dX1_inWay_137 : decode cX1_inWay 137 = .ok (.invokestatic 143, 3) := by decide +kernel
theorem dX1_inWay_140 : decode cX1_inWay 140 = .ok (.istore 13, 2) := by decide +kernel
theorem dX1_inWay_142 : decode cX1_inWay 142 = .ok (.aload_n 0, 1) := by decide +kernel
theorem dX1_inWay_143 : decode cX1_inWay 143 = .ok (.iload_n 1, 1) := by decide +kernel
theorem dX1_inWay_144 : decode cX1_inWay 144 = .ok (.iload_n 2, 1) := by decide +kernel
theorem dX1_inWay_145 : decode cX1_inWay 145 = .ok (.iload 12, 2) := by decide +kernel
theorem dX1_inWay_147 : decode cX1_inWay 147 = .ok (.iload 13, 2) := by decide +kernel
theorem dX1_inWay_149 : decode cX1_inWay 149 = .ok (.invokevirtual 146, 3) := by decide +kernel
theorem dX1_inWay_152 : decode cX1_inWay 152 = .ok (.ifCond .eq 12, 3) := by decide +kernel
theorem dX1_inWay_155 : decode cX1_inWay 155 = .ok (.iload 9, 2) := by decide +kernel
theorem dX1_inWay_157 : decode cX1_inWay 157 = .ok (.iconst 1, 1) := by decide +kernel
theorem dX1_inWay_158 : decode cX1_inWay 158 = .ok (.iload 11, 2) := by decide +kernel
theorem dX1_inWay_160 : decode cX1_inWay 160 = .ok (.ishl, 1) := by decide +kernel
theorem dX1_inWay_161 : decode cX1_inWay 161 = .ok (.ior, 1) := by decide +kernel
theorem dX1_inWay_162 : decode cX1_inWay 162 = .ok (.istore 9, 2) := by decide +kernel
theorem dX1_inWay_164 : decode cX1_inWay 164 = .ok (.iinc 10 1, 3) := by decide +kernel
theorem dX1_inWay_167 : decode cX1_inWay 167 = .ok (.goto (-101), 3) := by decide +kernel
theorem dX1_inWay_170 : decode cX1_inWay 170 = .ok (.iload 9, 2) := by decide +kernel
theorem dX1_inWay_172 : decode cX1_inWay 172 = .ok (.iload 6, 2) := by decide +kernel
theorem dX1_inWay_174 : decode cX1_inWay 174 = .ok (.iconst (-1), 1) := by decide +kernel
theorem dX1_inWay_175 : decode cX1_inWay 175 = .ok (.ixor, 1) := by decide +kernel
theorem dX1_inWay_176 : decode cX1_inWay 176 = .ok (.iand, 1) := by decide +kernel
theorem dX1_inWay_177 : decode cX1_inWay 177 = .ok (.ireturn, 1) := by decide +kernel
theorem dX1_isWeaker_0 : decode cX1_isWeaker 0 = .ok (.iconst 1, 1) := by decide +kernel
theorem dX1_isWeaker_1 : decode cX1_isWeaker 1 = .ok (.iload_n 1, 1) := by decide +kernel
theorem dX1_isWeaker_2 : decode cX1_isWeaker 2 = .ok (.ishl, 1) := by decide +kernel
theorem dX1_isWeaker_3 : decode cX1_isWeaker 3 = .ok (.istore 5, 2) := by decide +kernel
theorem dX1_isWeaker_5 : decode cX1_isWeaker 5 = .ok (.aload_n 0, 1) := by decide +kernel
theorem dX1_isWeaker_6 : decode cX1_isWeaker 6 = .ok (.getfield 17, 3) := by decide +kernel
theorem dX1_isWeaker_9 : decode cX1_isWeaker 9 = .ok (.iload_n 2, 1) := by decide +kernel
theorem dX1_isWeaker_10 : decode cX1_isWeaker 10 = .ok (.aaload, 1) := by decide +kernel
theorem dX1_isWeaker_11 : decode cX1_isWeaker 11 = .ok (.astore 6, 2) := by decide +kernel
theorem dX1_isWeaker_13 : decode cX1_isWeaker 13 = .ok (.iload_n 3, 1) := by decide +kernel
theorem dX1_isWeaker_14 : decode cX1_isWeaker 14 = .ok (.istore 7, 2) := by decide +kernel
theorem dX1_isWeaker_16 : decode cX1_isWeaker 16 = .ok (.iload 7, 2) := by decide +kernel
theorem dX1_isWeaker_18 : decode cX1_isWeaker 18 = .ok (.iload 4, 2) := by decide +kernel
theorem dX1_isWeaker_20 : decode cX1_isWeaker 20 = .ok (.if_icmp .ge 22, 3) := by decide +kernel
theorem dX1_isWeaker_23 : decode cX1_isWeaker 23 = .ok (.aload 6, 2) := by decide +kernel
theorem dX1_isWeaker_25 : decode cX1_isWeaker 25 = .ok (.iload 7, 2) := by decide +kernel
theorem dX1_isWeaker_27 : decode cX1_isWeaker 27 = .ok (.iaload, 1) := by decide +kernel
theorem dX1_isWeaker_28 : decode cX1_isWeaker 28 = .ok (.iload 5, 2) := by decide +kernel
theorem dX1_isWeaker_30 : decode cX1_isWeaker 30 = .ok (.iand, 1) := by decide +kernel
theorem dX1_isWeaker_31 : decode cX1_isWeaker 31 = .ok (.ifCond .ne 5, 3) := by decide +kernel
theorem dX1_isWeaker_34 : decode cX1_isWeaker 34 = .ok (.iconst 1, 1) := by decide +kernel
theorem dX1_isWeaker_35 : decode cX1_isWeaker 35 = .ok (.ireturn, 1) := by decide +kernel
theorem dX1_isWeaker_36 : decode cX1_isWeaker 36 = .ok (.iinc 7 1, 3) := by decide +kernel
theorem dX1_isWeaker_39 : decode cX1_isWeaker 39 = .ok (.goto (-23), 3) := by decide +kernel
theorem dX1_isWeaker_42 : decode cX1_isWeaker 42 = .ok (.iconst 0, 1) := by decide +kernel
theorem dX1_isWeaker_43 : decode cX1_isWeaker 43 = .ok (.ireturn, 1) := by decide +kernel
set_option maxRecDepth 20000 in
theorem ggX1_waitedForAt_X1_inWay : GoodIn wsX1_waitedForAt wsX1_inWay := goodIn_r _ [9, 10, 11, 1, 2, 3, 12, 13, 14, 15, 4, 16, 17, 18, 19, 20, 21, 22, 23, 24, 8, 25, 26, 27, 28, 29, 30, 31, 32, 33, 34, 35, 36, 37, 38, 39, 40, 41] (by decide +kernel) (by decide +kernel)
set_option maxRecDepth 20000 in
theorem gX1_waitedForAt_X1_inWay : GoodIn wsX1_waitedForAt (wsV RX1 80 RX1 yX1_inWay wsX1_inWay) := goodIn_app (goodIn_of _ (by decide +kernel)) ggX1_waitedForAt_X1_inWay
theorem dX1_waitedForAt_0 : decode cX1_waitedForAt 0 = .ok (.aload_n 0, 1) := by decide +kernel
theorem dX1_waitedForAt_1 : decode cX1_waitedForAt 1 = .ok (.getfield 20, 3) := by decide +kernel
theorem dX1_waitedForAt_4 : decode cX1_waitedForAt 4 = .ok (.iload_n 1, 1) := by decide +kernel
theorem dX1_waitedForAt_5 : decode cX1_waitedForAt 5 = .ok (.iaload, 1) := by decide +kernel
theorem dX1_waitedForAt_6 : decode cX1_waitedForAt 6 = .ok (.istore_n 2, 1) := by decide +kernel
theorem dX1_waitedForAt_7 : decode cX1_waitedForAt 7 = .ok (.aload_n 0, 1) := by decide +kernel
theorem dX1_waitedForAt_8 : decode cX1_waitedForAt 8 = .ok (.iload_n 2, 1) := by decide +kernel
theorem dX1_waitedForAt_9 : decode cX1_waitedForAt 9 = .ok (.aload_n 0, 1) := by decide +kernel
theorem dX1_waitedForAt_10 : decode cX1_waitedForAt 10 = .ok (.getfield 23, 3) := by decide +kernel
theorem dX1_waitedForAt_13 : decode cX1_waitedForAt 13 = .ok (.iload_n 2, 1) := by decide +kernel
theorem dX1_waitedForAt_14 : decode cX1_waitedForAt 14 = .ok (.iaload, 1) := by decide +kernel
theorem dX1_waitedForAt_15 : decode cX1_waitedForAt 15 = .ok (.aload_n 0, 1) := by decide +kernel
theorem dX1_waitedForAt_16 : decode cX1_waitedForAt 16 = .ok (.getfield 26, 3) := by decide +kernel
theorem dX1_waitedForAt_19 : decode cX1_waitedForAt 19 = .ok (.iload_n 2, 1) := by decide +kernel
theorem dX1_waitedForAt_20 : decode cX1_waitedForAt 20 = .ok (.iaload, 1) := by decide +kernel
theorem dX1_waitedForAt_21 : decode cX1_waitedForAt 21 = .ok (.aload_n 0, 1) := by decide +kernel
theorem dX1_waitedForAt_22 : decode cX1_waitedForAt 22 = .ok (.getfield 29, 3) := by decide +kernel
theorem dX1_waitedForAt_25 : decode cX1_waitedForAt 25 = .ok (.iload_n 2, 1) := by decide +kernel
theorem dX1_waitedForAt_26 : decode cX1_waitedForAt 26 = .ok (.iaload, 1) := by decide +kernel
theorem dX1_waitedForAt_27 : decode cX1_waitedForAt 27 = .ok (.iload_n 1, 1) := by decide +kernel
theorem dX1_waitedForAt_28 : decode cX1_waitedForAt 28 = .ok (.invokevirtual 80, 3) := by decide +kernel
theorem dX1_waitedForAt_31 : decode cX1_waitedForAt 31 = .ok (.ireturn, 1) := by decide +kernel
set_option maxRecDepth 20000 in
theorem ggX1_waitedFor_X1_placeInRow : GoodIn wsX1_waitedFor wsX1_placeInRow := goodIn_r _ [5, 6, 7, 35, 36, 37, 38, 39, 40, 41, 42, 43, 44, 45, 46, 47, 48, 49, 50] (by decide +kernel) (by decide +kernel)
set_option maxRecDepth 20000 in
theorem gX1_waitedFor_X1_placeInRow : GoodIn wsX1_waitedFor (wsV RX1 129 RX1 yX1_placeInRow wsX1_placeInRow) := goodIn_app (goodIn_of _ (by decide +kernel)) ggX1_waitedFor_X1_placeInRow
set_option maxRecDepth 20000 in
theorem ggX1_waitedFor_X1_waitedForAt : GoodIn wsX1_waitedFor wsX1_waitedForAt := goodIn_r _ [11, 7, 12, 13, 14, 15, 16, 17, 4, 18, 19, 20, 21, 22, 23, 24, 25, 26, 27, 28, 29, 30, 31, 32, 33, 34, 35, 36, 37, 38, 39, 40, 41, 42, 43, 44, 45, 46, 47, 48, 49, 50] (by decide +kernel) (by decide +kernel)
set_option maxRecDepth 20000 in
theorem gX1_waitedFor_X1_waitedForAt : GoodIn wsX1_waitedFor (wsV RX1 132 RX1 yX1_waitedForAt wsX1_waitedForAt) := goodIn_app (goodIn_of _ (by decide +kernel)) ggX1_waitedFor_X1_waitedForAt
theorem dX1_waitedFor_0 : decode cX1_waitedFor 0 = .ok (.aload_n 0, 1) := by decide +kernel
theorem dX1_waitedFor_1 : decode cX1_waitedFor 1 = .ok (.iload_n 1, 1) := by decide +kernel
theorem dX1_waitedFor_2 : decode cX1_waitedFor 2 = .ok (.invokevirtual 129, 3) := by decide +kernel
theorem dX1_waitedFor_5 : decode cX1_waitedFor 5 = .ok (.istore_n 2, 1) := by decide +kernel
theorem dX1_waitedFor_6 : decode cX1_waitedFor 6 = .ok (.iload_n 2, 1) := by decide +kernel
theorem dX1_waitedFor_7 : decode cX1_waitedFor 7 = .ok (.ifCond .ge 7, 3) := by decide +kernel
theorem dX1_waitedFor_10 : decode cX1_waitedFor 10 = .ok (.iconst 0, 1) := by decide +kernel
theorem dX1_waitedFor_11 : decode cX1_waitedFor 11 = .ok (.goto 8, 3) := by decide +kernel
theorem dX1_waitedFor_14 : decode cX1_waitedFor 14 = .ok (.aload_n 0, 1) := by decide +kernel
theorem dX1_waitedFor_15 : decode cX1_waitedFor 15 = .ok (.iload_n 2, 1) := by decide +kernel
theorem dX1_waitedFor_16 : decode cX1_waitedFor 16 = .ok (.invokevirtual 132, 3) := by decide +kernel
theorem dX1_waitedFor_19 : decode cX1_waitedFor 19 = .ok (.ireturn, 1) := by decide +kernel
set_option maxRecDepth 20000 in
theorem ggX1_ringOf_X1_waitedForAt : GoodIn wsX1_ringOf wsX1_waitedForAt := goodIn_r _ [8, 3, 9, 10, 11, 12, 13, 14, 7, 15, 16, 17, 18, 19, 20, 21, 22, 23, 24, 25, 26, 27, 28, 29, 30, 31, 32, 33, 34, 35, 36, 37, 38, 39, 40, 41, 42, 43, 44, 45, 46, 47] (by decide +kernel) (by decide +kernel)
set_option maxRecDepth 20000 in
theorem gX1_ringOf_X1_waitedForAt : GoodIn wsX1_ringOf (wsV RX1 132 RX1 yX1_waitedForAt wsX1_waitedForAt) := goodIn_app (goodIn_of _ (by decide +kernel)) ggX1_ringOf_X1_waitedForAt
set_option maxRecDepth 20000 in
theorem ggX1_ringOf_X3_holds : GoodIn wsX1_ringOf wsX3_holds := goodIn_r _ [27] (by decide +kernel) (by decide +kernel)
set_option maxRecDepth 20000 in
theorem gX1_ringOf_X3_holds_n140 : GoodIn wsX1_ringOf (wsX3_holds) := ggX1_ringOf_X3_holds
theorem dX1_ringOf_0 : decode cX1_ringOf 0 = .ok (.iconst 0, 1) := by decide +kernel
theorem dX1_ringOf_1 : decode cX1_ringOf 1 = .ok (.istore_n 2, 1) := by decide +kernel
theorem dX1_ringOf_2 : decode cX1_ringOf 2 = .ok (.iload_n 2, 1) := by decide +kernel
theorem dX1_ringOf_3 : decode cX1_ringOf 3 = .ok (.bipush 8, 2) := by decide +kernel
theorem dX1_ringOf_5 : decode cX1_ringOf 5 = .ok (.if_icmp .ge 16, 3) := by decide +kernel
theorem dX1_ringOf_8 : decode cX1_ringOf 8 = .ok (.aload_n 0, 1) := by decide +kernel
theorem dX1_ringOf_9 : decode cX1_ringOf 9 = .ok (.getfield 47, 3) := by decide +kernel
theorem dX1_ringOf_12 : decode cX1_ringOf 12 = .ok (.iload_n 2, 1) := by decide +kernel
theorem dX1_ringOf_13 : decode cX1_ringOf 13 = .ok (.iconst 0, 1) := by decide +kernel
theorem dX1_ringOf_14 : decode cX1_ringOf 14 = .ok (.iastore, 1) := by decide +kernel
theorem dX1_ringOf_15 : decode cX1_ringOf 15 = .ok (.iinc 2 1, 3) := by decide +kernel
theorem dX1_ringOf_18 : decode cX1_ringOf 18 = .ok (.goto (-16), 3) := by decide +kernel
theorem dX1_ringOf_21 : decode cX1_ringOf 21 = .ok (.iconst 0, 1) := by decide +kernel
theorem dX1_ringOf_22 : decode cX1_ringOf 22 = .ok (.istore_n 2, 1) := by decide +kernel
theorem dX1_ringOf_23 : decode cX1_ringOf 23 = .ok (.iload_n 2, 1) := by decide +kernel
theorem dX1_ringOf_24 : decode cX1_ringOf 24 = .ok (.aload_n 0, 1) := by decide +kernel
theorem dX1_ringOf_25 : decode cX1_ringOf 25 = .ok (.getfield 54, 3) := by decide +kernel
theorem dX1_ringOf_28 : decode cX1_ringOf 28 = .ok (.if_icmp .ge 25, 3) := by decide +kernel
theorem dX1_ringOf_31 : decode cX1_ringOf 31 = .ok (.aload_n 0, 1) := by decide +kernel
theorem dX1_ringOf_32 : decode cX1_ringOf 32 = .ok (.getfield 47, 3) := by decide +kernel
theorem dX1_ringOf_35 : decode cX1_ringOf 35 = .ok (.aload_n 0, 1) := by decide +kernel
theorem dX1_ringOf_36 : decode cX1_ringOf 36 = .ok (.getfield 20, 3) := by decide +kernel
theorem dX1_ringOf_39 : decode cX1_ringOf 39 = .ok (.iload_n 2, 1) := by decide +kernel
theorem dX1_ringOf_40 : decode cX1_ringOf 40 = .ok (.iaload, 1) := by decide +kernel
theorem dX1_ringOf_41 : decode cX1_ringOf 41 = .ok (.aload_n 0, 1) := by decide +kernel
theorem dX1_ringOf_42 : decode cX1_ringOf 42 = .ok (.iload_n 2, 1) := by decide +kernel
theorem dX1_ringOf_43 : decode cX1_ringOf 43 = .ok (.invokevirtual 132, 3) := by decide +kernel
theorem dX1_ringOf_46 : decode cX1_ringOf 46 = .ok (.iastore, 1) := by decide +kernel
theorem dX1_ringOf_47 : decode cX1_ringOf 47 = .ok (.iinc 2 1, 3) := by decide +kernel
theorem dX1_ringOf_50 : decode cX1_ringOf 50 = .ok (.goto (-27), 3) := by decide +kernel
theorem dX1_ringOf_53 : decode cX1_ringOf 53 = .ok (.iconst 0, 1) := by decide +kernel
theorem dX1_ringOf_54 : decode cX1_ringOf 54 = .ok (.istore_n 2, 1) := by decide +kernel
theorem dX1_ringOf_55 : decode cX1_ringOf 55 = .ok (.iload_n 2, 1) := by decide +kernel
theorem dX1_ringOf_56 : decode cX1_ringOf 56 = .ok (.bipush 8, 2) := by decide +kernel
theorem dX1_ringOf_58 : decode cX1_ringOf 58 = .ok (.if_icmp .ge 51, 3) := by decide +kernel
theorem dX1_ringOf_61 : decode cX1_ringOf 61 = .ok (.iconst 0, 1) := by decide +kernel
theorem dX1_ringOf_62 : decode cX1_ringOf 62 = .ok (.istore_n 3, 1) := by decide +kernel
theorem dX1_ringOf_63 : decode cX1_ringOf 63 = .ok (.iload_n 3, 1) := by decide +kernel
theorem dX1_ringOf_64 : decode cX1_ringOf 64 = .ok (.bipush 8, 2) := by decide +kernel
theorem dX1_ringOf_66 : decode cX1_ringOf 66 = .ok (.if_icmp .ge 37, 3) := by decide +kernel
theorem dX1_ringOf_69 : decode cX1_ringOf 69 = .ok (.aload_n 0, 1) := by decide +kernel
theorem dX1_ringOf_70 : decode cX1_ringOf 70 = .ok (.getfield 47, 3) := by decide +kernel
theorem dX1_ringOf_73 : decode cX1_ringOf 73 = .ok (.iload_n 3, 1) := by decide +kernel
theorem dX1_ringOf_74 : decode cX1_ringOf 74 = .ok (.iaload, 1) := by decide +kernel
theorem dX1_ringOf_75 : decode cX1_ringOf 75 = .ok (.iload_n 2, 1) := by decide +kernel
theorem dX1_ringOf_76 : decode cX1_ringOf 76 = .ok (.invokestatic 140, 3) := by decide +kernel
theorem dX1_ringOf_79 : decode cX1_ringOf 79 = .ok (.ifCond .eq 18, 3) := by decide +kernel
theorem dX1_ringOf_82 : decode cX1_ringOf 82 = .ok (.aload_n 0, 1) := by decide +kernel
theorem dX1_ringOf_83 : decode cX1_ringOf 83 = .ok (.getfield 47, 3) := by decide +kernel
theorem dX1_ringOf_86 : decode cX1_ringOf 86 = .ok (.iload_n 3, 1) := by decide +kernel
theorem dX1_ringOf_87 : decode cX1_ringOf 87 = .ok (.dup2, 1) := by decide +kernel
theorem dX1_ringOf_88 : decode cX1_ringOf 88 = .ok (.iaload, 1) := by decide +kernel
theorem dX1_ringOf_89 : decode cX1_ringOf 89 = .ok (.aload_n 0, 1) := by decide +kernel
theorem dX1_ringOf_90 : decode cX1_ringOf 90 = .ok (.getfield 47, 3) := by decide +kernel
theorem dX1_ringOf_93 : decode cX1_ringOf 93 = .ok (.iload_n 2, 1) := by decide +kernel
theorem dX1_ringOf_94 : decode cX1_ringOf 94 = .ok (.iaload, 1) := by decide +kernel
theorem dX1_ringOf_95 : decode cX1_ringOf 95 = .ok (.ior, 1) := by decide +kernel
theorem dX1_ringOf_96 : decode cX1_ringOf 96 = .ok (.iastore, 1) := by decide +kernel
theorem dX1_ringOf_97 : decode cX1_ringOf 97 = .ok (.iinc 3 1, 3) := by decide +kernel
theorem dX1_ringOf_100 : decode cX1_ringOf 100 = .ok (.goto (-37), 3) := by decide +kernel
theorem dX1_ringOf_103 : decode cX1_ringOf 103 = .ok (.iinc 2 1, 3) := by decide +kernel
theorem dX1_ringOf_106 : decode cX1_ringOf 106 = .ok (.goto (-51), 3) := by decide +kernel
theorem dX1_ringOf_109 : decode cX1_ringOf 109 = .ok (.iconst 0, 1) := by decide +kernel
theorem dX1_ringOf_110 : decode cX1_ringOf 110 = .ok (.istore_n 2, 1) := by decide +kernel
theorem dX1_ringOf_111 : decode cX1_ringOf 111 = .ok (.iconst 0, 1) := by decide +kernel
theorem dX1_ringOf_112 : decode cX1_ringOf 112 = .ok (.istore_n 3, 1) := by decide +kernel
theorem dX1_ringOf_113 : decode cX1_ringOf 113 = .ok (.iload_n 3, 1) := by decide +kernel
theorem dX1_ringOf_114 : decode cX1_ringOf 114 = .ok (.bipush 8, 2) := by decide +kernel
theorem dX1_ringOf_116 : decode cX1_ringOf 116 = .ok (.if_icmp .ge 41, 3) := by decide +kernel
theorem dX1_ringOf_119 : decode cX1_ringOf 119 = .ok (.aload_n 0, 1) := by decide +kernel
theorem dX1_ringOf_120 : decode cX1_ringOf 120 = .ok (.getfield 47, 3) := by decide +kernel
theorem dX1_ringOf_123 : decode cX1_ringOf 123 = .ok (.iload_n 1, 1) := by decide +kernel
theorem dX1_ringOf_124 : decode cX1_ringOf 124 = .ok (.iaload, 1) := by decide +kernel
theorem dX1_ringOf_125 : decode cX1_ringOf 125 = .ok (.iload_n 3, 1) := by decide +kernel
theorem dX1_ringOf_126 : decode cX1_ringOf 126 = .ok (.invokestatic 140, 3) := by decide +kernel
theorem dX1_ringOf_129 : decode cX1_ringOf 129 = .ok (.ifCond .eq 22, 3) := by decide +kernel
theorem dX1_ringOf_132 : decode cX1_ringOf 132 = .ok (.aload_n 0, 1) := by decide +kernel
theorem dX1_ringOf_133 : decode cX1_ringOf 133 = .ok (.getfield 47, 3) := by decide +kernel
theorem dX1_ringOf_136 : decode cX1_ringOf 136 = .ok (.iload_n 3, 1) := by decide +kernel
theorem dX1_ringOf_137 : decode cX1_ringOf 137 = .ok (.iaload, 1) := by decide +kernel
theorem dX1_ringOf_138 : decode cX1_ringOf 138 = .ok (.iload_n 1, 1) := by decide +kernel
theorem dX1_ringOf_139 : decode cX1_ringOf 139 = .ok (.invokestatic 140, 3) := by decide +kernel
theorem dX1_ringOf_142 : decode cX1_ringOf 142 = .ok (.ifCond .eq 9, 3) := by decide +kernel
theorem dX1_ringOf_145 : decode cX1_ringOf 145 = .ok (.iload_n 2, 1) := by decide +kernel
theorem dX1_ringOf_146 : decode cX1_ringOf 146 = .ok (.iconst 1, 1) := by decide +kernel
theorem dX1_ringOf_147 : decode cX1_ringOf 147 = .ok (.iload_n 3, 1) := by decide +kernel
theorem dX1_ringOf_148 : decode cX1_ringOf 148 = .ok (.ishl, 1) := by decide +kernel
theorem dX1_ringOf_149 : decode cX1_ringOf 149 = .ok (.ior, 1) := by decide +kernel
theorem dX1_ringOf_150 : decode cX1_ringOf 150 = .ok (.istore_n 2, 1) := by decide +kernel
theorem dX1_ringOf_151 : decode cX1_ringOf 151 = .ok (.iinc 3 1, 3) := by decide +kernel
theorem dX1_ringOf_154 : decode cX1_ringOf 154 = .ok (.goto (-41), 3) := by decide +kernel
theorem dX1_ringOf_157 : decode cX1_ringOf 157 = .ok (.iload_n 2, 1) := by decide +kernel
theorem dX1_ringOf_158 : decode cX1_ringOf 158 = .ok (.ireturn, 1) := by decide +kernel
set_option maxRecDepth 20000 in
theorem ggX1_leastHarmed_X3_holds : GoodIn wsX1_leastHarmed wsX3_holds := goodIn_r _ [3] (by decide +kernel) (by decide +kernel)
set_option maxRecDepth 20000 in
theorem gX1_leastHarmed_X3_holds_n140 : GoodIn wsX1_leastHarmed (wsX3_holds) := ggX1_leastHarmed_X3_holds
set_option maxRecDepth 20000 in
theorem ggX1_leastHarmed_X1_placesInDispute : GoodIn wsX1_leastHarmed wsX1_placesInDispute := goodIn_r _ [8, 9, 10, 11, 7, 12, 13, 14, 15, 16, 17, 18, 19, 20, 21, 22, 1, 2, 3, 23, 24, 25, 26, 27, 28, 29, 30, 31, 32, 33, 34, 35, 36, 37, 38] (by decide +kernel) (by decide +kernel)
set_option maxRecDepth 20000 in
theorem gX1_leastHarmed_X1_placesInDispute : GoodIn wsX1_leastHarmed (wsV RX1 150 RX1 yX1_placesInDispute wsX1_placesInDispute) := goodIn_app (goodIn_of _ (by decide +kernel)) ggX1_leastHarmed_X1_placesInDispute
theorem dX1_leastHarmed_0 : decode cX1_leastHarmed 0 = .ok (.sipush 301, 3) := by decide +kernel
theorem dX1_leastHarmed_3 : decode cX1_leastHarmed 3 = .ok (.istore_n 2, 1) := by decide +kernel
theorem dX1_leastHarmed_4 : decode cX1_leastHarmed 4 = .ok (.iconst (-1), 1) := by decide +kernel
theorem dX1_leastHarmed_5 : decode cX1_leastHarmed 5 = .ok (.istore_n 3, 1) := by decide +kernel
theorem dX1_leastHarmed_6 : decode cX1_leastHarmed 6 = .ok (.iconst 0, 1) := by decide +kernel
theorem dX1_leastHarmed_7 : decode cX1_leastHarmed 7 = .ok (.istore 4, 2) := by decide +kernel
theorem dX1_leastHarmed_9 : decode cX1_leastHarmed 9 = .ok (.iload 4, 2) := by decide +kernel
theorem dX1_leastHarmed_11 : decode cX1_leastHarmed 11 = .ok (.bipush 8, 2) := by decide +kernel
theorem dX1_leastHarmed_13 : decode cX1_leastHarmed 13 = .ok (.if_icmp .ge 48, 3) := by decide +kernel
theorem dX1_leastHarmed_16 : decode cX1_leastHarmed 16 = .ok (.iload_n 1, 1) := by decide +kernel
theorem dX1_leastHarmed_17 : decode cX1_leastHarmed 17 = .ok (.iload 4, 2) := by decide +kernel
theorem dX1_leastHarmed_19 : decode cX1_leastHarmed 19 = .ok (.invokestatic 140, 3) := by decide +kernel
theorem dX1_leastHarmed_22 : decode cX1_leastHarmed 22 = .ok (.ifCond .eq 13, 3) := by decide +kernel
theorem dX1_leastHarmed_25 : decode cX1_leastHarmed 25 = .ok (.aload_n 0, 1) := by decide +kernel
theorem dX1_leastHarmed_26 : decode cX1_leastHarmed 26 = .ok (.iload 4, 2) := by decide +kernel
theorem dX1_leastHarmed_28 : decode cX1_leastHarmed 28 = .ok (.iload_n 1, 1) := by decide +kernel
theorem dX1_leastHarmed_29 : decode cX1_leastHarmed 29 = .ok (.invokevirtual 150, 3) := by decide +kernel
theorem dX1_leastHarmed_32 : decode cX1_leastHarmed 32 = .ok (.goto 4, 3) := by decide +kernel
theorem dX1_leastHarmed_35 : decode cX1_leastHarmed 35 = .ok (.iconst 0, 1) := by decide +kernel
theorem dX1_leastHarmed_36 : decode cX1_leastHarmed 36 = .ok (.istore 5, 2) := by decide +kernel
theorem dX1_leastHarmed_38 : decode cX1_leastHarmed 38 = .ok (.iload 5, 2) := by decide +kernel
theorem dX1_leastHarmed_40 : decode cX1_leastHarmed 40 = .ok (.ifCond .le 15, 3) := by decide +kernel
theorem dX1_leastHarmed_43 : decode cX1_leastHarmed 43 = .ok (.iload 5, 2) := by decide +kernel
theorem dX1_leastHarmed_45 : decode cX1_leastHarmed 45 = .ok (.iload_n 2, 1) := by decide +kernel
theorem dX1_leastHarmed_46 : decode cX1_leastHarmed 46 = .ok (.if_icmp .gt 9, 3) := by decide +kernel
theorem dX1_leastHarmed_49 : decode cX1_leastHarmed 49 = .ok (.iload 5, 2) := by decide +kernel
theorem dX1_leastHarmed_51 : decode cX1_leastHarmed 51 = .ok (.istore_n 2, 1) := by decide +kernel
theorem dX1_leastHarmed_52 : decode cX1_leastHarmed 52 = .ok (.iload 4, 2) := by decide +kernel
theorem dX1_leastHarmed_54 : decode cX1_leastHarmed 54 = .ok (.istore_n 3, 1) := by decide +kernel
theorem dX1_leastHarmed_55 : decode cX1_leastHarmed 55 = .ok (.iinc 4 1, 3) := by decide +kernel
theorem dX1_leastHarmed_58 : decode cX1_leastHarmed 58 = .ok (.goto (-49), 3) := by decide +kernel
theorem dX1_leastHarmed_61 : decode cX1_leastHarmed 61 = .ok (.iload_n 3, 1) := by decide +kernel
theorem dX1_leastHarmed_62 : decode cX1_leastHarmed 62 = .ok (.ireturn, 1) := by decide +kernel
set_option maxRecDepth 20000 in
theorem ggX1_placesInDispute_X1_isInDispute : GoodIn wsX1_placesInDispute wsX1_isInDispute := goodIn_r _ [5, 6, 7, 8, 9, 10, 11, 12, 13, 4, 14, 15, 16, 17, 18, 19, 20, 21, 22, 23, 24, 25, 26, 27, 28, 29, 30, 31, 32, 33, 34] (by decide +kernel) (by decide +kernel)
set_option maxRecDepth 20000 in
theorem gX1_placesInDispute_X1_isInDispute : GoodIn wsX1_placesInDispute (wsV RX1 153 RX1 yX1_isInDispute wsX1_isInDispute) := goodIn_app (goodIn_of _ (by decide +kernel)) ggX1_placesInDispute_X1_isInDispute
theorem dX1_placesInDispute_0 : decode cX1_placesInDispute 0 = .ok (.iconst 0, 1) := by decide +kernel
theorem dX1_placesInDispute_1 : decode cX1_placesInDispute 1 = .ok (.istore_n 3, 1) := by decide +kernel
theorem dX1_placesInDispute_2 : decode cX1_placesInDispute 2 = .ok (.iconst 0, 1) := by decide +kernel
theorem dX1_placesInDispute_3 : decode cX1_placesInDispute 3 = .ok (.istore 4, 2) := by decide +kernel
theorem dX1_placesInDispute_5 : decode cX1_placesInDispute 5 = .ok (.iload 4, 2) := by decide +kernel
theorem dX1_placesInDispute_7 : decode cX1_placesInDispute 7 = .ok (.sipush 300, 3) := by decide +kernel
theorem dX1_placesInDispute_10 : decode cX1_placesInDispute 10 = .ok (.if_icmp .ge 23, 3) := by decide +kernel
theorem dX1_placesInDispute_13 : decode cX1_placesInDispute 13 = .ok (.aload_n 0, 1) := by decide +kernel
theorem dX1_placesInDispute_14 : decode cX1_placesInDispute 14 = .ok (.iload_n 1, 1) := by decide +kernel
theorem dX1_placesInDispute_15 : decode cX1_placesInDispute 15 = .ok (.iload 4, 2) := by decide +kernel
theorem dX1_placesInDispute_17 : decode cX1_placesInDispute 17 = .ok (.iload_n 2, 1) := by decide +kernel
theorem dX1_placesInDispute_18 : decode cX1_placesInDispute 18 = .ok (.invokevirtual 153, 3) := by decide +kernel
theorem dX1_placesInDispute_21 : decode cX1_placesInDispute 21 = .ok (.ifCond .eq 6, 3) := by decide +kernel
theorem dX1_placesInDispute_24 : decode cX1_placesInDispute 24 = .ok (.iinc 3 1, 3) := by decide +kernel
theorem dX1_placesInDispute_27 : decode cX1_placesInDispute 27 = .ok (.iinc 4 1, 3) := by decide +kernel
theorem dX1_placesInDispute_30 : decode cX1_placesInDispute 30 = .ok (.goto (-25), 3) := by decide +kernel
theorem dX1_placesInDispute_33 : decode cX1_placesInDispute 33 = .ok (.iload_n 3, 1) := by decide +kernel
theorem dX1_placesInDispute_34 : decode cX1_placesInDispute 34 = .ok (.ireturn, 1) := by decide +kernel
set_option maxRecDepth 20000 in
theorem ggX1_isInDispute_X1_kindAt : GoodIn wsX1_isInDispute wsX1_kindAt := goodIn_r _ [10, 11, 15, 16, 17, 18, 19, 20, 21, 22, 23, 24, 25, 26, 27, 28, 29, 30] (by decide +kernel) (by decide +kernel)
set_option maxRecDepth 20000 in
theorem gX1_isInDispute_X1_kindAt : GoodIn wsX1_isInDispute (wsV RX1 121 RX1 yX1_kindAt wsX1_kindAt) := goodIn_app (goodIn_of _ (by decide +kernel)) ggX1_isInDispute_X1_kindAt
set_option maxRecDepth 20000 in
theorem ggX1_isInDispute_X3_holds : GoodIn wsX1_isInDispute wsX3_holds := goodIn_r _ [14] (by decide +kernel) (by decide +kernel)
set_option maxRecDepth 20000 in
theorem gX1_isInDispute_X3_holds_n140 : GoodIn wsX1_isInDispute (wsX3_holds) := ggX1_isInDispute_X3_holds
theorem dX1_isInDispute_0 : decode cX1_isInDispute 0 = .ok (.aload_n 0, 1) := by decide +kernel
theorem dX1_isInDispute_1 : decode cX1_isInDispute 1 = .ok (.iload_n 1, 1) := by decide +kernel
theorem dX1_isInDispute_2 : decode cX1_isInDispute 2 = .ok (.iload_n 2, 1) := by decide +kernel
theorem dX1_isInDispute_3 : decode cX1_isInDispute 3 = .ok (.invokevirtual 121, 3) := by decide +kernel
theorem dX1_isInDispute_6 : decode cX1_isInDispute 6 = .ok (.istore 4, 2) := by decide +kernel
theorem dX1_isInDispute_8 : decode cX1_isInDispute 8 = .ok (.iload 4, 2) := by decide +kernel
theorem dX1_isInDispute_10 : decode cX1_isInDispute 10 = .ok (.ifCond .ne 5, 3) := by decide +kernel
theorem dX1_isInDispute_13 : decode cX1_isInDispute 13 = .ok (.iconst 0, 1) := by decide +kernel
theorem dX1_isInDispute_14 : decode cX1_isInDispute 14 = .ok (.ireturn, 1) := by decide +kernel
theorem dX1_isInDispute_15 : decode cX1_isInDispute 15 = .ok (.iconst 0, 1) := by decide +kernel
theorem dX1_isInDispute_16 : decode cX1_isInDispute 16 = .ok (.istore 5, 2) := by decide +kernel
theorem dX1_isInDispute_18 : decode cX1_isInDispute 18 = .ok (.iload 5, 2) := by decide +kernel
theorem dX1_isInDispute_20 : decode cX1_isInDispute 20 = .ok (.aload_n 0, 1) := by decide +kernel
theorem dX1_isInDispute_21 : decode cX1_isInDispute 21 = .ok (.getfield 54, 3) := by decide +kernel
theorem dX1_isInDispute_24 : decode cX1_isInDispute 24 = .ok (.if_icmp .ge 88, 3) := by decide +kernel
theorem dX1_isInDispute_27 : decode cX1_isInDispute 27 = .ok (.aload_n 0, 1) := by decide +kernel
theorem dX1_isInDispute_28 : decode cX1_isInDispute 28 = .ok (.getfield 20, 3) := by decide +kernel
theorem dX1_isInDispute_31 : decode cX1_isInDispute 31 = .ok (.iload 5, 2) := by decide +kernel
theorem dX1_isInDispute_33 : decode cX1_isInDispute 33 = .ok (.iaload, 1) := by decide +kernel
theorem dX1_isInDispute_34 : decode cX1_isInDispute 34 = .ok (.istore 6, 2) := by decide +kernel
theorem dX1_isInDispute_36 : decode cX1_isInDispute 36 = .ok (.iload 6, 2) := by decide +kernel
theorem dX1_isInDispute_38 : decode cX1_isInDispute 38 = .ok (.iload_n 1, 1) := by decide +kernel
theorem dX1_isInDispute_39 : decode cX1_isInDispute 39 = .ok (.if_icmp .eq 67, 3) := by decide +kernel
theorem dX1_isInDispute_42 : decode cX1_isInDispute 42 = .ok (.iload_n 3, 1) := by decide +kernel
theorem dX1_isInDispute_43 : decode cX1_isInDispute 43 = .ok (.iload 6, 2) := by decide +kernel
theorem dX1_isInDispute_45 : decode cX1_isInDispute 45 = .ok (.invokestatic 140, 3) := by decide +kernel
theorem dX1_isInDispute_48 : decode cX1_isInDispute 48 = .ok (.ifCond .eq 58, 3) := by decide +kernel
theorem dX1_isInDispute_51 : decode cX1_isInDispute 51 = .ok (.aload_n 0, 1) := by decide +kernel
theorem dX1_isInDispute_52 : decode cX1_isInDispute 52 = .ok (.getfield 26, 3) := by decide +kernel
theorem dX1_isInDispute_55 : decode cX1_isInDispute 55 = .ok (.iload 6, 2) := by decide +kernel
theorem dX1_isInDispute_57 : decode cX1_isInDispute 57 = .ok (.iaload, 1) := by decide +kernel
theorem dX1_isInDispute_58 : decode cX1_isInDispute 58 = .ok (.iload_n 2, 1) := by decide +kernel
theorem dX1_isInDispute_59 : decode cX1_isInDispute 59 = .ok (.if_icmp .gt 47, 3) := by decide +kernel
theorem dX1_isInDispute_62 : decode cX1_isInDispute 62 = .ok (.iload_n 2, 1) := by decide +kernel
theorem dX1_isInDispute_63 : decode cX1_isInDispute 63 = .ok (.aload_n 0, 1) := by decide +kernel
theorem dX1_isInDispute_64 : decode cX1_isInDispute 64 = .ok (.getfield 29, 3) := by decide +kernel
theorem dX1_isInDispute_67 : decode cX1_isInDispute 67 = .ok (.iload 6, 2) := by decide +kernel
theorem dX1_isInDispute_69 : decode cX1_isInDispute 69 = .ok (.iaload, 1) := by decide +kernel
theorem dX1_isInDispute_70 : decode cX1_isInDispute 70 = .ok (.if_icmp .ge 36, 3) := by decide +kernel
theorem dX1_isInDispute_73 : decode cX1_isInDispute 73 = .ok (.iload 4, 2) := by decide +kernel
theorem dX1_isInDispute_75 : decode cX1_isInDispute 75 = .ok (.aload_n 0, 1) := by decide +kernel
theorem dX1_isInDispute_76 : decode cX1_isInDispute 76 = .ok (.getfield 23, 3) := by decide +kernel
theorem dX1_isInDispute_79 : decode cX1_isInDispute 79 = .ok (.iload 6, 2) := by decide +kernel
theorem dX1_isInDispute_81 : decode cX1_isInDispute 81 = .ok (.iaload, 1) := by decide +kernel
theorem dX1_isInDispute_82 : decode cX1_isInDispute 82 = .ok (.iadd, 1) := by decide +kernel
theorem dX1_isInDispute_83 : decode cX1_isInDispute 83 = .ok (.iconst 4, 1) := by decide +kernel
theorem dX1_isInDispute_84 : decode cX1_isInDispute 84 = .ok (.if_icmp .lt 22, 3) := by decide +kernel
theorem dX1_isInDispute_87 : decode cX1_isInDispute 87 = .ok (.aload_n 0, 1) := by decide +kernel
theorem dX1_isInDispute_88 : decode cX1_isInDispute 88 = .ok (.iload 6, 2) := by decide +kernel
theorem dX1_isInDispute_90 : decode cX1_isInDispute 90 = .ok (.iload_n 2, 1) := by decide +kernel
theorem dX1_isInDispute_91 : decode cX1_isInDispute 91 = .ok (.invokevirtual 121, 3) := by decide +kernel
theorem dX1_isInDispute_94 : decode cX1_isInDispute 94 = .ok (.aload_n 0, 1) := by decide +kernel
theorem dX1_isInDispute_95 : decode cX1_isInDispute 95 = .ok (.getfield 23, 3) := by decide +kernel
theorem dX1_isInDispute_98 : decode cX1_isInDispute 98 = .ok (.iload 6, 2) := by decide +kernel
theorem dX1_isInDispute_100 : decode cX1_isInDispute 100 = .ok (.iaload, 1) := by decide +kernel
theorem dX1_isInDispute_101 : decode cX1_isInDispute 101 = .ok (.if_icmp .ge 5, 3) := by decide +kernel
theorem dX1_isInDispute_104 : decode cX1_isInDispute 104 = .ok (.iconst 1, 1) := by decide +kernel
theorem dX1_isInDispute_105 : decode cX1_isInDispute 105 = .ok (.ireturn, 1) := by decide +kernel
theorem dX1_isInDispute_106 : decode cX1_isInDispute 106 = .ok (.iinc 5 1, 3) := by decide +kernel
theorem dX1_isInDispute_109 : decode cX1_isInDispute 109 = .ok (.goto (-91), 3) := by decide +kernel
theorem dX1_isInDispute_112 : decode cX1_isInDispute 112 = .ok (.iconst 0, 1) := by decide +kernel
theorem dX1_isInDispute_113 : decode cX1_isInDispute 113 = .ok (.ireturn, 1) := by decide +kernel
set_option maxRecDepth 20000 in
theorem ggX1_giveUp_X3_isOwner : GoodIn wsX1_giveUp wsX3_isOwner := goodIn_r _ [5] (by decide +kernel) (by decide +kernel)
set_option maxRecDepth 20000 in
theorem gX1_giveUp_X3_isOwner_n69 : GoodIn wsX1_giveUp (wsX3_isOwner) := ggX1_giveUp_X3_isOwner
set_option maxRecDepth 20000 in
theorem ggX1_giveUp_X1_isInDispute : GoodIn wsX1_giveUp wsX1_isInDispute := goodIn_r _ [10, 11, 12, 13, 14, 15, 16, 17, 18, 9, 19, 20, 21, 4, 22, 27, 28, 29, 30, 31, 32, 33, 34, 35, 36, 37, 38, 39, 40, 41, 42] (by decide +kernel) (by decide +kernel)
set_option maxRecDepth 20000 in
theorem gX1_giveUp_X1_isInDispute : GoodIn wsX1_giveUp (wsV RX1 153 RX1 yX1_isInDispute wsX1_isInDispute) := goodIn_app (goodIn_of _ (by decide +kernel)) ggX1_giveUp_X1_isInDispute
set_option maxRecDepth 20000 in
theorem ggX1_giveUp_X1_lock : GoodIn wsX1_giveUp wsX1_lock := goodIn_r _ [26, 20, 27, 28, 29, 30, 31, 32, 33, 34, 35, 36, 37, 38, 39, 40, 41, 42] (by decide +kernel) (by decide +kernel)
set_option maxRecDepth 20000 in
theorem gX1_giveUp_X1_lock : GoodIn wsX1_giveUp (wsV RX1 125 RX1 yX1_lock wsX1_lock) := goodIn_app (goodIn_of _ (by decide +kernel)) ggX1_giveUp_X1_lock
theorem dX1_giveUp_0 : decode cX1_giveUp 0 = .ok (.iload_n 1, 1) := by decide +kernel
theorem dX1_giveUp_1 : decode cX1_giveUp 1 = .ok (.invokestatic 69, 3) := by decide +kernel
theorem dX1_giveUp_4 : decode cX1_giveUp 4 = .ok (.ifCond .ne 4, 3) := by decide +kernel
theorem dX1_giveUp_7 : decode cX1_giveUp 7 = .ok (.return_, 1) := by decide +kernel
theorem dX1_giveUp_8 : decode cX1_giveUp 8 = .ok (.iconst 0, 1) := by decide +kernel
theorem dX1_giveUp_9 : decode cX1_giveUp 9 = .ok (.istore_n 3, 1) := by decide +kernel
theorem dX1_giveUp_10 : decode cX1_giveUp 10 = .ok (.iload_n 3, 1) := by decide +kernel
theorem dX1_giveUp_11 : decode cX1_giveUp 11 = .ok (.sipush 300, 3) := by decide +kernel
theorem dX1_giveUp_14 : decode cX1_giveUp 14 = .ok (.if_icmp .ge 36, 3) := by decide +kernel
theorem dX1_giveUp_17 : decode cX1_giveUp 17 = .ok (.aload_n 0, 1) := by decide +kernel
theorem dX1_giveUp_18 : decode cX1_giveUp 18 = .ok (.iload_n 1, 1) := by decide +kernel
theorem dX1_giveUp_19 : decode cX1_giveUp 19 = .ok (.iload_n 3, 1) := by decide +kernel
theorem dX1_giveUp_20 : decode cX1_giveUp 20 = .ok (.iload_n 2, 1) := by decide +kernel
theorem dX1_giveUp_21 : decode cX1_giveUp 21 = .ok (.invokevirtual 153, 3) := by decide +kernel
theorem dX1_giveUp_24 : decode cX1_giveUp 24 = .ok (.ifCond .eq 20, 3) := by decide +kernel
theorem dX1_giveUp_27 : decode cX1_giveUp 27 = .ok (.aload_n 0, 1) := by decide +kernel
theorem dX1_giveUp_28 : decode cX1_giveUp 28 = .ok (.iload_n 1, 1) := by decide +kernel
theorem dX1_giveUp_29 : decode cX1_giveUp 29 = .ok (.iload_n 3, 1) := by decide +kernel
theorem dX1_giveUp_30 : decode cX1_giveUp 30 = .ok (.iconst 0, 1) := by decide +kernel
theorem dX1_giveUp_31 : decode cX1_giveUp 31 = .ok (.invokevirtual 125, 3) := by decide +kernel
theorem dX1_giveUp_34 : decode cX1_giveUp 34 = .ok (.aload_n 0, 1) := by decide +kernel
theorem dX1_giveUp_35 : decode cX1_giveUp 35 = .ok (.getfield 41, 3) := by decide +kernel
theorem dX1_giveUp_38 : decode cX1_giveUp 38 = .ok (.iload_n 1, 1) := by decide +kernel
theorem dX1_giveUp_39 : decode cX1_giveUp 39 = .ok (.dup2, 1) := by decide +kernel
theorem dX1_giveUp_40 : decode cX1_giveUp 40 = .ok (.iaload, 1) := by decide +kernel
theorem dX1_giveUp_41 : decode cX1_giveUp 41 = .ok (.iconst 1, 1) := by decide +kernel
theorem dX1_giveUp_42 : decode cX1_giveUp 42 = .ok (.iadd, 1) := by decide +kernel
theorem dX1_giveUp_43 : decode cX1_giveUp 43 = .ok (.iastore, 1) := by decide +kernel
theorem dX1_giveUp_44 : decode cX1_giveUp 44 = .ok (.iinc 3 1, 3) := by decide +kernel
theorem dX1_giveUp_47 : decode cX1_giveUp 47 = .ok (.goto (-37), 3) := by decide +kernel
theorem dX1_giveUp_50 : decode cX1_giveUp 50 = .ok (.aload_n 0, 1) := by decide +kernel
theorem dX1_giveUp_51 : decode cX1_giveUp 51 = .ok (.dup, 1) := by decide +kernel
theorem dX1_giveUp_52 : decode cX1_giveUp 52 = .ok (.getfield 60, 3) := by decide +kernel
theorem dX1_giveUp_55 : decode cX1_giveUp 55 = .ok (.iconst 1, 1) := by decide +kernel
theorem dX1_giveUp_56 : decode cX1_giveUp 56 = .ok (.iadd, 1) := by decide +kernel
theorem dX1_giveUp_57 : decode cX1_giveUp 57 = .ok (.putfield 60, 3) := by decide +kernel
theorem dX1_giveUp_60 : decode cX1_giveUp 60 = .ok (.return_, 1) := by decide +kernel
theorem dX1_kindAt_0 : decode cX1_kindAt 0 = .ok (.iconst 1, 1) := by decide +kernel
theorem dX1_kindAt_1 : decode cX1_kindAt 1 = .ok (.iload_n 1, 1) := by decide +kernel
theorem dX1_kindAt_2 : decode cX1_kindAt 2 = .ok (.ishl, 1) := by decide +kernel
theorem dX1_kindAt_3 : decode cX1_kindAt 3 = .ok (.istore_n 3, 1) := by decide +kernel
theorem dX1_kindAt_4 : decode cX1_kindAt 4 = .ok (.aload_n 0, 1) := by decide +kernel
theorem dX1_kindAt_5 : decode cX1_kindAt 5 = .ok (.getfield 17, 3) := by decide +kernel
theorem dX1_kindAt_8 : decode cX1_kindAt 8 = .ok (.iconst 3, 1) := by decide +kernel
theorem dX1_kindAt_9 : decode cX1_kindAt 9 = .ok (.aaload, 1) := by decide +kernel
theorem dX1_kindAt_10 : decode cX1_kindAt 10 = .ok (.iload_n 2, 1) := by decide +kernel
theorem dX1_kindAt_11 : decode cX1_kindAt 11 = .ok (.iaload, 1) := by decide +kernel
theorem dX1_kindAt_12 : decode cX1_kindAt 12 = .ok (.iload_n 3, 1) := by decide +kernel
theorem dX1_kindAt_13 : decode cX1_kindAt 13 = .ok (.iand, 1) := by decide +kernel
theorem dX1_kindAt_14 : decode cX1_kindAt 14 = .ok (.ifCond .eq 5, 3) := by decide +kernel
theorem dX1_kindAt_17 : decode cX1_kindAt 17 = .ok (.iconst 3, 1) := by decide +kernel
theorem dX1_kindAt_18 : decode cX1_kindAt 18 = .ok (.ireturn, 1) := by decide +kernel
theorem dX1_kindAt_19 : decode cX1_kindAt 19 = .ok (.aload_n 0, 1) := by decide +kernel
theorem dX1_kindAt_20 : decode cX1_kindAt 20 = .ok (.getfield 17, 3) := by decide +kernel
theorem dX1_kindAt_23 : decode cX1_kindAt 23 = .ok (.iconst 2, 1) := by decide +kernel
theorem dX1_kindAt_24 : decode cX1_kindAt 24 = .ok (.aaload, 1) := by decide +kernel
theorem dX1_kindAt_25 : decode cX1_kindAt 25 = .ok (.iload_n 2, 1) := by decide +kernel
theorem dX1_kindAt_26 : decode cX1_kindAt 26 = .ok (.iaload, 1) := by decide +kernel
theorem dX1_kindAt_27 : decode cX1_kindAt 27 = .ok (.iload_n 3, 1) := by decide +kernel
theorem dX1_kindAt_28 : decode cX1_kindAt 28 = .ok (.iand, 1) := by decide +kernel
theorem dX1_kindAt_29 : decode cX1_kindAt 29 = .ok (.ifCond .eq 5, 3) := by decide +kernel
theorem dX1_kindAt_32 : decode cX1_kindAt 32 = .ok (.iconst 2, 1) := by decide +kernel
theorem dX1_kindAt_33 : decode cX1_kindAt 33 = .ok (.ireturn, 1) := by decide +kernel
theorem dX1_kindAt_34 : decode cX1_kindAt 34 = .ok (.aload_n 0, 1) := by decide +kernel
theorem dX1_kindAt_35 : decode cX1_kindAt 35 = .ok (.getfield 17, 3) := by decide +kernel
theorem dX1_kindAt_38 : decode cX1_kindAt 38 = .ok (.iconst 1, 1) := by decide +kernel
theorem dX1_kindAt_39 : decode cX1_kindAt 39 = .ok (.aaload, 1) := by decide +kernel
theorem dX1_kindAt_40 : decode cX1_kindAt 40 = .ok (.iload_n 2, 1) := by decide +kernel
theorem dX1_kindAt_41 : decode cX1_kindAt 41 = .ok (.iaload, 1) := by decide +kernel
theorem dX1_kindAt_42 : decode cX1_kindAt 42 = .ok (.iload_n 3, 1) := by decide +kernel
theorem dX1_kindAt_43 : decode cX1_kindAt 43 = .ok (.iand, 1) := by decide +kernel
theorem dX1_kindAt_44 : decode cX1_kindAt 44 = .ok (.ifCond .eq 7, 3) := by decide +kernel
theorem dX1_kindAt_47 : decode cX1_kindAt 47 = .ok (.iconst 1, 1) := by decide +kernel
theorem dX1_kindAt_48 : decode cX1_kindAt 48 = .ok (.goto 4, 3) := by decide +kernel
theorem dX1_kindAt_51 : decode cX1_kindAt 51 = .ok (.iconst 0, 1) := by decide +kernel
theorem dX1_kindAt_52 : decode cX1_kindAt 52 = .ok (.ireturn, 1) := by decide +kernel
theorem dX1_placeInRow_0 : decode cX1_placeInRow 0 = .ok (.iconst 0, 1) := by decide +kernel
theorem dX1_placeInRow_1 : decode cX1_placeInRow 1 = .ok (.istore_n 2, 1) := by decide +kernel
theorem dX1_placeInRow_2 : decode cX1_placeInRow 2 = .ok (.iload_n 2, 1) := by decide +kernel
theorem dX1_placeInRow_3 : decode cX1_placeInRow 3 = .ok (.aload_n 0, 1) := by decide +kernel
theorem dX1_placeInRow_4 : decode cX1_placeInRow 4 = .ok (.getfield 54, 3) := by decide +kernel
theorem dX1_placeInRow_7 : decode cX1_placeInRow 7 = .ok (.if_icmp .ge 21, 3) := by decide +kernel
theorem dX1_placeInRow_10 : decode cX1_placeInRow 10 = .ok (.aload_n 0, 1) := by decide +kernel
theorem dX1_placeInRow_11 : decode cX1_placeInRow 11 = .ok (.getfield 20, 3) := by decide +kernel
theorem dX1_placeInRow_14 : decode cX1_placeInRow 14 = .ok (.iload_n 2, 1) := by decide +kernel
theorem dX1_placeInRow_15 : decode cX1_placeInRow 15 = .ok (.iaload, 1) := by decide +kernel
theorem dX1_placeInRow_16 : decode cX1_placeInRow 16 = .ok (.iload_n 1, 1) := by decide +kernel
theorem dX1_placeInRow_17 : decode cX1_placeInRow 17 = .ok (.if_icmp .ne 5, 3) := by decide +kernel
theorem dX1_placeInRow_20 : decode cX1_placeInRow 20 = .ok (.iload_n 2, 1) := by decide +kernel
theorem dX1_placeInRow_21 : decode cX1_placeInRow 21 = .ok (.ireturn, 1) := by decide +kernel
theorem dX1_placeInRow_22 : decode cX1_placeInRow 22 = .ok (.iinc 2 1, 3) := by decide +kernel
theorem dX1_placeInRow_25 : decode cX1_placeInRow 25 = .ok (.goto (-23), 3) := by decide +kernel
theorem dX1_placeInRow_28 : decode cX1_placeInRow 28 = .ok (.iconst (-1), 1) := by decide +kernel
theorem dX1_placeInRow_29 : decode cX1_placeInRow 29 = .ok (.ireturn, 1) := by decide +kernel
set_option maxRecDepth 20000 in
theorem ggX1_placesOf_X1_kindAt : GoodIn wsX1_placesOf wsX1_kindAt := goodIn_r _ [5, 6, 7, 8, 9, 10, 11, 12, 13, 14, 15, 16, 17, 18, 19, 20, 21, 22] (by decide +kernel) (by decide +kernel)
set_option maxRecDepth 20000 in
theorem gX1_placesOf_X1_kindAt : GoodIn wsX1_placesOf (wsV RX1 121 RX1 yX1_kindAt wsX1_kindAt) := goodIn_app (goodIn_of _ (by decide +kernel)) ggX1_placesOf_X1_kindAt
theorem dX1_placesOf_0 : decode cX1_placesOf 0 = .ok (.iconst 0, 1) := by decide +kernel
theorem dX1_placesOf_1 : decode cX1_placesOf 1 = .ok (.istore_n 3, 1) := by decide +kernel
theorem dX1_placesOf_2 : decode cX1_placesOf 2 = .ok (.iconst 0, 1) := by decide +kernel
theorem dX1_placesOf_3 : decode cX1_placesOf 3 = .ok (.istore 4, 2) := by decide +kernel
theorem dX1_placesOf_5 : decode cX1_placesOf 5 = .ok (.iload 4, 2) := by decide +kernel
theorem dX1_placesOf_7 : decode cX1_placesOf 7 = .ok (.sipush 300, 3) := by decide +kernel
theorem dX1_placesOf_10 : decode cX1_placesOf 10 = .ok (.if_icmp .ge 23, 3) := by decide +kernel
theorem dX1_placesOf_13 : decode cX1_placesOf 13 = .ok (.aload_n 0, 1) := by decide +kernel
theorem dX1_placesOf_14 : decode cX1_placesOf 14 = .ok (.iload_n 1, 1) := by decide +kernel
theorem dX1_placesOf_15 : decode cX1_placesOf 15 = .ok (.iload 4, 2) := by decide +kernel
theorem dX1_placesOf_17 : decode cX1_placesOf 17 = .ok (.invokevirtual 121, 3) := by decide +kernel
theorem dX1_placesOf_20 : decode cX1_placesOf 20 = .ok (.iload_n 2, 1) := by decide +kernel
theorem dX1_placesOf_21 : decode cX1_placesOf 21 = .ok (.if_icmp .ne 6, 3) := by decide +kernel
theorem dX1_placesOf_24 : decode cX1_placesOf 24 = .ok (.iinc 3 1, 3) := by decide +kernel
theorem dX1_placesOf_27 : decode cX1_placesOf 27 = .ok (.iinc 4 1, 3) := by decide +kernel
theorem dX1_placesOf_30 : decode cX1_placesOf 30 = .ok (.goto (-25), 3) := by decide +kernel
theorem dX1_placesOf_33 : decode cX1_placesOf 33 = .ok (.iload_n 3, 1) := by decide +kernel
theorem dX1_placesOf_34 : decode cX1_placesOf 34 = .ok (.ireturn, 1) := by decide +kernel
theorem dX1_placesLocked_0 : decode cX1_placesLocked 0 = .ok (.iconst 0, 1) := by decide +kernel
theorem dX1_placesLocked_1 : decode cX1_placesLocked 1 = .ok (.istore_n 1, 1) := by decide +kernel
theorem dX1_placesLocked_2 : decode cX1_placesLocked 2 = .ok (.iconst 0, 1) := by decide +kernel
theorem dX1_placesLocked_3 : decode cX1_placesLocked 3 = .ok (.istore_n 2, 1) := by decide +kernel
theorem dX1_placesLocked_4 : decode cX1_placesLocked 4 = .ok (.iload_n 2, 1) := by decide +kernel
theorem dX1_placesLocked_5 : decode cX1_placesLocked 5 = .ok (.sipush 300, 3) := by decide +kernel
theorem dX1_placesLocked_8 : decode cX1_placesLocked 8 = .ok (.if_icmp .ge 23, 3) := by decide +kernel
theorem dX1_placesLocked_11 : decode cX1_placesLocked 11 = .ok (.aload_n 0, 1) := by decide +kernel
theorem dX1_placesLocked_12 : decode cX1_placesLocked 12 = .ok (.getfield 17, 3) := by decide +kernel
theorem dX1_placesLocked_15 : decode cX1_placesLocked 15 = .ok (.iconst 1, 1) := by decide +kernel
theorem dX1_placesLocked_16 : decode cX1_placesLocked 16 = .ok (.aaload, 1) := by decide +kernel
theorem dX1_placesLocked_17 : decode cX1_placesLocked 17 = .ok (.iload_n 2, 1) := by decide +kernel
theorem dX1_placesLocked_18 : decode cX1_placesLocked 18 = .ok (.iaload, 1) := by decide +kernel
theorem dX1_placesLocked_19 : decode cX1_placesLocked 19 = .ok (.ifCond .eq 6, 3) := by decide +kernel
theorem dX1_placesLocked_22 : decode cX1_placesLocked 22 = .ok (.iinc 1 1, 3) := by decide +kernel
theorem dX1_placesLocked_25 : decode cX1_placesLocked 25 = .ok (.iinc 2 1, 3) := by decide +kernel
theorem dX1_placesLocked_28 : decode cX1_placesLocked 28 = .ok (.goto (-24), 3) := by decide +kernel
theorem dX1_placesLocked_31 : decode cX1_placesLocked 31 = .ok (.iload_n 1, 1) := by decide +kernel
theorem dX1_placesLocked_32 : decode cX1_placesLocked 32 = .ok (.ireturn, 1) := by decide +kernel
theorem dX1_allGiven_0 : decode cX1_allGiven 0 = .ok (.iconst 0, 1) := by decide +kernel
theorem dX1_allGiven_1 : decode cX1_allGiven 1 = .ok (.istore_n 1, 1) := by decide +kernel
theorem dX1_allGiven_2 : decode cX1_allGiven 2 = .ok (.iconst 0, 1) := by decide +kernel
theorem dX1_allGiven_3 : decode cX1_allGiven 3 = .ok (.istore_n 2, 1) := by decide +kernel
theorem dX1_allGiven_4 : decode cX1_allGiven 4 = .ok (.iload_n 2, 1) := by decide +kernel
theorem dX1_allGiven_5 : decode cX1_allGiven 5 = .ok (.bipush 8, 2) := by decide +kernel
theorem dX1_allGiven_7 : decode cX1_allGiven 7 = .ok (.if_icmp .ge 18, 3) := by decide +kernel
theorem dX1_allGiven_10 : decode cX1_allGiven 10 = .ok (.iload_n 1, 1) := by decide +kernel
theorem dX1_allGiven_11 : decode cX1_allGiven 11 = .ok (.aload_n 0, 1) := by decide +kernel
theorem dX1_allGiven_12 : decode cX1_allGiven 12 = .ok (.getfield 35, 3) := by decide +kernel
theorem dX1_allGiven_15 : decode cX1_allGiven 15 = .ok (.iload_n 2, 1) := by decide +kernel
theorem dX1_allGiven_16 : decode cX1_allGiven 16 = .ok (.iaload, 1) := by decide +kernel
theorem dX1_allGiven_17 : decode cX1_allGiven 17 = .ok (.iadd, 1) := by decide +kernel
theorem dX1_allGiven_18 : decode cX1_allGiven 18 = .ok (.istore_n 1, 1) := by decide +kernel
theorem dX1_allGiven_19 : decode cX1_allGiven 19 = .ok (.iinc 2 1, 3) := by decide +kernel
theorem dX1_allGiven_22 : decode cX1_allGiven 22 = .ok (.goto (-18), 3) := by decide +kernel
theorem dX1_allGiven_25 : decode cX1_allGiven 25 = .ok (.iload_n 1, 1) := by decide +kernel
theorem dX1_allGiven_26 : decode cX1_allGiven 26 = .ok (.ireturn, 1) := by decide +kernel
set_option maxRecDepth 20000 in
theorem ggX1_isStart_X1_kindAt : GoodIn wsX1_isStart wsX1_kindAt := goodIn_r _ [5, 6, 7, 8, 9, 10, 11, 12, 13, 14, 15, 16, 17, 18, 19, 20, 21, 22] (by decide +kernel) (by decide +kernel)
set_option maxRecDepth 20000 in
theorem gX1_isStart_X1_kindAt : GoodIn wsX1_isStart (wsV RX1 121 RX1 yX1_kindAt wsX1_kindAt) := goodIn_app (goodIn_of _ (by decide +kernel)) ggX1_isStart_X1_kindAt
theorem dX1_isStart_0 : decode cX1_isStart 0 = .ok (.aload_n 0, 1) := by decide +kernel
theorem dX1_isStart_1 : decode cX1_isStart 1 = .ok (.iload_n 1, 1) := by decide +kernel
theorem dX1_isStart_2 : decode cX1_isStart 2 = .ok (.iload_n 2, 1) := by decide +kernel
theorem dX1_isStart_3 : decode cX1_isStart 3 = .ok (.invokevirtual 121, 3) := by decide +kernel
theorem dX1_isStart_6 : decode cX1_isStart 6 = .ok (.istore_n 3, 1) := by decide +kernel
theorem dX1_isStart_7 : decode cX1_isStart 7 = .ok (.iload_n 3, 1) := by decide +kernel
theorem dX1_isStart_8 : decode cX1_isStart 8 = .ok (.ifCond .eq 23, 3) := by decide +kernel
theorem dX1_isStart_11 : decode cX1_isStart 11 = .ok (.iload_n 2, 1) := by decide +kernel
theorem dX1_isStart_12 : decode cX1_isStart 12 = .ok (.ifCond .eq 15, 3) := by decide +kernel
theorem dX1_isStart_15 : decode cX1_isStart 15 = .ok (.aload_n 0, 1) := by decide +kernel
theorem dX1_isStart_16 : decode cX1_isStart 16 = .ok (.iload_n 1, 1) := by decide +kernel
theorem dX1_isStart_17 : decode cX1_isStart 17 = .ok (.iload_n 2, 1) := by decide +kernel
theorem dX1_isStart_18 : decode cX1_isStart 18 = .ok (.iconst 1, 1) := by decide +kernel
theorem dX1_isStart_19 : decode cX1_isStart 19 = .ok (.isub, 1) := by decide +kernel
theorem dX1_isStart_20 : decode cX1_isStart 20 = .ok (.invokevirtual 121, 3) := by decide +kernel
theorem dX1_isStart_23 : decode cX1_isStart 23 = .ok (.iload_n 3, 1) := by decide +kernel
theorem dX1_isStart_24 : decode cX1_isStart 24 = .ok (.if_icmp .eq 7, 3) := by decide +kernel
theorem dX1_isStart_27 : decode cX1_isStart 27 = .ok (.iconst 1, 1) := by decide +kernel
theorem dX1_isStart_28 : decode cX1_isStart 28 = .ok (.goto 4, 3) := by decide +kernel
theorem dX1_isStart_31 : decode cX1_isStart 31 = .ok (.iconst 0, 1) := by decide +kernel
theorem dX1_isStart_32 : decode cX1_isStart 32 = .ok (.ireturn, 1) := by decide +kernel
set_option maxRecDepth 20000 in
theorem ggX1_stretchesOf_X1_isStart : GoodIn wsX1_stretchesOf wsX1_isStart := goodIn_r _ [5, 6, 7, 8, 4, 9, 10, 11, 12, 13, 14, 15, 16, 17, 18, 19, 20, 21, 22, 23, 24, 25, 26] (by decide +kernel) (by decide +kernel)
set_option maxRecDepth 20000 in
theorem gX1_stretchesOf_X1_isStart : GoodIn wsX1_stretchesOf (wsV RX1 157 RX1 yX1_isStart wsX1_isStart) := goodIn_app (goodIn_of _ (by decide +kernel)) ggX1_stretchesOf_X1_isStart
theorem dX1_stretchesOf_0 : decode cX1_stretchesOf 0 = .ok (.iconst 0, 1) := by decide +kernel
theorem dX1_stretchesOf_1 : decode cX1_stretchesOf 1 = .ok (.istore_n 2, 1) := by decide +kernel
theorem dX1_stretchesOf_2 : decode cX1_stretchesOf 2 = .ok (.iconst 0, 1) := by decide +kernel
theorem dX1_stretchesOf_3 : decode cX1_stretchesOf 3 = .ok (.istore_n 3, 1) := by decide +kernel
theorem dX1_stretchesOf_4 : decode cX1_stretchesOf 4 = .ok (.iload_n 3, 1) := by decide +kernel
theorem dX1_stretchesOf_5 : decode cX1_stretchesOf 5 = .ok (.sipush 300, 3) := by decide +kernel
theorem dX1_stretchesOf_8 : decode cX1_stretchesOf 8 = .ok (.if_icmp .ge 21, 3) := by decide +kernel
theorem dX1_stretchesOf_11 : decode cX1_stretchesOf 11 = .ok (.aload_n 0, 1) := by decide +kernel
theorem dX1_stretchesOf_12 : decode cX1_stretchesOf 12 = .ok (.iload_n 1, 1) := by decide +kernel
theorem dX1_stretchesOf_13 : decode cX1_stretchesOf 13 = .ok (.iload_n 3, 1) := by decide +kernel
theorem dX1_stretchesOf_14 : decode cX1_stretchesOf 14 = .ok (.invokevirtual 157, 3) := by decide +kernel
theorem dX1_stretchesOf_17 : decode cX1_stretchesOf 17 = .ok (.ifCond .eq 6, 3) := by decide +kernel
theorem dX1_stretchesOf_20 : decode cX1_stretchesOf 20 = .ok (.iinc 2 1, 3) := by decide +kernel
theorem dX1_stretchesOf_23 : decode cX1_stretchesOf 23 = .ok (.iinc 3 1, 3) := by decide +kernel
theorem dX1_stretchesOf_26 : decode cX1_stretchesOf 26 = .ok (.goto (-22), 3) := by decide +kernel
theorem dX1_stretchesOf_29 : decode cX1_stretchesOf 29 = .ok (.iload_n 2, 1) := by decide +kernel
theorem dX1_stretchesOf_30 : decode cX1_stretchesOf 30 = .ok (.ireturn, 1) := by decide +kernel
set_option maxRecDepth 20000 in
theorem ggX1_startOfStretch_X1_isStart : GoodIn wsX1_startOfStretch wsX1_isStart := goodIn_r _ [5, 6, 7, 8, 4, 9, 10, 11, 12, 13, 14, 15, 16, 17, 18, 19, 20, 21, 22, 23, 24, 25, 26] (by decide +kernel) (by decide +kernel)
set_option maxRecDepth 20000 in
theorem gX1_startOfStretch_X1_isStart : GoodIn wsX1_startOfStretch (wsV RX1 157 RX1 yX1_isStart wsX1_isStart) := goodIn_app (goodIn_of _ (by decide +kernel)) ggX1_startOfStretch_X1_isStart
theorem dX1_startOfStretch_0 : decode cX1_startOfStretch 0 = .ok (.iconst 0, 1) := by decide +kernel
theorem dX1_startOfStretch_1 : decode cX1_startOfStretch 1 = .ok (.istore_n 3, 1) := by decide +kernel
theorem dX1_startOfStretch_2 : decode cX1_startOfStretch 2 = .ok (.iconst 0, 1) := by decide +kernel
theorem dX1_startOfStretch_3 : decode cX1_startOfStretch 3 = .ok (.istore 4, 2) := by decide +kernel
theorem dX1_startOfStretch_5 : decode cX1_startOfStretch 5 = .ok (.iload 4, 2) := by decide +kernel
theorem dX1_startOfStretch_7 : decode cX1_startOfStretch 7 = .ok (.sipush 300, 3) := by decide +kernel
theorem dX1_startOfStretch_10 : decode cX1_startOfStretch 10 = .ok (.if_icmp .ge 30, 3) := by decide +kernel
theorem dX1_startOfStretch_13 : decode cX1_startOfStretch 13 = .ok (.aload_n 0, 1) := by decide +kernel
theorem dX1_startOfStretch_14 : decode cX1_startOfStretch 14 = .ok (.iload_n 1, 1) := by decide +kernel
theorem dX1_startOfStretch_15 : decode cX1_startOfStretch 15 = .ok (.iload 4, 2) := by decide +kernel
theorem dX1_startOfStretch_17 : decode cX1_startOfStretch 17 = .ok (.invokevirtual 157, 3) := by decide +kernel
theorem dX1_startOfStretch_20 : decode cX1_startOfStretch 20 = .ok (.ifCond .eq 14, 3) := by decide +kernel
theorem dX1_startOfStretch_23 : decode cX1_startOfStretch 23 = .ok (.iload_n 3, 1) := by decide +kernel
theorem dX1_startOfStretch_24 : decode cX1_startOfStretch 24 = .ok (.iload_n 2, 1) := by decide +kernel
theorem dX1_startOfStretch_25 : decode cX1_startOfStretch 25 = .ok (.if_icmp .ne 6, 3) := by decide +kernel
theorem dX1_startOfStretch_28 : decode cX1_startOfStretch 28 = .ok (.iload 4, 2) := by decide +kernel
theorem dX1_startOfStretch_30 : decode cX1_startOfStretch 30 = .ok (.ireturn, 1) := by decide +kernel
theorem dX1_startOfStretch_31 : decode cX1_startOfStretch 31 = .ok (.iinc 3 1, 3) := by decide +kernel
theorem dX1_startOfStretch_34 : decode cX1_startOfStretch 34 = .ok (.iinc 4 1, 3) := by decide +kernel
theorem dX1_startOfStretch_37 : decode cX1_startOfStretch 37 = .ok (.goto (-32), 3) := by decide +kernel
theorem dX1_startOfStretch_40 : decode cX1_startOfStretch 40 = .ok (.iconst (-1), 1) := by decide +kernel
theorem dX1_startOfStretch_41 : decode cX1_startOfStretch 41 = .ok (.ireturn, 1) := by decide +kernel
set_option maxRecDepth 20000 in
theorem ggX1_lengthOfStretch_X1_kindAt : GoodIn wsX1_lengthOfStretch wsX1_kindAt := goodIn_r _ [5, 6, 7, 8, 9, 10, 11, 12, 13, 14, 15, 16, 17, 18, 19, 20, 21, 22] (by decide +kernel) (by decide +kernel)
set_option maxRecDepth 20000 in
theorem gX1_lengthOfStretch_X1_kindAt : GoodIn wsX1_lengthOfStretch (wsV RX1 121 RX1 yX1_kindAt wsX1_kindAt) := goodIn_app (goodIn_of _ (by decide +kernel)) ggX1_lengthOfStretch_X1_kindAt
theorem dX1_lengthOfStretch_0 : decode cX1_lengthOfStretch 0 = .ok (.aload_n 0, 1) := by decide +kernel
theorem dX1_lengthOfStretch_1 : decode cX1_lengthOfStretch 1 = .ok (.iload_n 1, 1) := by decide +kernel
theorem dX1_lengthOfStretch_2 : decode cX1_lengthOfStretch 2 = .ok (.iload_n 2, 1) := by decide +kernel
theorem dX1_lengthOfStretch_3 : decode cX1_lengthOfStretch 3 = .ok (.invokevirtual 121, 3) := by decide +kernel
theorem dX1_lengthOfStretch_6 : decode cX1_lengthOfStretch 6 = .ok (.istore_n 3, 1) := by decide +kernel
theorem dX1_lengthOfStretch_7 : decode cX1_lengthOfStretch 7 = .ok (.iload_n 2, 1) := by decide +kernel
theorem dX1_lengthOfStretch_8 : decode cX1_lengthOfStretch 8 = .ok (.iconst 1, 1) := by decide +kernel
theorem dX1_lengthOfStretch_9 : decode cX1_lengthOfStretch 9 = .ok (.iadd, 1) := by decide +kernel
theorem dX1_lengthOfStretch_10 : decode cX1_lengthOfStretch 10 = .ok (.istore 4, 2) := by decide +kernel
theorem dX1_lengthOfStretch_12 : decode cX1_lengthOfStretch 12 = .ok (.iload 4, 2) := by decide +kernel
theorem dX1_lengthOfStretch_14 : decode cX1_lengthOfStretch 14 = .ok (.sipush 300, 3) := by decide +kernel
theorem dX1_lengthOfStretch_17 : decode cX1_lengthOfStretch 17 = .ok (.if_icmp .ge 20, 3) := by decide +kernel
theorem dX1_lengthOfStretch_20 : decode cX1_lengthOfStretch 20 = .ok (.aload_n 0, 1) := by decide +kernel
theorem dX1_lengthOfStretch_21 : decode cX1_lengthOfStretch 21 = .ok (.iload_n 1, 1) := by decide +kernel
theorem dX1_lengthOfStretch_22 : decode cX1_lengthOfStretch 22 = .ok (.iload 4, 2) := by decide +kernel
theorem dX1_lengthOfStretch_24 : decode cX1_lengthOfStretch 24 = .ok (.invokevirtual 121, 3) := by decide +kernel
theorem dX1_lengthOfStretch_27 : decode cX1_lengthOfStretch 27 = .ok (.iload_n 3, 1) := by decide +kernel
theorem dX1_lengthOfStretch_28 : decode cX1_lengthOfStretch 28 = .ok (.if_icmp .ne 9, 3) := by decide +kernel
theorem dX1_lengthOfStretch_31 : decode cX1_lengthOfStretch 31 = .ok (.iinc 4 1, 3) := by decide +kernel
theorem dX1_lengthOfStretch_34 : decode cX1_lengthOfStretch 34 = .ok (.goto (-22), 3) := by decide +kernel
theorem dX1_lengthOfStretch_37 : decode cX1_lengthOfStretch 37 = .ok (.iload 4, 2) := by decide +kernel
theorem dX1_lengthOfStretch_39 : decode cX1_lengthOfStretch 39 = .ok (.iload_n 2, 1) := by decide +kernel
theorem dX1_lengthOfStretch_40 : decode cX1_lengthOfStretch 40 = .ok (.isub, 1) := by decide +kernel
theorem dX1_lengthOfStretch_41 : decode cX1_lengthOfStretch 41 = .ok (.ireturn, 1) := by decide +kernel
theorem dX2_init_0 : decode cX2_init 0 = .ok (.aload_n 0, 1) := by decide +kernel
theorem dX2_init_1 : decode cX2_init 1 = .ok (.invokespecial 3, 3) := by decide +kernel
theorem dX2_init_4 : decode cX2_init 4 = .ok (.aload_n 0, 1) := by decide +kernel
theorem dX2_init_5 : decode cX2_init 5 = .ok (.bipush 80, 2) := by decide +kernel
theorem dX2_init_7 : decode cX2_init 7 = .ok (.newarray .char, 2) := by decide +kernel
theorem dX2_init_9 : decode cX2_init 9 = .ok (.putfield 9, 3) := by decide +kernel
theorem dX2_init_12 : decode cX2_init 12 = .ok (.return_, 1) := by decide +kernel
theorem dX2_type_0 : decode cX2_type 0 = .ok (.iconst 0, 1) := by decide +kernel
theorem dX2_type_1 : decode cX2_type 1 = .ok (.istore_n 3, 1) := by decide +kernel
theorem dX2_type_2 : decode cX2_type 2 = .ok (.lload_n 1, 1) := by decide +kernel
theorem dX2_type_3 : decode cX2_type 3 = .ok (.lstore 4, 2) := by decide +kernel
theorem dX2_type_5 : decode cX2_type 5 = .ok (.iconst 0, 1) := by decide +kernel
theorem dX2_type_6 : decode cX2_type 6 = .ok (.istore 6, 2) := by decide +kernel
theorem dX2_type_8 : decode cX2_type 8 = .ok (.iload 6, 2) := by decide +kernel
theorem dX2_type_10 : decode cX2_type 10 = .ok (.bipush 8, 2) := by decide +kernel
theorem dX2_type_12 : decode cX2_type 12 = .ok (.if_icmp .ge 55, 3) := by decide +kernel
theorem dX2_type_15 : decode cX2_type 15 = .ok (.lload 4, 2) := by decide +kernel
theorem dX2_type_17 : decode cX2_type 17 = .ok (.lconst 0, 1) := by decide +kernel
theorem dX2_type_18 : decode cX2_type 18 = .ok (.lcmp, 1) := by decide +kernel
theorem dX2_type_19 : decode cX2_type 19 = .ok (.ifCond .eq 48, 3) := by decide +kernel
theorem dX2_type_22 : decode cX2_type 22 = .ok (.lload 4, 2) := by decide +kernel
theorem dX2_type_24 : decode cX2_type 24 = .ok (.ldc2_w 15, 3) := by decide +kernel
theorem dX2_type_27 : decode cX2_type 27 = .ok (.land, 1) := by decide +kernel
theorem dX2_type_28 : decode cX2_type 28 = .ok (.lstore 7, 2) := by decide +kernel
theorem dX2_type_30 : decode cX2_type 30 = .ok (.lload 7, 2) := by decide +kernel
theorem dX2_type_32 : decode cX2_type 32 = .ok (.ldc2_w 17, 3) := by decide +kernel
theorem dX2_type_35 : decode cX2_type 35 = .ok (.lcmp, 1) := by decide +kernel
theorem dX2_type_36 : decode cX2_type 36 = .ok (.ifCond .lt 12, 3) := by decide +kernel
theorem dX2_type_39 : decode cX2_type 39 = .ok (.lload 7, 2) := by decide +kernel
theorem dX2_type_41 : decode cX2_type 41 = .ok (.ldc2_w 19, 3) := by decide +kernel
theorem dX2_type_44 : decode cX2_type 44 = .ok (.lcmp, 1) := by decide +kernel
theorem dX2_type_45 : decode cX2_type 45 = .ok (.ifCond .le 6, 3) := by decide +kernel
theorem dX2_type_48 : decode cX2_type 48 = .ok (.bipush (-2), 2) := by decide +kernel
theorem dX2_type_50 : decode cX2_type 50 = .ok (.ireturn, 1) := by decide +kernel
theorem dX2_type_51 : decode cX2_type 51 = .ok (.lload 4, 2) := by decide +kernel
theorem dX2_type_53 : decode cX2_type 53 = .ok (.bipush 8, 2) := by decide +kernel
theorem dX2_type_55 : decode cX2_type 55 = .ok (.lushr, 1) := by decide +kernel
theorem dX2_type_56 : decode cX2_type 56 = .ok (.lstore 4, 2) := by decide +kernel
theorem dX2_type_58 : decode cX2_type 58 = .ok (.iinc 3 1, 3) := by decide +kernel
theorem dX2_type_61 : decode cX2_type 61 = .ok (.iinc 6 1, 3) := by decide +kernel
theorem dX2_type_64 : decode cX2_type 64 = .ok (.goto (-56), 3) := by decide +kernel
theorem dX2_type_67 : decode cX2_type 67 = .ok (.iload_n 3, 1) := by decide +kernel
theorem dX2_type_68 : decode cX2_type 68 = .ok (.ifCond .ne 6, 3) := by decide +kernel
theorem dX2_type_71 : decode cX2_type 71 = .ok (.bipush (-2), 2) := by decide +kernel
theorem dX2_type_73 : decode cX2_type 73 = .ok (.ireturn, 1) := by decide +kernel
theorem dX2_type_74 : decode cX2_type 74 = .ok (.aload_n 0, 1) := by decide +kernel
theorem dX2_type_75 : decode cX2_type 75 = .ok (.getfield 21, 3) := by decide +kernel
theorem dX2_type_78 : decode cX2_type 78 = .ok (.iload_n 3, 1) := by decide +kernel
theorem dX2_type_79 : decode cX2_type 79 = .ok (.iadd, 1) := by decide +kernel
theorem dX2_type_80 : decode cX2_type 80 = .ok (.bipush 80, 2) := by decide +kernel
theorem dX2_type_82 : decode cX2_type 82 = .ok (.if_icmp .le 6, 3) := by decide +kernel
theorem dX2_type_85 : decode cX2_type 85 = .ok (.bipush (-4), 2) := by decide +kernel
theorem dX2_type_87 : decode cX2_type 87 = .ok (.ireturn, 1) := by decide +kernel
theorem dX2_type_88 : decode cX2_type 88 = .ok (.lload_n 1, 1) := by decide +kernel
theorem dX2_type_89 : decode cX2_type 89 = .ok (.lstore 4, 2) := by decide +kernel
theorem dX2_type_91 : decode cX2_type 91 = .ok (.aload_n 0, 1) := by decide +kernel
theorem dX2_type_92 : decode cX2_type 92 = .ok (.getfield 21, 3) := by decide +kernel
theorem dX2_type_95 : decode cX2_type 95 = .ok (.iload_n 3, 1) := by decide +kernel
theorem dX2_type_96 : decode cX2_type 96 = .ok (.iadd, 1) := by decide +kernel
theorem dX2_type_97 : decode cX2_type 97 = .ok (.iconst 1, 1) := by decide +kernel
theorem dX2_type_98 : decode cX2_type 98 = .ok (.isub, 1) := by decide +kernel
theorem dX2_type_99 : decode cX2_type 99 = .ok (.istore 6, 2) := by decide +kernel
theorem dX2_type_101 : decode cX2_type 101 = .ok (.iload 6, 2) := by decide +kernel
theorem dX2_type_103 : decode cX2_type 103 = .ok (.aload_n 0, 1) := by decide +kernel
theorem dX2_type_104 : decode cX2_type 104 = .ok (.getfield 21, 3) := by decide +kernel
theorem dX2_type_107 : decode cX2_type 107 = .ok (.if_icmp .lt 31, 3) := by decide +kernel
theorem dX2_type_110 : decode cX2_type 110 = .ok (.aload_n 0, 1) := by decide +kernel
theorem dX2_type_111 : decode cX2_type 111 = .ok (.getfield 9, 3) := by decide +kernel
theorem dX2_type_114 : decode cX2_type 114 = .ok (.iload 6, 2) := by decide +kernel
theorem dX2_type_116 : decode cX2_type 116 = .ok (.lload 4, 2) := by decide +kernel
theorem dX2_type_118 : decode cX2_type 118 = .ok (.ldc2_w 15, 3) := by decide +kernel
theorem dX2_type_121 : decode cX2_type 121 = .ok (.land, 1) := by decide +kernel
theorem dX2_type_122 : decode cX2_type 122 = .ok (.l2i, 1) := by decide +kernel
theorem dX2_type_123 : decode cX2_type 123 = .ok (.i2c, 1) := by decide +kernel
theorem dX2_type_124 : decode cX2_type 124 = .ok (.castore, 1) := by decide +kernel
theorem dX2_type_125 : decode cX2_type 125 = .ok (.lload 4, 2) := by decide +kernel
theorem dX2_type_127 : decode cX2_type 127 = .ok (.bipush 8, 2) := by decide +kernel
theorem dX2_type_129 : decode cX2_type 129 = .ok (.lushr, 1) := by decide +kernel
theorem dX2_type_130 : decode cX2_type 130 = .ok (.lstore 4, 2) := by decide +kernel
theorem dX2_type_132 : decode cX2_type 132 = .ok (.iinc 6 (-1), 3) := by decide +kernel
theorem dX2_type_135 : decode cX2_type 135 = .ok (.goto (-34), 3) := by decide +kernel
theorem dX2_type_138 : decode cX2_type 138 = .ok (.aload_n 0, 1) := by decide +kernel
theorem dX2_type_139 : decode cX2_type 139 = .ok (.dup, 1) := by decide +kernel
theorem dX2_type_140 : decode cX2_type 140 = .ok (.getfield 21, 3) := by decide +kernel
theorem dX2_type_143 : decode cX2_type 143 = .ok (.iload_n 3, 1) := by decide +kernel
theorem dX2_type_144 : decode cX2_type 144 = .ok (.iadd, 1) := by decide +kernel
theorem dX2_type_145 : decode cX2_type 145 = .ok (.putfield 21, 3) := by decide +kernel
theorem dX2_type_148 : decode cX2_type 148 = .ok (.aload_n 0, 1) := by decide +kernel
theorem dX2_type_149 : decode cX2_type 149 = .ok (.getfield 21, 3) := by decide +kernel
theorem dX2_type_152 : decode cX2_type 152 = .ok (.ireturn, 1) := by decide +kernel
theorem dX2_erase_0 : decode cX2_erase 0 = .ok (.aload_n 0, 1) := by decide +kernel
theorem dX2_erase_1 : decode cX2_erase 1 = .ok (.getfield 21, 3) := by decide +kernel
theorem dX2_erase_4 : decode cX2_erase 4 = .ok (.istore_n 1, 1) := by decide +kernel
theorem dX2_erase_5 : decode cX2_erase 5 = .ok (.aload_n 0, 1) := by decide +kernel
theorem dX2_erase_6 : decode cX2_erase 6 = .ok (.iconst 0, 1) := by decide +kernel
theorem dX2_erase_7 : decode cX2_erase 7 = .ok (.putfield 21, 3) := by decide +kernel
theorem dX2_erase_10 : decode cX2_erase 10 = .ok (.iload_n 1, 1) := by decide +kernel
theorem dX2_erase_11 : decode cX2_erase 11 = .ok (.ireturn, 1) := by decide +kernel
set_option maxRecDepth 20000 in
theorem ggX2_firstFault_X2_readOrder : GoodIn wsX2_firstFault wsX2_readOrder := goodIn_r _ [7, 8, 9, 1, 10, 11, 12, 13, 6, 14, 2, 15, 16, 17, 18, 19, 20, 21, 22, 23, 24, 25, 26, 27, 28, 29, 30, 31, 32, 33, 34, 35, 36, 37, 38, 39, 40, 41, 42, 43, 44, 45, 46, 47, 48, 49, 50, 51, 52, 53, 54, 55, 56, 57, 58, 59, 60, 61, 62, 63, 64, 65, 66, 67, 68, 69, 70, 71, 72, 73, 74, 75, 76, 77, 78, 79, 80, 81, 82, 83, 84, 85, 86, 87, 88, 89, 90, 91, 92, 93, 94, 95, 96, 97, 98, 99, 100, 101, 102, 103, 104, 105, 106, 107, 108, 109, 110, 111, 112, 113, 114, 115, 116, 117, 118, 119, 120, 121, 122, 123, 124, 125, 126, 127, 128, 129, 130, 131, 132, 133, 134, 135, 136, 137] (by decide +kernel) (by decide +kernel)
set_option maxRecDepth 20000 in
theorem gX2_firstFault_X2_readOrder : GoodIn wsX2_firstFault (wsV RX2 28 RX2 yX2_readOrder wsX2_readOrder) := goodIn_app (goodIn_of _ (by decide +kernel)) ggX2_firstFault_X2_readOrder
set_option maxRecDepth 20000 in
theorem ggX2_firstFault_X2_skip : GoodIn wsX2_firstFault wsX2_skip := goodIn_r _ [129, 1, 11, 12, 13, 6, 14, 2, 15, 130, 131, 132, 133, 134, 135, 136, 137] (by decide +kernel) (by decide +kernel)
set_option maxRecDepth 20000 in
theorem gX2_firstFault_X2_skip : GoodIn wsX2_firstFault (wsV RX2 32 RX2 yX2_skip wsX2_skip) := goodIn_app (goodIn_of _ (by decide +kernel)) ggX2_firstFault_X2_skip
theorem dX2_firstFault_0 : decode cX2_firstFault 0 = .ok (.aload_n 0, 1) := by decide +kernel
theorem dX2_firstFault_1 : decode cX2_firstFault 1 = .ok (.iconst 0, 1) := by decide +kernel
theorem dX2_firstFault_2 : decode cX2_firstFault 2 = .ok (.putfield 25, 3) := by decide +kernel
theorem dX2_firstFault_5 : decode cX2_firstFault 5 = .ok (.iconst 1, 1) := by decide +kernel
theorem dX2_firstFault_6 : decode cX2_firstFault 6 = .ok (.istore_n 1, 1) := by decide +kernel
theorem dX2_firstFault_7 : decode cX2_firstFault 7 = .ok (.iconst 0, 1) := by decide +kernel
theorem dX2_firstFault_8 : decode cX2_firstFault 8 = .ok (.istore_n 2, 1) := by decide +kernel
theorem dX2_firstFault_9 : decode cX2_firstFault 9 = .ok (.iload_n 2, 1) := by decide +kernel
theorem dX2_firstFault_10 : decode cX2_firstFault 10 = .ok (.bipush 80, 2) := by decide +kernel
theorem dX2_firstFault_12 : decode cX2_firstFault 12 = .ok (.if_icmp .ge 32, 3) := by decide +kernel
theorem dX2_firstFault_15 : decode cX2_firstFault 15 = .ok (.iload_n 1, 1) := by decide +kernel
theorem dX2_firstFault_16 : decode cX2_firstFault 16 = .ok (.ifCond .eq 28, 3) := by decide +kernel
theorem dX2_firstFault_19 : decode cX2_firstFault 19 = .ok (.aload_n 0, 1) := by decide +kernel
theorem dX2_firstFault_20 : decode cX2_firstFault 20 = .ok (.invokevirtual 28, 3) := by decide +kernel
theorem dX2_firstFault_23 : decode cX2_firstFault 23 = .ok (.ifCond .ne 8, 3) := by decide +kernel
theorem dX2_firstFault_26 : decode cX2_firstFault 26 = .ok (.aload_n 0, 1) := by decide +kernel
theorem dX2_firstFault_27 : decode cX2_firstFault 27 = .ok (.getfield 25, 3) := by decide +kernel
theorem dX2_firstFault_30 : decode cX2_firstFault 30 = .ok (.ireturn, 1) := by decide +kernel
theorem dX2_firstFault_31 : decode cX2_firstFault 31 = .ok (.aload_n 0, 1) := by decide +kernel
theorem dX2_firstFault_32 : decode cX2_firstFault 32 = .ok (.bipush 59, 2) := by decide +kernel
theorem dX2_firstFault_34 : decode cX2_firstFault 34 = .ok (.invokevirtual 32, 3) := by decide +kernel
theorem dX2_firstFault_37 : decode cX2_firstFault 37 = .ok (.istore_n 1, 1) := by decide +kernel
theorem dX2_firstFault_38 : decode cX2_firstFault 38 = .ok (.iinc 2 1, 3) := by decide +kernel
theorem dX2_firstFault_41 : decode cX2_firstFault 41 = .ok (.goto (-32), 3) := by decide +kernel
theorem dX2_firstFault_44 : decode cX2_firstFault 44 = .ok (.aload_n 0, 1) := by decide +kernel
theorem dX2_firstFault_45 : decode cX2_firstFault 45 = .ok (.getfield 25, 3) := by decide +kernel
theorem dX2_firstFault_48 : decode cX2_firstFault 48 = .ok (.aload_n 0, 1) := by decide +kernel
theorem dX2_firstFault_49 : decode cX2_firstFault 49 = .ok (.getfield 21, 3) := by decide +kernel
theorem dX2_firstFault_52 : decode cX2_firstFault 52 = .ok (.if_icmp .ge 10, 3) := by decide +kernel
theorem dX2_firstFault_55 : decode cX2_firstFault 55 = .ok (.aload_n 0, 1) := by decide +kernel
theorem dX2_firstFault_56 : decode cX2_firstFault 56 = .ok (.getfield 25, 3) := by decide +kernel
theorem dX2_firstFault_59 : decode cX2_firstFault 59 = .ok (.goto 5, 3) := by decide +kernel
theorem dX2_firstFault_62 : decode cX2_firstFault 62 = .ok (.bipush (-6), 2) := by decide +kernel
theorem dX2_firstFault_64 : decode cX2_firstFault 64 = .ok (.ireturn, 1) := by decide +kernel
set_option maxRecDepth 20000 in
theorem ggX2_readOrder_X2_sign : GoodIn wsX2_readOrder wsX2_sign := goodIn_r _ [9, 3, 10, 11, 126, 127, 128, 129, 130, 131, 132, 133] (by decide +kernel) (by decide +kernel)
set_option maxRecDepth 20000 in
theorem gX2_readOrder_X2_sign : GoodIn wsX2_readOrder (wsV RX2 36 RX2 yX2_sign wsX2_sign) := goodIn_app (goodIn_of _ (by decide +kernel)) ggX2_readOrder_X2_sign
set_option maxRecDepth 20000 in
theorem ggX2_readOrder_J0_indexOf_0f7a4 : GoodIn wsX2_readOrder wsJ0_indexOf_0f7a4 := goodIn_r _ [16, 17, 18, 19, 15, 20, 21, 22, 23, 24, 25, 26, 27, 28, 29, 30, 31, 32, 33, 34, 35, 36, 37, 38, 39, 40, 41, 42, 43, 44, 45, 46, 47, 48, 49, 50, 51, 52, 53, 54, 55, 56, 57, 58, 59, 60, 61, 62, 63, 64, 65, 66, 67, 68, 69, 70, 71, 72, 73, 74, 75, 76, 77, 78, 79, 80, 81, 82, 83, 84, 85, 86, 87, 88, 89, 90, 91, 92, 93, 94, 95, 96, 97, 98, 99, 100] (by decide +kernel) (by decide +kernel)
set_option maxRecDepth 20000 in
theorem gX2_readOrder_J0_indexOf_0f7a4 : GoodIn wsX2_readOrder (wsV RX2 49 RJ0 yJ0_indexOf_0f7a4 wsJ0_indexOf_0f7a4) := goodIn_app (goodIn_of _ (by decide +kernel)) ggX2_readOrder_J0_indexOf_0f7a4
set_option maxRecDepth 20000 in
theorem ggX2_readOrder_X2_readNumber : GoodIn wsX2_readOrder wsX2_readNumber := goodIn_r _ [104, 3, 105, 106, 107, 8, 108, 5, 6, 7, 9, 10, 11, 126, 127, 128, 129, 130, 131, 132, 133] (by decide +kernel) (by decide +kernel)
set_option maxRecDepth 20000 in
theorem gX2_readOrder_X2_readNumber : GoodIn wsX2_readOrder (wsV RX2 55 RX2 yX2_readNumber wsX2_readNumber) := goodIn_app (goodIn_of _ (by decide +kernel)) ggX2_readOrder_X2_readNumber
set_option maxRecDepth 20000 in
theorem ggX2_readOrder_X2_readOwner : GoodIn wsX2_readOrder wsX2_readOwner := goodIn_r _ [112, 113, 3, 105, 106, 107, 8, 108, 5, 6, 7, 9, 10, 11, 114, 115, 116, 126, 127, 128, 129, 130, 131, 132, 133] (by decide +kernel) (by decide +kernel)
set_option maxRecDepth 20000 in
theorem gX2_readOrder_X2_readOwner : GoodIn wsX2_readOrder (wsV RX2 62 RX2 yX2_readOwner wsX2_readOwner) := goodIn_app (goodIn_of _ (by decide +kernel)) ggX2_readOrder_X2_readOwner
set_option maxRecDepth 20000 in
theorem ggX2_readOrder_X2_readRange : GoodIn wsX2_readOrder wsX2_readRange := goodIn_r _ [120, 4, 121, 122, 123, 124, 8, 125, 3, 5, 6, 7, 9, 10, 11, 101, 102, 103, 104, 105, 106, 107, 108, 126, 127, 128, 129, 130, 131, 132, 133] (by decide +kernel) (by decide +kernel)
set_option maxRecDepth 20000 in
theorem gX2_readOrder_X2_readRange : GoodIn wsX2_readOrder (wsV RX2 65 RX2 yX2_readRange wsX2_readRange) := goodIn_app (goodIn_of _ (by decide +kernel)) ggX2_readOrder_X2_readRange
set_option maxRecDepth 20000 in
theorem ggX2_readOrder_X2_skip : GoodIn wsX2_readOrder wsX2_skip := goodIn_r _ [125, 3, 5, 6, 7, 8, 9, 10, 11, 126, 127, 128, 129, 130, 131, 132, 133] (by decide +kernel) (by decide +kernel)
set_option maxRecDepth 20000 in
theorem gX2_readOrder_X2_skip : GoodIn wsX2_readOrder (wsV RX2 32 RX2 yX2_skip wsX2_skip) := goodIn_app (goodIn_of _ (by decide +kernel)) ggX2_readOrder_X2_skip
theorem dX2_readOrder_0 : decode cX2_readOrder 0 = .ok (.aload_n 0, 1) := by decide +kernel
theorem dX2_readOrder_1 : decode cX2_readOrder 1 = .ok (.aload_n 0, 1) := by decide +kernel
theorem dX2_readOrder_2 : decode cX2_readOrder 2 = .ok (.invokevirtual 36, 3) := by decide +kernel
theorem dX2_readOrder_5 : decode cX2_readOrder 5 = .ok (.putfield 40, 3) := by decide +kernel
theorem dX2_readOrder_8 : decode cX2_readOrder 8 = .ok (.aload_n 0, 1) := by decide +kernel
theorem dX2_readOrder_9 : decode cX2_readOrder 9 = .ok (.iconst 0, 1) := by decide +kernel
theorem dX2_readOrder_10 : decode cX2_readOrder 10 = .ok (.putfield 44, 3) := by decide +kernel
theorem dX2_readOrder_13 : decode cX2_readOrder 13 = .ok (.ldc 47, 2) := by decide +kernel
theorem dX2_readOrder_15 : decode cX2_readOrder 15 = .ok (.aload_n 0, 1) := by decide +kernel
theorem dX2_readOrder_16 : decode cX2_readOrder 16 = .ok (.getfield 40, 3) := by decide +kernel
theorem dX2_readOrder_19 : decode cX2_readOrder 19 = .ok (.invokevirtual 49, 3) := by decide +kernel
theorem dX2_readOrder_22 : decode cX2_readOrder 22 = .ok (.ifCond .ge 5, 3) := by decide +kernel
theorem dX2_readOrder_25 : decode cX2_readOrder 25 = .ok (.iconst 0, 1) := by decide +kernel
theorem dX2_readOrder_26 : decode cX2_readOrder 26 = .ok (.ireturn, 1) := by decide +kernel
theorem dX2_readOrder_27 : decode cX2_readOrder 27 = .ok (.aload_n 0, 1) := by decide +kernel
theorem dX2_readOrder_28 : decode cX2_readOrder 28 = .ok (.dup, 1) := by decide +kernel
theorem dX2_readOrder_29 : decode cX2_readOrder 29 = .ok (.getfield 25, 3) := by decide +kernel
theorem dX2_readOrder_32 : decode cX2_readOrder 32 = .ok (.iconst 1, 1) := by decide +kernel
theorem dX2_readOrder_33 : decode cX2_readOrder 33 = .ok (.iadd, 1) := by decide +kernel
theorem dX2_readOrder_34 : decode cX2_readOrder 34 = .ok (.putfield 25, 3) := by decide +kernel
theorem dX2_readOrder_37 : decode cX2_readOrder 37 = .ok (.aload_n 0, 1) := by decide +kernel
theorem dX2_readOrder_38 : decode cX2_readOrder 38 = .ok (.getfield 40, 3) := by decide +kernel
theorem dX2_readOrder_41 : decode cX2_readOrder 41 = .ok (.bipush 116, 2) := by decide +kernel
theorem dX2_readOrder_43 : decode cX2_readOrder 43 = .ok (.if_icmp .ne 24, 3) := by decide +kernel
theorem dX2_readOrder_46 : decode cX2_readOrder 46 = .ok (.aload_n 0, 1) := by decide +kernel
theorem dX2_readOrder_47 : decode cX2_readOrder 47 = .ok (.aload_n 0, 1) := by decide +kernel
theorem dX2_readOrder_48 : decode cX2_readOrder 48 = .ok (.invokevirtual 55, 3) := by decide +kernel
theorem dX2_readOrder_51 : decode cX2_readOrder 51 = .ok (.putfield 59, 3) := by decide +kernel
theorem dX2_readOrder_54 : decode cX2_readOrder 54 = .ok (.aload_n 0, 1) := by decide +kernel
theorem dX2_readOrder_55 : decode cX2_readOrder 55 = .ok (.getfield 59, 3) := by decide +kernel
theorem dX2_readOrder_58 : decode cX2_readOrder 58 = .ok (.ifCond .lt 7, 3) := by decide +kernel
theorem dX2_readOrder_61 : decode cX2_readOrder 61 = .ok (.iconst 1, 1) := by decide +kernel
theorem dX2_readOrder_62 : decode cX2_readOrder 62 = .ok (.goto 4, 3) := by decide +kernel
theorem dX2_readOrder_65 : decode cX2_readOrder 65 = .ok (.iconst 0, 1) := by decide +kernel
theorem dX2_readOrder_66 : decode cX2_readOrder 66 = .ok (.ireturn, 1) := by decide +kernel
theorem dX2_readOrder_67 : decode cX2_readOrder 67 = .ok (.aload_n 0, 1) := by decide +kernel
theorem dX2_readOrder_68 : decode cX2_readOrder 68 = .ok (.invokevirtual 62, 3) := by decide +kernel
theorem dX2_readOrder_71 : decode cX2_readOrder 71 = .ok (.ifCond .ne 5, 3) := by decide +kernel
theorem dX2_readOrder_74 : decode cX2_readOrder 74 = .ok (.iconst 0, 1) := by decide +kernel
theorem dX2_readOrder_75 : decode cX2_readOrder 75 = .ok (.ireturn, 1) := by decide +kernel
theorem dX2_readOrder_76 : decode cX2_readOrder 76 = .ok (.aload_n 0, 1) := by decide +kernel
theorem dX2_readOrder_77 : decode cX2_readOrder 77 = .ok (.getfield 40, 3) := by decide +kernel
theorem dX2_readOrder_80 : decode cX2_readOrder 80 = .ok (.bipush 99, 2) := by decide +kernel
theorem dX2_readOrder_82 : decode cX2_readOrder 82 = .ok (.if_icmp .eq 12, 3) := by decide +kernel
theorem dX2_readOrder_85 : decode cX2_readOrder 85 = .ok (.aload_n 0, 1) := by decide +kernel
theorem dX2_readOrder_86 : decode cX2_readOrder 86 = .ok (.getfield 40, 3) := by decide +kernel
theorem dX2_readOrder_89 : decode cX2_readOrder 89 = .ok (.bipush 120, 2) := by decide +kernel
theorem dX2_readOrder_91 : decode cX2_readOrder 91 = .ok (.if_icmp .ne 5, 3) := by decide +kernel
theorem dX2_readOrder_94 : decode cX2_readOrder 94 = .ok (.iconst 1, 1) := by decide +kernel
theorem dX2_readOrder_95 : decode cX2_readOrder 95 = .ok (.ireturn, 1) := by decide +kernel
theorem dX2_readOrder_96 : decode cX2_readOrder 96 = .ok (.aload_n 0, 1) := by decide +kernel
theorem dX2_readOrder_97 : decode cX2_readOrder 97 = .ok (.invokevirtual 65, 3) := by decide +kernel
theorem dX2_readOrder_100 : decode cX2_readOrder 100 = .ok (.ifCond .ne 5, 3) := by decide +kernel
theorem dX2_readOrder_103 : decode cX2_readOrder 103 = .ok (.iconst 0, 1) := by decide +kernel
theorem dX2_readOrder_104 : decode cX2_readOrder 104 = .ok (.ireturn, 1) := by decide +kernel
theorem dX2_readOrder_105 : decode cX2_readOrder 105 = .ok (.aload_n 0, 1) := by decide +kernel
theorem dX2_readOrder_106 : decode cX2_readOrder 106 = .ok (.getfield 40, 3) := by decide +kernel
theorem dX2_readOrder_109 : decode cX2_readOrder 109 = .ok (.bipush 102, 2) := by decide +kernel
theorem dX2_readOrder_111 : decode cX2_readOrder 111 = .ok (.if_icmp .eq 17, 3) := by decide +kernel
theorem dX2_readOrder_114 : decode cX2_readOrder 114 = .ok (.aload_n 0, 1) := by decide +kernel
theorem dX2_readOrder_115 : decode cX2_readOrder 115 = .ok (.bipush 33, 2) := by decide +kernel
theorem dX2_readOrder_117 : decode cX2_readOrder 117 = .ok (.invokevirtual 32, 3) := by decide +kernel
theorem dX2_readOrder_120 : decode cX2_readOrder 120 = .ok (.ifCond .eq 8, 3) := by decide +kernel
theorem dX2_readOrder_123 : decode cX2_readOrder 123 = .ok (.aload_n 0, 1) := by decide +kernel
theorem dX2_readOrder_124 : decode cX2_readOrder 124 = .ok (.iconst 1, 1) := by decide +kernel
theorem dX2_readOrder_125 : decode cX2_readOrder 125 = .ok (.putfield 44, 3) := by decide +kernel
theorem dX2_readOrder_128 : decode cX2_readOrder 128 = .ok (.iconst 1, 1) := by decide +kernel
theorem dX2_readOrder_129 : decode cX2_readOrder 129 = .ok (.ireturn, 1) := by decide +kernel
set_option maxRecDepth 20000 in
theorem ggX2_readOwner_X2_digit : GoodIn wsX2_readOwner wsX2_digit := goodIn_r _ [7, 8, 9, 10, 6, 11, 2, 12, 13, 17, 18, 19, 20, 21, 22, 23, 24] (by decide +kernel) (by decide +kernel)
set_option maxRecDepth 20000 in
theorem gX2_readOwner_X2_digit : GoodIn wsX2_readOwner (wsV RX2 68 RX2 yX2_digit wsX2_digit) := goodIn_app (goodIn_of _ (by decide +kernel)) ggX2_readOwner_X2_digit
set_option maxRecDepth 20000 in
theorem ggX2_readOwner_X3_isOwner : GoodIn wsX2_readOwner wsX3_isOwner := goodIn_r _ [16] (by decide +kernel) (by decide +kernel)
set_option maxRecDepth 20000 in
theorem gX2_readOwner_X3_isOwner_n74 : GoodIn wsX2_readOwner (wsX3_isOwner) := ggX2_readOwner_X3_isOwner
theorem dX2_readOwner_0 : decode cX2_readOwner 0 = .ok (.aload_n 0, 1) := by decide +kernel
theorem dX2_readOwner_1 : decode cX2_readOwner 1 = .ok (.aload_n 0, 1) := by decide +kernel
theorem dX2_readOwner_2 : decode cX2_readOwner 2 = .ok (.invokevirtual 68, 3) := by decide +kernel
theorem dX2_readOwner_5 : decode cX2_readOwner 5 = .ok (.putfield 71, 3) := by decide +kernel
theorem dX2_readOwner_8 : decode cX2_readOwner 8 = .ok (.aload_n 0, 1) := by decide +kernel
theorem dX2_readOwner_9 : decode cX2_readOwner 9 = .ok (.getfield 71, 3) := by decide +kernel
theorem dX2_readOwner_12 : decode cX2_readOwner 12 = .ok (.invokestatic 74, 3) := by decide +kernel
theorem dX2_readOwner_15 : decode cX2_readOwner 15 = .ok (.ifCond .ne 5, 3) := by decide +kernel
theorem dX2_readOwner_18 : decode cX2_readOwner 18 = .ok (.iconst 0, 1) := by decide +kernel
theorem dX2_readOwner_19 : decode cX2_readOwner 19 = .ok (.ireturn, 1) := by decide +kernel
theorem dX2_readOwner_20 : decode cX2_readOwner 20 = .ok (.aload_n 0, 1) := by decide +kernel
theorem dX2_readOwner_21 : decode cX2_readOwner 21 = .ok (.dup, 1) := by decide +kernel
theorem dX2_readOwner_22 : decode cX2_readOwner 22 = .ok (.getfield 25, 3) := by decide +kernel
theorem dX2_readOwner_25 : decode cX2_readOwner 25 = .ok (.iconst 1, 1) := by decide +kernel
theorem dX2_readOwner_26 : decode cX2_readOwner 26 = .ok (.iadd, 1) := by decide +kernel
theorem dX2_readOwner_27 : decode cX2_readOwner 27 = .ok (.putfield 25, 3) := by decide +kernel
theorem dX2_readOwner_30 : decode cX2_readOwner 30 = .ok (.iconst 1, 1) := by decide +kernel
theorem dX2_readOwner_31 : decode cX2_readOwner 31 = .ok (.ireturn, 1) := by decide +kernel
set_option maxRecDepth 20000 in
theorem ggX2_readRange_X2_skip : GoodIn wsX2_readRange wsX2_skip := goodIn_r _ [7, 8, 9, 10, 11, 6, 12, 13, 14, 23, 24, 25, 26, 27, 28, 29, 30] (by decide +kernel) (by decide +kernel)
set_option maxRecDepth 20000 in
theorem gX2_readRange_X2_skip : GoodIn wsX2_readRange (wsV RX2 32 RX2 yX2_skip wsX2_skip) := goodIn_app (goodIn_of _ (by decide +kernel)) ggX2_readRange_X2_skip
set_option maxRecDepth 20000 in
theorem ggX2_readRange_X2_readNumber : GoodIn wsX2_readRange wsX2_readNumber := goodIn_r _ [18, 8, 19, 20, 21, 6, 22, 9, 10, 11, 12, 13, 14, 23, 24, 25, 26, 27, 28, 29, 30] (by decide +kernel) (by decide +kernel)
set_option maxRecDepth 20000 in
theorem gX2_readRange_X2_readNumber : GoodIn wsX2_readRange (wsV RX2 55 RX2 yX2_readNumber wsX2_readNumber) := goodIn_app (goodIn_of _ (by decide +kernel)) ggX2_readRange_X2_readNumber
theorem dX2_readRange_0 : decode cX2_readRange 0 = .ok (.aload_n 0, 1) := by decide +kernel
theorem dX2_readRange_1 : decode cX2_readRange 1 = .ok (.bipush 58, 2) := by decide +kernel
theorem dX2_readRange_3 : decode cX2_readRange 3 = .ok (.invokevirtual 32, 3) := by decide +kernel
theorem dX2_readRange_6 : decode cX2_readRange 6 = .ok (.ifCond .ne 5, 3) := by decide +kernel
theorem dX2_readRange_9 : decode cX2_readRange 9 = .ok (.iconst 0, 1) := by decide +kernel
theorem dX2_readRange_10 : decode cX2_readRange 10 = .ok (.ireturn, 1) := by decide +kernel
theorem dX2_readRange_11 : decode cX2_readRange 11 = .ok (.aload_n 0, 1) := by decide +kernel
theorem dX2_readRange_12 : decode cX2_readRange 12 = .ok (.aload_n 0, 1) := by decide +kernel
theorem dX2_readRange_13 : decode cX2_readRange 13 = .ok (.invokevirtual 55, 3) := by decide +kernel
theorem dX2_readRange_16 : decode cX2_readRange 16 = .ok (.putfield 59, 3) := by decide +kernel
theorem dX2_readRange_19 : decode cX2_readRange 19 = .ok (.aload_n 0, 1) := by decide +kernel
theorem dX2_readRange_20 : decode cX2_readRange 20 = .ok (.getfield 59, 3) := by decide +kernel
theorem dX2_readRange_23 : decode cX2_readRange 23 = .ok (.ifCond .lt 12, 3) := by decide +kernel
theorem dX2_readRange_26 : decode cX2_readRange 26 = .ok (.aload_n 0, 1) := by decide +kernel
theorem dX2_readRange_27 : decode cX2_readRange 27 = .ok (.bipush 45, 2) := by decide +kernel
theorem dX2_readRange_29 : decode cX2_readRange 29 = .ok (.invokevirtual 32, 3) := by decide +kernel
theorem dX2_readRange_32 : decode cX2_readRange 32 = .ok (.ifCond .ne 5, 3) := by decide +kernel
theorem dX2_readRange_35 : decode cX2_readRange 35 = .ok (.iconst 0, 1) := by decide +kernel
theorem dX2_readRange_36 : decode cX2_readRange 36 = .ok (.ireturn, 1) := by decide +kernel
theorem dX2_readRange_37 : decode cX2_readRange 37 = .ok (.aload_n 0, 1) := by decide +kernel
theorem dX2_readRange_38 : decode cX2_readRange 38 = .ok (.aload_n 0, 1) := by decide +kernel
theorem dX2_readRange_39 : decode cX2_readRange 39 = .ok (.invokevirtual 55, 3) := by decide +kernel
theorem dX2_readRange_42 : decode cX2_readRange 42 = .ok (.putfield 78, 3) := by decide +kernel
theorem dX2_readRange_45 : decode cX2_readRange 45 = .ok (.aload_n 0, 1) := by decide +kernel
theorem dX2_readRange_46 : decode cX2_readRange 46 = .ok (.getfield 78, 3) := by decide +kernel
theorem dX2_readRange_49 : decode cX2_readRange 49 = .ok (.ifCond .lt 7, 3) := by decide +kernel
theorem dX2_readRange_52 : decode cX2_readRange 52 = .ok (.iconst 1, 1) := by decide +kernel
theorem dX2_readRange_53 : decode cX2_readRange 53 = .ok (.goto 4, 3) := by decide +kernel
theorem dX2_readRange_56 : decode cX2_readRange 56 = .ok (.iconst 0, 1) := by decide +kernel
theorem dX2_readRange_57 : decode cX2_readRange 57 = .ok (.ireturn, 1) := by decide +kernel
set_option maxRecDepth 20000 in
theorem ggX2_readNumber_X2_digit : GoodIn wsX2_readNumber wsX2_digit := goodIn_r _ [6, 7, 8, 9, 5, 10, 1, 11, 12, 13, 14, 15, 16, 17, 18, 19, 20] (by decide +kernel) (by decide +kernel)
set_option maxRecDepth 20000 in
theorem gX2_readNumber_X2_digit : GoodIn wsX2_readNumber (wsV RX2 68 RX2 yX2_digit wsX2_digit) := goodIn_app (goodIn_of _ (by decide +kernel)) ggX2_readNumber_X2_digit
theorem dX2_readNumber_0 : decode cX2_readNumber 0 = .ok (.aload_n 0, 1) := by decide +kernel
theorem dX2_readNumber_1 : decode cX2_readNumber 1 = .ok (.invokevirtual 68, 3) := by decide +kernel
theorem dX2_readNumber_4 : decode cX2_readNumber 4 = .ok (.istore_n 1, 1) := by decide +kernel
theorem dX2_readNumber_5 : decode cX2_readNumber 5 = .ok (.iload_n 1, 1) := by decide +kernel
theorem dX2_readNumber_6 : decode cX2_readNumber 6 = .ok (.ifCond .ge 5, 3) := by decide +kernel
theorem dX2_readNumber_9 : decode cX2_readNumber 9 = .ok (.iconst (-1), 1) := by decide +kernel
theorem dX2_readNumber_10 : decode cX2_readNumber 10 = .ok (.ireturn, 1) := by decide +kernel
theorem dX2_readNumber_11 : decode cX2_readNumber 11 = .ok (.aload_n 0, 1) := by decide +kernel
theorem dX2_readNumber_12 : decode cX2_readNumber 12 = .ok (.dup, 1) := by decide +kernel
theorem dX2_readNumber_13 : decode cX2_readNumber 13 = .ok (.getfield 25, 3) := by decide +kernel
theorem dX2_readNumber_16 : decode cX2_readNumber 16 = .ok (.iconst 1, 1) := by decide +kernel
theorem dX2_readNumber_17 : decode cX2_readNumber 17 = .ok (.iadd, 1) := by decide +kernel
theorem dX2_readNumber_18 : decode cX2_readNumber 18 = .ok (.putfield 25, 3) := by decide +kernel
theorem dX2_readNumber_21 : decode cX2_readNumber 21 = .ok (.iconst 1, 1) := by decide +kernel
theorem dX2_readNumber_22 : decode cX2_readNumber 22 = .ok (.istore_n 2, 1) := by decide +kernel
theorem dX2_readNumber_23 : decode cX2_readNumber 23 = .ok (.iload_n 2, 1) := by decide +kernel
theorem dX2_readNumber_24 : decode cX2_readNumber 24 = .ok (.iconst 3, 1) := by decide +kernel
theorem dX2_readNumber_25 : decode cX2_readNumber 25 = .ok (.if_icmp .ge 53, 3) := by decide +kernel
theorem dX2_readNumber_28 : decode cX2_readNumber 28 = .ok (.iload_n 1, 1) := by decide +kernel
theorem dX2_readNumber_29 : decode cX2_readNumber 29 = .ok (.ifCond .le 49, 3) := by decide +kernel
theorem dX2_readNumber_32 : decode cX2_readNumber 32 = .ok (.aload_n 0, 1) := by decide +kernel
theorem dX2_readNumber_33 : decode cX2_readNumber 33 = .ok (.invokevirtual 68, 3) := by decide +kernel
theorem dX2_readNumber_36 : decode cX2_readNumber 36 = .ok (.istore_n 3, 1) := by decide +kernel
theorem dX2_readNumber_37 : decode cX2_readNumber 37 = .ok (.iload_n 3, 1) := by decide +kernel
theorem dX2_readNumber_38 : decode cX2_readNumber 38 = .ok (.ifCond .lt 15, 3) := by decide +kernel
theorem dX2_readNumber_41 : decode cX2_readNumber 41 = .ok (.iload_n 1, 1) := by decide +kernel
theorem dX2_readNumber_42 : decode cX2_readNumber 42 = .ok (.bipush 10, 2) := by decide +kernel
theorem dX2_readNumber_44 : decode cX2_readNumber 44 = .ok (.imul, 1) := by decide +kernel
theorem dX2_readNumber_45 : decode cX2_readNumber 45 = .ok (.iload_n 3, 1) := by decide +kernel
theorem dX2_readNumber_46 : decode cX2_readNumber 46 = .ok (.iadd, 1) := by decide +kernel
theorem dX2_readNumber_47 : decode cX2_readNumber 47 = .ok (.sipush 300, 3) := by decide +kernel
theorem dX2_readNumber_50 : decode cX2_readNumber 50 = .ok (.if_icmp .le 5, 3) := by decide +kernel
theorem dX2_readNumber_53 : decode cX2_readNumber 53 = .ok (.iload_n 1, 1) := by decide +kernel
theorem dX2_readNumber_54 : decode cX2_readNumber 54 = .ok (.ireturn, 1) := by decide +kernel
theorem dX2_readNumber_55 : decode cX2_readNumber 55 = .ok (.iload_n 1, 1) := by decide +kernel
theorem dX2_readNumber_56 : decode cX2_readNumber 56 = .ok (.bipush 10, 2) := by decide +kernel
theorem dX2_readNumber_58 : decode cX2_readNumber 58 = .ok (.imul, 1) := by decide +kernel
theorem dX2_readNumber_59 : decode cX2_readNumber 59 = .ok (.iload_n 3, 1) := by decide +kernel
theorem dX2_readNumber_60 : decode cX2_readNumber 60 = .ok (.iadd, 1) := by decide +kernel
theorem dX2_readNumber_61 : decode cX2_readNumber 61 = .ok (.istore_n 1, 1) := by decide +kernel
theorem dX2_readNumber_62 : decode cX2_readNumber 62 = .ok (.aload_n 0, 1) := by decide +kernel
theorem dX2_readNumber_63 : decode cX2_readNumber 63 = .ok (.dup, 1) := by decide +kernel
theorem dX2_readNumber_64 : decode cX2_readNumber 64 = .ok (.getfield 25, 3) := by decide +kernel
theorem dX2_readNumber_67 : decode cX2_readNumber 67 = .ok (.iconst 1, 1) := by decide +kernel
theorem dX2_readNumber_68 : decode cX2_readNumber 68 = .ok (.iadd, 1) := by decide +kernel
theorem dX2_readNumber_69 : decode cX2_readNumber 69 = .ok (.putfield 25, 3) := by decide +kernel
theorem dX2_readNumber_72 : decode cX2_readNumber 72 = .ok (.iinc 2 1, 3) := by decide +kernel
theorem dX2_readNumber_75 : decode cX2_readNumber 75 = .ok (.goto (-52), 3) := by decide +kernel
theorem dX2_readNumber_78 : decode cX2_readNumber 78 = .ok (.iload_n 1, 1) := by decide +kernel
theorem dX2_readNumber_79 : decode cX2_readNumber 79 = .ok (.ireturn, 1) := by decide +kernel
set_option maxRecDepth 20000 in
theorem ggX2_skip_X2_sign : GoodIn wsX2_skip wsX2_sign := goodIn_r _ [6, 1, 7, 8, 9, 10, 11, 12, 13, 14, 15, 16] (by decide +kernel) (by decide +kernel)
set_option maxRecDepth 20000 in
theorem gX2_skip_X2_sign : GoodIn wsX2_skip (wsV RX2 36 RX2 yX2_sign wsX2_sign) := goodIn_app (goodIn_of _ (by decide +kernel)) ggX2_skip_X2_sign
theorem dX2_skip_0 : decode cX2_skip 0 = .ok (.aload_n 0, 1) := by decide +kernel
theorem dX2_skip_1 : decode cX2_skip 1 = .ok (.invokevirtual 36, 3) := by decide +kernel
theorem dX2_skip_4 : decode cX2_skip 4 = .ok (.iload_n 1, 1) := by decide +kernel
theorem dX2_skip_5 : decode cX2_skip 5 = .ok (.if_icmp .eq 5, 3) := by decide +kernel
theorem dX2_skip_8 : decode cX2_skip 8 = .ok (.iconst 0, 1) := by decide +kernel
theorem dX2_skip_9 : decode cX2_skip 9 = .ok (.ireturn, 1) := by decide +kernel
theorem dX2_skip_10 : decode cX2_skip 10 = .ok (.aload_n 0, 1) := by decide +kernel
theorem dX2_skip_11 : decode cX2_skip 11 = .ok (.dup, 1) := by decide +kernel
theorem dX2_skip_12 : decode cX2_skip 12 = .ok (.getfield 25, 3) := by decide +kernel
theorem dX2_skip_15 : decode cX2_skip 15 = .ok (.iconst 1, 1) := by decide +kernel
theorem dX2_skip_16 : decode cX2_skip 16 = .ok (.iadd, 1) := by decide +kernel
theorem dX2_skip_17 : decode cX2_skip 17 = .ok (.putfield 25, 3) := by decide +kernel
theorem dX2_skip_20 : decode cX2_skip 20 = .ok (.iconst 1, 1) := by decide +kernel
theorem dX2_skip_21 : decode cX2_skip 21 = .ok (.ireturn, 1) := by decide +kernel
set_option maxRecDepth 20000 in
theorem ggX2_digit_X2_sign : GoodIn wsX2_digit wsX2_sign := goodIn_r _ [5, 6, 7, 8, 9, 10, 11, 12, 13, 14, 15, 16] (by decide +kernel) (by decide +kernel)
set_option maxRecDepth 20000 in
theorem gX2_digit_X2_sign : GoodIn wsX2_digit (wsV RX2 36 RX2 yX2_sign wsX2_sign) := goodIn_app (goodIn_of _ (by decide +kernel)) ggX2_digit_X2_sign
theorem dX2_digit_0 : decode cX2_digit 0 = .ok (.aload_n 0, 1) := by decide +kernel
theorem dX2_digit_1 : decode cX2_digit 1 = .ok (.invokevirtual 36, 3) := by decide +kernel
theorem dX2_digit_4 : decode cX2_digit 4 = .ok (.istore_n 1, 1) := by decide +kernel
theorem dX2_digit_5 : decode cX2_digit 5 = .ok (.iload_n 1, 1) := by decide +kernel
theorem dX2_digit_6 : decode cX2_digit 6 = .ok (.bipush 48, 2) := by decide +kernel
theorem dX2_digit_8 : decode cX2_digit 8 = .ok (.if_icmp .lt 16, 3) := by decide +kernel
theorem dX2_digit_11 : decode cX2_digit 11 = .ok (.iload_n 1, 1) := by decide +kernel
theorem dX2_digit_12 : decode cX2_digit 12 = .ok (.bipush 57, 2) := by decide +kernel
theorem dX2_digit_14 : decode cX2_digit 14 = .ok (.if_icmp .gt 10, 3) := by decide +kernel
theorem dX2_digit_17 : decode cX2_digit 17 = .ok (.iload_n 1, 1) := by decide +kernel
theorem dX2_digit_18 : decode cX2_digit 18 = .ok (.bipush 48, 2) := by decide +kernel
theorem dX2_digit_20 : decode cX2_digit 20 = .ok (.isub, 1) := by decide +kernel
theorem dX2_digit_21 : decode cX2_digit 21 = .ok (.goto 4, 3) := by decide +kernel
theorem dX2_digit_24 : decode cX2_digit 24 = .ok (.iconst (-1), 1) := by decide +kernel
theorem dX2_digit_25 : decode cX2_digit 25 = .ok (.ireturn, 1) := by decide +kernel
theorem dX2_sign_0 : decode cX2_sign 0 = .ok (.aload_n 0, 1) := by decide +kernel
