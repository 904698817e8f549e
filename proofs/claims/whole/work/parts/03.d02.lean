set_option maxRecDepth 20000 in
theorem ggX5_span_X3_isSound : GoodIn wsX5_span wsX3_isSound := goodIn_r _ [11, 12, 13, 14, 10, 15, 16, 17, 18, 19, 5, 20, 21, 22, 23, 64, 65, 66] (by decide +kernel) (by decide +kernel)
set_option maxRecDepth 20000 in
theorem gX5_span_X3_isSound : GoodIn wsX5_span (wsV RX5 66 RX3 yX3_isSound wsX3_isSound) := goodIn_app (goodIn_of _ (by decide +kernel)) ggX5_span_X3_isSound
set_option maxRecDepth 20000 in
theorem ggX5_span_X2_leastOfLoop : GoodIn wsX5_span wsX2_leastOfLoop := goodIn_r _ [28, 29, 30, 31, 27, 32, 33, 34, 35, 10, 36, 16, 37, 38, 39, 40, 17, 4, 5, 6, 41, 42, 43, 44, 45, 46, 47, 48, 49, 67, 68, 64, 65, 66] (by decide +kernel) (by decide +kernel)
set_option maxRecDepth 20000 in
theorem gX5_span_X2_leastOfLoop : GoodIn wsX5_span (wsV RX5 103 RX2 yX2_leastOfLoop wsX2_leastOfLoop) := goodIn_app (goodIn_of _ (by decide +kernel)) ggX5_span_X2_leastOfLoop
set_option maxRecDepth 20000 in
theorem ggX5_span_X2_mostOfLoop : GoodIn wsX5_span wsX2_mostOfLoop := goodIn_r _ [53, 54, 30, 31, 27, 32, 33, 34, 35, 10, 36, 16, 37, 38, 39, 40, 17, 4, 5, 6, 41, 42, 43, 44, 45, 46, 47, 48, 49, 67, 68, 64, 65, 66] (by decide +kernel) (by decide +kernel)
set_option maxRecDepth 20000 in
theorem gX5_span_X2_mostOfLoop : GoodIn wsX5_span (wsV RX5 107 RX2 yX2_mostOfLoop wsX2_mostOfLoop) := goodIn_app (goodIn_of _ (by decide +kernel)) ggX5_span_X2_mostOfLoop
set_option maxRecDepth 20000 in
theorem ggX5_span_X2_slowest : GoodIn wsX5_span wsX2_slowest := goodIn_r _ [58, 54, 33, 34, 35, 10, 36, 16, 37, 38, 39, 40, 17, 4, 5, 6, 41, 42, 27, 43, 44, 45, 46, 47, 48, 49, 67, 68, 64, 65, 66] (by decide +kernel) (by decide +kernel)
set_option maxRecDepth 20000 in
theorem gX5_span_X2_slowest : GoodIn wsX5_span (wsV RX5 110 RX2 yX2_slowest wsX2_slowest) := goodIn_app (goodIn_of _ (by decide +kernel)) ggX5_span_X2_slowest
theorem dX5_span_0 : decode cX5_span 0 = .ok (.iload_n 1, 1) := by decide +kernel
theorem dX5_span_1 : decode cX5_span 1 = .ok (.iconst 3, 1) := by decide +kernel
theorem dX5_span_2 : decode cX5_span 2 = .ok (.invokestatic 62, 3) := by decide +kernel
theorem dX5_span_5 : decode cX5_span 5 = .ok (.ifCond .ne 6, 3) := by decide +kernel
theorem dX5_span_8 : decode cX5_span 8 = .ok (.bipush (-2), 2) := by decide +kernel
theorem dX5_span_10 : decode cX5_span 10 = .ok (.ireturn, 1) := by decide +kernel
theorem dX5_span_11 : decode cX5_span 11 = .ok (.aload_n 0, 1) := by decide +kernel
theorem dX5_span_12 : decode cX5_span 12 = .ok (.getfield 10, 3) := by decide +kernel
theorem dX5_span_15 : decode cX5_span 15 = .ok (.invokevirtual 66, 3) := by decide +kernel
theorem dX5_span_18 : decode cX5_span 18 = .ok (.ifCond .ne 6, 3) := by decide +kernel
theorem dX5_span_21 : decode cX5_span 21 = .ok (.bipush (-3), 2) := by decide +kernel
theorem dX5_span_23 : decode cX5_span 23 = .ok (.ireturn, 1) := by decide +kernel
theorem dX5_span_24 : decode cX5_span 24 = .ok (.iload_n 1, 1) := by decide +kernel
theorem dX5_span_25 : decode cX5_span 25 = .ok (.ifCond .ne 15, 3) := by decide +kernel
theorem dX5_span_28 : decode cX5_span 28 = .ok (.aload_n 0, 1) := by decide +kernel
theorem dX5_span_29 : decode cX5_span 29 = .ok (.getfield 40, 3) := by decide +kernel
theorem dX5_span_32 : decode cX5_span 32 = .ok (.aload_n 0, 1) := by decide +kernel
theorem dX5_span_33 : decode cX5_span 33 = .ok (.getfield 10, 3) := by decide +kernel
theorem dX5_span_36 : decode cX5_span 36 = .ok (.invokevirtual 103, 3) := by decide +kernel
theorem dX5_span_39 : decode cX5_span 39 = .ok (.ireturn, 1) := by decide +kernel
theorem dX5_span_40 : decode cX5_span 40 = .ok (.iload_n 1, 1) := by decide +kernel
theorem dX5_span_41 : decode cX5_span 41 = .ok (.iconst 1, 1) := by decide +kernel
theorem dX5_span_42 : decode cX5_span 42 = .ok (.if_icmp .ne 15, 3) := by decide +kernel
theorem dX5_span_45 : decode cX5_span 45 = .ok (.aload_n 0, 1) := by decide +kernel
theorem dX5_span_46 : decode cX5_span 46 = .ok (.getfield 40, 3) := by decide +kernel
theorem dX5_span_49 : decode cX5_span 49 = .ok (.aload_n 0, 1) := by decide +kernel
theorem dX5_span_50 : decode cX5_span 50 = .ok (.getfield 10, 3) := by decide +kernel
theorem dX5_span_53 : decode cX5_span 53 = .ok (.invokevirtual 107, 3) := by decide +kernel
theorem dX5_span_56 : decode cX5_span 56 = .ok (.ireturn, 1) := by decide +kernel
theorem dX5_span_57 : decode cX5_span 57 = .ok (.aload_n 0, 1) := by decide +kernel
theorem dX5_span_58 : decode cX5_span 58 = .ok (.getfield 40, 3) := by decide +kernel
theorem dX5_span_61 : decode cX5_span 61 = .ok (.aload_n 0, 1) := by decide +kernel
theorem dX5_span_62 : decode cX5_span 62 = .ok (.getfield 10, 3) := by decide +kernel
theorem dX5_span_65 : decode cX5_span 65 = .ok (.invokevirtual 110, 3) := by decide +kernel
theorem dX5_span_68 : decode cX5_span 68 = .ok (.ireturn, 1) := by decide +kernel
set_option maxRecDepth 20000 in
theorem ggX5_law_X5_isBelow : GoodIn wsX5_law wsX5_isBelow := goodIn_r _ [6] (by decide +kernel) (by decide +kernel)
set_option maxRecDepth 20000 in
theorem gX5_law_X5_isBelow : GoodIn wsX5_law (va_wsS RX5 62 yX5_isBelow wsX5_isBelow) := goodIn_app (goodIn_of _ (by decide +kernel)) ggX5_law_X5_isBelow
set_option maxRecDepth 20000 in
theorem ggX5_law_X1_size : GoodIn wsX5_law wsX1_size := goodIn_r _ [11, 12, 63, 64, 65] (by decide +kernel) (by decide +kernel)
set_option maxRecDepth 20000 in
theorem gX5_law_X1_size : GoodIn wsX5_law (wsV RX5 113 RX1 yX1_size wsX1_size) := goodIn_app (goodIn_of _ (by decide +kernel)) ggX5_law_X1_size
set_option maxRecDepth 20000 in
theorem ggX5_law_X5_endOf : GoodIn wsX5_law wsX5_endOf := goodIn_r _ [15] (by decide +kernel) (by decide +kernel)
set_option maxRecDepth 20000 in
theorem gX5_law_X5_endOf : GoodIn wsX5_law (va_wsS RX5 95 yX5_endOf wsX5_endOf) := goodIn_app (goodIn_of _ (by decide +kernel)) ggX5_law_X5_endOf
set_option maxRecDepth 20000 in
theorem ggX5_law_X1_add : GoodIn wsX5_law wsX1_add := goodIn_r _ [19, 12, 20, 21, 63, 64, 65] (by decide +kernel) (by decide +kernel)
set_option maxRecDepth 20000 in
theorem gX5_law_X1_add : GoodIn wsX5_law (wsV RX5 114 RX1 yX1_add wsX1_add) := goodIn_app (goodIn_of _ (by decide +kernel)) ggX5_law_X1_add
set_option maxRecDepth 20000 in
theorem ggX5_law_X4_measure : GoodIn wsX5_law wsX4_measure := goodIn_r _ [26, 27, 28, 29, 30, 31, 25, 32, 33, 34, 35, 10, 36, 37, 5, 38, 39, 40, 41, 42, 12, 21, 20, 43, 44, 45, 46, 47, 48, 49, 50, 51, 52, 53, 54, 55, 56, 57, 66, 67, 63, 64, 65] (by decide +kernel) (by decide +kernel)
set_option maxRecDepth 20000 in
theorem gX5_law_X4_measure : GoodIn wsX5_law (wsV RX5 115 RX4 yX4_measure wsX4_measure) := goodIn_app (goodIn_of _ (by decide +kernel)) ggX5_law_X4_measure
theorem dX5_law_0 : decode cX5_law 0 = .ok (.iload_n 1, 1) := by decide +kernel
theorem dX5_law_1 : decode cX5_law 1 = .ok (.bipush 6, 2) := by decide +kernel
theorem dX5_law_3 : decode cX5_law 3 = .ok (.invokestatic 62, 3) := by decide +kernel
theorem dX5_law_6 : decode cX5_law 6 = .ok (.ifCond .eq 17, 3) := by decide +kernel
theorem dX5_law_9 : decode cX5_law 9 = .ok (.iload_n 3, 1) := by decide +kernel
theorem dX5_law_10 : decode cX5_law 10 = .ok (.bipush 6, 2) := by decide +kernel
theorem dX5_law_12 : decode cX5_law 12 = .ok (.invokestatic 62, 3) := by decide +kernel
theorem dX5_law_15 : decode cX5_law 15 = .ok (.ifCond .eq 8, 3) := by decide +kernel
theorem dX5_law_18 : decode cX5_law 18 = .ok (.iload_n 1, 1) := by decide +kernel
theorem dX5_law_19 : decode cX5_law 19 = .ok (.iload_n 3, 1) := by decide +kernel
theorem dX5_law_20 : decode cX5_law 20 = .ok (.if_icmp .ne 6, 3) := by decide +kernel
theorem dX5_law_23 : decode cX5_law 23 = .ok (.bipush (-2), 2) := by decide +kernel
theorem dX5_law_25 : decode cX5_law 25 = .ok (.ireturn, 1) := by decide +kernel
theorem dX5_law_26 : decode cX5_law 26 = .ok (.aload_n 0, 1) := by decide +kernel
theorem dX5_law_27 : decode cX5_law 27 = .ok (.getfield 26, 3) := by decide +kernel
theorem dX5_law_30 : decode cX5_law 30 = .ok (.invokevirtual 113, 3) := by decide +kernel
theorem dX5_law_33 : decode cX5_law 33 = .ok (.bipush 12, 2) := by decide +kernel
theorem dX5_law_35 : decode cX5_law 35 = .ok (.if_icmp .lt 6, 3) := by decide +kernel
theorem dX5_law_38 : decode cX5_law 38 = .ok (.bipush (-4), 2) := by decide +kernel
theorem dX5_law_40 : decode cX5_law 40 = .ok (.ireturn, 1) := by decide +kernel
theorem dX5_law_41 : decode cX5_law 41 = .ok (.aload_n 0, 1) := by decide +kernel
theorem dX5_law_42 : decode cX5_law 42 = .ok (.getfield 26, 3) := by decide +kernel
theorem dX5_law_45 : decode cX5_law 45 = .ok (.iload_n 1, 1) := by decide +kernel
theorem dX5_law_46 : decode cX5_law 46 = .ok (.iload_n 2, 1) := by decide +kernel
theorem dX5_law_47 : decode cX5_law 47 = .ok (.invokestatic 95, 3) := by decide +kernel
theorem dX5_law_50 : decode cX5_law 50 = .ok (.iload_n 3, 1) := by decide +kernel
theorem dX5_law_51 : decode cX5_law 51 = .ok (.iload 4, 2) := by decide +kernel
theorem dX5_law_53 : decode cX5_law 53 = .ok (.invokestatic 95, 3) := by decide +kernel
theorem dX5_law_56 : decode cX5_law 56 = .ok (.invokevirtual 114, 3) := by decide +kernel
theorem dX5_law_59 : decode cX5_law 59 = .ok (.aload_n 0, 1) := by decide +kernel
theorem dX5_law_60 : decode cX5_law 60 = .ok (.getfield 33, 3) := by decide +kernel
theorem dX5_law_63 : decode cX5_law 63 = .ok (.aload_n 0, 1) := by decide +kernel
theorem dX5_law_64 : decode cX5_law 64 = .ok (.getfield 26, 3) := by decide +kernel
theorem dX5_law_67 : decode cX5_law 67 = .ok (.invokevirtual 115, 3) := by decide +kernel
theorem dX5_law_70 : decode cX5_law 70 = .ok (.aload_n 0, 1) := by decide +kernel
theorem dX5_law_71 : decode cX5_law 71 = .ok (.getfield 26, 3) := by decide +kernel
theorem dX5_law_74 : decode cX5_law 74 = .ok (.invokevirtual 113, 3) := by decide +kernel
theorem dX5_law_77 : decode cX5_law 77 = .ok (.iconst 1, 1) := by decide +kernel
theorem dX5_law_78 : decode cX5_law 78 = .ok (.isub, 1) := by decide +kernel
theorem dX5_law_79 : decode cX5_law 79 = .ok (.ireturn, 1) := by decide +kernel
set_option maxRecDepth 20000 in
theorem ggX5_repeal_X1_size : GoodIn wsX5_repeal wsX1_size := goodIn_r _ [7, 8, 60, 61, 62] (by decide +kernel) (by decide +kernel)
set_option maxRecDepth 20000 in
theorem gX5_repeal_X1_size : GoodIn wsX5_repeal (wsV RX5 113 RX1 yX1_size wsX1_size) := goodIn_app (goodIn_of _ (by decide +kernel)) ggX5_repeal_X1_size
set_option maxRecDepth 20000 in
theorem ggX5_repeal_X5_isBelow : GoodIn wsX5_repeal wsX5_isBelow := goodIn_r _ [12] (by decide +kernel) (by decide +kernel)
set_option maxRecDepth 20000 in
theorem gX5_repeal_X5_isBelow : GoodIn wsX5_repeal (va_wsS RX5 62 yX5_isBelow wsX5_isBelow) := goodIn_app (goodIn_of _ (by decide +kernel)) ggX5_repeal_X5_isBelow
set_option maxRecDepth 20000 in
theorem ggX5_repeal_X1_remove : GoodIn wsX5_repeal wsX1_remove := goodIn_r _ [16, 8, 17, 18, 10, 11, 12, 60, 61, 62] (by decide +kernel) (by decide +kernel)
set_option maxRecDepth 20000 in
theorem gX5_repeal_X1_remove : GoodIn wsX5_repeal (wsV RX5 119 RX1 yX1_remove wsX1_remove) := goodIn_app (goodIn_of _ (by decide +kernel)) ggX5_repeal_X1_remove
set_option maxRecDepth 20000 in
theorem ggX5_repeal_X4_measure : GoodIn wsX5_repeal wsX4_measure := goodIn_r _ [23, 24, 25, 26, 27, 28, 22, 29, 30, 31, 32, 6, 33, 34, 11, 35, 36, 37, 38, 39, 8, 18, 17, 40, 41, 42, 43, 44, 45, 46, 47, 48, 49, 50, 51, 52, 53, 54, 63, 64, 60, 61, 62] (by decide +kernel) (by decide +kernel)
set_option maxRecDepth 20000 in
theorem gX5_repeal_X4_measure : GoodIn wsX5_repeal (wsV RX5 115 RX4 yX4_measure wsX4_measure) := goodIn_app (goodIn_of _ (by decide +kernel)) ggX5_repeal_X4_measure
theorem dX5_repeal_0 : decode cX5_repeal 0 = .ok (.iload_n 1, 1) := by decide +kernel
theorem dX5_repeal_1 : decode cX5_repeal 1 = .ok (.aload_n 0, 1) := by decide +kernel
theorem dX5_repeal_2 : decode cX5_repeal 2 = .ok (.getfield 26, 3) := by decide +kernel
theorem dX5_repeal_5 : decode cX5_repeal 5 = .ok (.invokevirtual 113, 3) := by decide +kernel
theorem dX5_repeal_8 : decode cX5_repeal 8 = .ok (.invokestatic 62, 3) := by decide +kernel
theorem dX5_repeal_11 : decode cX5_repeal 11 = .ok (.ifCond .ne 6, 3) := by decide +kernel
theorem dX5_repeal_14 : decode cX5_repeal 14 = .ok (.bipush (-2), 2) := by decide +kernel
theorem dX5_repeal_16 : decode cX5_repeal 16 = .ok (.ireturn, 1) := by decide +kernel
theorem dX5_repeal_17 : decode cX5_repeal 17 = .ok (.aload_n 0, 1) := by decide +kernel
theorem dX5_repeal_18 : decode cX5_repeal 18 = .ok (.getfield 26, 3) := by decide +kernel
theorem dX5_repeal_21 : decode cX5_repeal 21 = .ok (.iload_n 1, 1) := by decide +kernel
theorem dX5_repeal_22 : decode cX5_repeal 22 = .ok (.invokevirtual 119, 3) := by decide +kernel
theorem dX5_repeal_25 : decode cX5_repeal 25 = .ok (.aload_n 0, 1) := by decide +kernel
theorem dX5_repeal_26 : decode cX5_repeal 26 = .ok (.getfield 33, 3) := by decide +kernel
theorem dX5_repeal_29 : decode cX5_repeal 29 = .ok (.aload_n 0, 1) := by decide +kernel
theorem dX5_repeal_30 : decode cX5_repeal 30 = .ok (.getfield 26, 3) := by decide +kernel
theorem dX5_repeal_33 : decode cX5_repeal 33 = .ok (.invokevirtual 115, 3) := by decide +kernel
theorem dX5_repeal_36 : decode cX5_repeal 36 = .ok (.iconst 1, 1) := by decide +kernel
theorem dX5_repeal_37 : decode cX5_repeal 37 = .ok (.ireturn, 1) := by decide +kernel
set_option maxRecDepth 20000 in
theorem ggX5_breach_X3_isSound : GoodIn wsX5_breach wsX3_isSound := goodIn_r _ [7, 8, 9, 10, 6, 11, 12, 13, 14, 15, 16, 17, 18, 19, 20, 60, 61, 62] (by decide +kernel) (by decide +kernel)
set_option maxRecDepth 20000 in
theorem gX5_breach_X3_isSound : GoodIn wsX5_breach (wsV RX5 66 RX3 yX3_isSound wsX3_isSound) := goodIn_app (goodIn_of _ (by decide +kernel)) ggX5_breach_X3_isSound
set_option maxRecDepth 20000 in
theorem ggX5_breach_X3_size : GoodIn wsX5_breach wsX3_size := goodIn_r _ [24, 12, 60, 61, 62] (by decide +kernel) (by decide +kernel)
set_option maxRecDepth 20000 in
theorem gX5_breach_X3_size : GoodIn wsX5_breach (wsV RX5 48 RX3 yX3_size wsX3_size) := goodIn_app (goodIn_of _ (by decide +kernel)) ggX5_breach_X3_size
set_option maxRecDepth 20000 in
theorem ggX5_breach_X3_endsOf : GoodIn wsX5_breach wsX3_endsOf := goodIn_r _ [28, 12, 13, 29, 16, 30, 60, 61, 62] (by decide +kernel) (by decide +kernel)
set_option maxRecDepth 20000 in
theorem gX5_breach_X3_endsOf : GoodIn wsX5_breach (wsV RX5 123 RX3 yX3_endsOf wsX3_endsOf) := goodIn_app (goodIn_of _ (by decide +kernel)) ggX5_breach_X3_endsOf
set_option maxRecDepth 20000 in
theorem ggX5_breach_X3_stateAt : GoodIn wsX5_breach wsX3_stateAt := goodIn_r _ [34, 12, 14, 29, 16, 30, 60, 61, 62] (by decide +kernel) (by decide +kernel)
set_option maxRecDepth 20000 in
theorem gX5_breach_X3_stateAt : GoodIn wsX5_breach (wsV RX5 70 RX3 yX3_stateAt wsX3_stateAt) := goodIn_app (goodIn_of _ (by decide +kernel)) ggX5_breach_X3_stateAt
set_option maxRecDepth 20000 in
theorem ggX5_breach_X1_allow : GoodIn wsX5_breach wsX1_allow := goodIn_r _ [39, 40, 41, 42, 15, 16, 17, 18, 19, 20, 43, 44, 45, 46, 47, 48, 49, 50, 51, 52, 53, 54, 63, 64, 65] (by decide +kernel) (by decide +kernel)
set_option maxRecDepth 20000 in
theorem gX5_breach_X1_allow : GoodIn wsX5_breach (wsV RX5 126 RX1 yX1_allow wsX1_allow) := goodIn_app (goodIn_of _ (by decide +kernel)) ggX5_breach_X1_allow
theorem dX5_breach_0 : decode cX5_breach 0 = .ok (.aload_n 0, 1) := by decide +kernel
theorem dX5_breach_1 : decode cX5_breach 1 = .ok (.getfield 10, 3) := by decide +kernel
theorem dX5_breach_4 : decode cX5_breach 4 = .ok (.invokevirtual 66, 3) := by decide +kernel
theorem dX5_breach_7 : decode cX5_breach 7 = .ok (.ifCond .ne 6, 3) := by decide +kernel
theorem dX5_breach_10 : decode cX5_breach 10 = .ok (.bipush (-3), 2) := by decide +kernel
theorem dX5_breach_12 : decode cX5_breach 12 = .ok (.ireturn, 1) := by decide +kernel
theorem dX5_breach_13 : decode cX5_breach 13 = .ok (.iconst 0, 1) := by decide +kernel
theorem dX5_breach_14 : decode cX5_breach 14 = .ok (.istore_n 1, 1) := by decide +kernel
theorem dX5_breach_15 : decode cX5_breach 15 = .ok (.iload_n 1, 1) := by decide +kernel
theorem dX5_breach_16 : decode cX5_breach 16 = .ok (.aload_n 0, 1) := by decide +kernel
theorem dX5_breach_17 : decode cX5_breach 17 = .ok (.getfield 10, 3) := by decide +kernel
theorem dX5_breach_20 : decode cX5_breach 20 = .ok (.invokevirtual 48, 3) := by decide +kernel
theorem dX5_breach_23 : decode cX5_breach 23 = .ok (.if_icmp .ge 37, 3) := by decide +kernel
theorem dX5_breach_26 : decode cX5_breach 26 = .ok (.aload_n 0, 1) := by decide +kernel
theorem dX5_breach_27 : decode cX5_breach 27 = .ok (.getfield 26, 3) := by decide +kernel
theorem dX5_breach_30 : decode cX5_breach 30 = .ok (.aload_n 0, 1) := by decide +kernel
theorem dX5_breach_31 : decode cX5_breach 31 = .ok (.getfield 10, 3) := by decide +kernel
theorem dX5_breach_34 : decode cX5_breach 34 = .ok (.iload_n 1, 1) := by decide +kernel
theorem dX5_breach_35 : decode cX5_breach 35 = .ok (.invokevirtual 123, 3) := by decide +kernel
theorem dX5_breach_38 : decode cX5_breach 38 = .ok (.aload_n 0, 1) := by decide +kernel
theorem dX5_breach_39 : decode cX5_breach 39 = .ok (.getfield 10, 3) := by decide +kernel
theorem dX5_breach_42 : decode cX5_breach 42 = .ok (.iload_n 1, 1) := by decide +kernel
theorem dX5_breach_43 : decode cX5_breach 43 = .ok (.invokevirtual 70, 3) := by decide +kernel
theorem dX5_breach_46 : decode cX5_breach 46 = .ok (.invokevirtual 126, 3) := by decide +kernel
theorem dX5_breach_49 : decode cX5_breach 49 = .ok (.ifCond .ne 5, 3) := by decide +kernel
theorem dX5_breach_52 : decode cX5_breach 52 = .ok (.iload_n 1, 1) := by decide +kernel
theorem dX5_breach_53 : decode cX5_breach 53 = .ok (.ireturn, 1) := by decide +kernel
theorem dX5_breach_54 : decode cX5_breach 54 = .ok (.iinc 1 1, 3) := by decide +kernel
theorem dX5_breach_57 : decode cX5_breach 57 = .ok (.goto (-42), 3) := by decide +kernel
theorem dX5_breach_60 : decode cX5_breach 60 = .ok (.iconst (-1), 1) := by decide +kernel
theorem dX5_breach_61 : decode cX5_breach 61 = .ok (.ireturn, 1) := by decide +kernel
set_option maxRecDepth 20000 in
theorem ggX5_home_X5_isState : GoodIn wsX5_home wsX5_isState := goodIn_r _ [5, 6, 7, 4, 8] (by decide +kernel) (by decide +kernel)
set_option maxRecDepth 20000 in
theorem gX5_home_X5_isState : GoodIn wsX5_home (va_wsS RX5 44 yX5_isState wsX5_isState) := goodIn_app (goodIn_of _ (by decide +kernel)) ggX5_home_X5_isState
set_option maxRecDepth 20000 in
theorem ggX5_home_X4_length : GoodIn wsX5_home wsX4_length := goodIn_r _ [13, 14, 3, 4, 5, 6, 7, 8, 20, 21] (by decide +kernel) (by decide +kernel)
set_option maxRecDepth 20000 in
theorem gX5_home_X4_length : GoodIn wsX5_home (wsV RX5 129 RX4 yX4_length wsX4_length) := goodIn_app (goodIn_of _ (by decide +kernel)) ggX5_home_X4_length
theorem dX5_home_0 : decode cX5_home 0 = .ok (.iload_n 1, 1) := by decide +kernel
theorem dX5_home_1 : decode cX5_home 1 = .ok (.invokestatic 44, 3) := by decide +kernel
theorem dX5_home_4 : decode cX5_home 4 = .ok (.ifCond .ne 6, 3) := by decide +kernel
theorem dX5_home_7 : decode cX5_home 7 = .ok (.bipush (-2), 2) := by decide +kernel
theorem dX5_home_9 : decode cX5_home 9 = .ok (.ireturn, 1) := by decide +kernel
theorem dX5_home_10 : decode cX5_home 10 = .ok (.aload_n 0, 1) := by decide +kernel
theorem dX5_home_11 : decode cX5_home 11 = .ok (.getfield 33, 3) := by decide +kernel
theorem dX5_home_14 : decode cX5_home 14 = .ok (.iload_n 1, 1) := by decide +kernel
theorem dX5_home_15 : decode cX5_home 15 = .ok (.invokevirtual 129, 3) := by decide +kernel
theorem dX5_home_18 : decode cX5_home 18 = .ok (.ireturn, 1) := by decide +kernel
set_option maxRecDepth 20000 in
theorem ggX5_way_X5_isState : GoodIn wsX5_way wsX5_isState := goodIn_r _ [6, 7, 8, 5, 9] (by decide +kernel) (by decide +kernel)
set_option maxRecDepth 20000 in
theorem gX5_way_X5_isState : GoodIn wsX5_way (va_wsS RX5 44 yX5_isState wsX5_isState) := goodIn_app (goodIn_of _ (by decide +kernel)) ggX5_way_X5_isState
set_option maxRecDepth 20000 in
theorem ggX5_way_X4_move : GoodIn wsX5_way wsX4_move := goodIn_r _ [14, 15, 16, 17, 13, 18, 19, 4, 5, 6, 7, 8, 9, 20, 21, 22, 23, 24, 25, 26, 27, 28, 29, 30, 31, 32, 33, 34, 35, 36, 37, 38, 39, 40, 41, 42, 43, 44, 45, 46, 47, 48, 49, 50, 51, 52, 58, 59, 60, 61, 62] (by decide +kernel) (by decide +kernel)
set_option maxRecDepth 20000 in
theorem gX5_way_X4_move : GoodIn wsX5_way (wsV RX5 132 RX4 yX4_move wsX4_move) := goodIn_app (goodIn_of _ (by decide +kernel)) ggX5_way_X4_move
theorem dX5_way_0 : decode cX5_way 0 = .ok (.iload_n 1, 1) := by decide +kernel
theorem dX5_way_1 : decode cX5_way 1 = .ok (.invokestatic 44, 3) := by decide +kernel
theorem dX5_way_4 : decode cX5_way 4 = .ok (.ifCond .eq 7, 3) := by decide +kernel
theorem dX5_way_7 : decode cX5_way 7 = .ok (.iload_n 2, 1) := by decide +kernel
theorem dX5_way_8 : decode cX5_way 8 = .ok (.ifCond .ge 6, 3) := by decide +kernel
theorem dX5_way_11 : decode cX5_way 11 = .ok (.bipush (-2), 2) := by decide +kernel
theorem dX5_way_13 : decode cX5_way 13 = .ok (.ireturn, 1) := by decide +kernel
theorem dX5_way_14 : decode cX5_way 14 = .ok (.aload_n 0, 1) := by decide +kernel
theorem dX5_way_15 : decode cX5_way 15 = .ok (.getfield 33, 3) := by decide +kernel
theorem dX5_way_18 : decode cX5_way 18 = .ok (.aload_n 0, 1) := by decide +kernel
theorem dX5_way_19 : decode cX5_way 19 = .ok (.getfield 26, 3) := by decide +kernel
theorem dX5_way_22 : decode cX5_way 22 = .ok (.iload_n 1, 1) := by decide +kernel
theorem dX5_way_23 : decode cX5_way 23 = .ok (.iload_n 2, 1) := by decide +kernel
theorem dX5_way_24 : decode cX5_way 24 = .ok (.invokevirtual 132, 3) := by decide +kernel
theorem dX5_way_27 : decode cX5_way 27 = .ok (.ireturn, 1) := by decide +kernel
set_option maxRecDepth 20000 in
theorem ggX5_stops_X5_isBelow : GoodIn wsX5_stops wsX5_isBelow := goodIn_r _ [5] (by decide +kernel) (by decide +kernel)
set_option maxRecDepth 20000 in
theorem gX5_stops_X5_isBelow : GoodIn wsX5_stops (va_wsS RX5 62 yX5_isBelow wsX5_isBelow) := goodIn_app (goodIn_of _ (by decide +kernel)) ggX5_stops_X5_isBelow
set_option maxRecDepth 20000 in
theorem ggX5_stops_X3_isSound : GoodIn wsX5_stops wsX3_isSound := goodIn_r _ [10, 11, 12, 13, 9, 14, 15, 16, 17, 18, 4, 19, 20, 21, 22, 43, 44, 45] (by decide +kernel) (by decide +kernel)
set_option maxRecDepth 20000 in
theorem gX5_stops_X3_isSound : GoodIn wsX5_stops (wsV RX5 66 RX3 yX3_isSound wsX3_isSound) := goodIn_app (goodIn_of _ (by decide +kernel)) ggX5_stops_X3_isSound
set_option maxRecDepth 20000 in
theorem ggX5_stops_X3_size : GoodIn wsX5_stops wsX3_size := goodIn_r _ [26, 15, 43, 44, 45] (by decide +kernel) (by decide +kernel)
set_option maxRecDepth 20000 in
theorem gX5_stops_X3_size : GoodIn wsX5_stops (wsV RX5 48 RX3 yX3_size wsX3_size) := goodIn_app (goodIn_of _ (by decide +kernel)) ggX5_stops_X3_size
set_option maxRecDepth 20000 in
theorem ggX5_stops_X3_trigger : GoodIn wsX5_stops wsX3_trigger := goodIn_r _ [30, 15, 31, 32, 33, 9, 34, 16, 3, 4, 5, 43, 44, 45] (by decide +kernel) (by decide +kernel)
set_option maxRecDepth 20000 in
theorem gX5_stops_X3_trigger : GoodIn wsX5_stops (wsV RX5 136 RX3 yX3_trigger wsX3_trigger) := goodIn_app (goodIn_of _ (by decide +kernel)) ggX5_stops_X3_trigger
set_option maxRecDepth 20000 in
theorem ggX5_stops_X5_has : GoodIn wsX5_stops wsX5_has := goodIn_r _ [37] (by decide +kernel) (by decide +kernel)
set_option maxRecDepth 20000 in
theorem gX5_stops_X5_has : GoodIn wsX5_stops (va_wsS RX5 139 yX5_has wsX5_has) := goodIn_app (goodIn_of _ (by decide +kernel)) ggX5_stops_X5_has
theorem dX5_stops_0 : decode cX5_stops 0 = .ok (.iload_n 1, 1) := by decide +kernel
theorem dX5_stops_1 : decode cX5_stops 1 = .ok (.bipush 12, 2) := by decide +kernel
theorem dX5_stops_3 : decode cX5_stops 3 = .ok (.invokestatic 62, 3) := by decide +kernel
theorem dX5_stops_6 : decode cX5_stops 6 = .ok (.ifCond .ne 6, 3) := by decide +kernel
theorem dX5_stops_9 : decode cX5_stops 9 = .ok (.bipush (-2), 2) := by decide +kernel
theorem dX5_stops_11 : decode cX5_stops 11 = .ok (.ireturn, 1) := by decide +kernel
theorem dX5_stops_12 : decode cX5_stops 12 = .ok (.aload_n 0, 1) := by decide +kernel
theorem dX5_stops_13 : decode cX5_stops 13 = .ok (.getfield 10, 3) := by decide +kernel
theorem dX5_stops_16 : decode cX5_stops 16 = .ok (.invokevirtual 66, 3) := by decide +kernel
theorem dX5_stops_19 : decode cX5_stops 19 = .ok (.ifCond .ne 6, 3) := by decide +kernel
theorem dX5_stops_22 : decode cX5_stops 22 = .ok (.bipush (-3), 2) := by decide +kernel
theorem dX5_stops_24 : decode cX5_stops 24 = .ok (.ireturn, 1) := by decide +kernel
theorem dX5_stops_25 : decode cX5_stops 25 = .ok (.iconst 0, 1) := by decide +kernel
theorem dX5_stops_26 : decode cX5_stops 26 = .ok (.istore_n 2, 1) := by decide +kernel
theorem dX5_stops_27 : decode cX5_stops 27 = .ok (.iload_n 2, 1) := by decide +kernel
theorem dX5_stops_28 : decode cX5_stops 28 = .ok (.aload_n 0, 1) := by decide +kernel
theorem dX5_stops_29 : decode cX5_stops 29 = .ok (.getfield 10, 3) := by decide +kernel
theorem dX5_stops_32 : decode cX5_stops 32 = .ok (.invokevirtual 48, 3) := by decide +kernel
theorem dX5_stops_35 : decode cX5_stops 35 = .ok (.if_icmp .ge 26, 3) := by decide +kernel
theorem dX5_stops_38 : decode cX5_stops 38 = .ok (.aload_n 0, 1) := by decide +kernel
theorem dX5_stops_39 : decode cX5_stops 39 = .ok (.getfield 10, 3) := by decide +kernel
theorem dX5_stops_42 : decode cX5_stops 42 = .ok (.iload_n 2, 1) := by decide +kernel
theorem dX5_stops_43 : decode cX5_stops 43 = .ok (.invokevirtual 136, 3) := by decide +kernel
theorem dX5_stops_46 : decode cX5_stops 46 = .ok (.iload_n 1, 1) := by decide +kernel
theorem dX5_stops_47 : decode cX5_stops 47 = .ok (.invokestatic 139, 3) := by decide +kernel
theorem dX5_stops_50 : decode cX5_stops 50 = .ok (.ifCond .eq 5, 3) := by decide +kernel
theorem dX5_stops_53 : decode cX5_stops 53 = .ok (.iload_n 2, 1) := by decide +kernel
theorem dX5_stops_54 : decode cX5_stops 54 = .ok (.ireturn, 1) := by decide +kernel
theorem dX5_stops_55 : decode cX5_stops 55 = .ok (.iinc 2 1, 3) := by decide +kernel
theorem dX5_stops_58 : decode cX5_stops 58 = .ok (.goto (-31), 3) := by decide +kernel
theorem dX5_stops_61 : decode cX5_stops 61 = .ok (.iconst (-1), 1) := by decide +kernel
theorem dX5_stops_62 : decode cX5_stops 62 = .ok (.ireturn, 1) := by decide +kernel
set_option maxRecDepth 20000 in
theorem ggX5_explains_X3_size : GoodIn wsX5_explains wsX3_size := goodIn_r _ [6, 7, 40, 41, 42] (by decide +kernel) (by decide +kernel)
set_option maxRecDepth 20000 in
theorem gX5_explains_X3_size : GoodIn wsX5_explains (wsV RX5 48 RX3 yX3_size wsX3_size) := goodIn_app (goodIn_of _ (by decide +kernel)) ggX5_explains_X3_size
set_option maxRecDepth 20000 in
theorem ggX5_explains_X5_isBelow : GoodIn wsX5_explains wsX5_isBelow := goodIn_r _ [11] (by decide +kernel) (by decide +kernel)
set_option maxRecDepth 20000 in
theorem gX5_explains_X5_isBelow : GoodIn wsX5_explains (va_wsS RX5 62 yX5_isBelow wsX5_isBelow) := goodIn_app (goodIn_of _ (by decide +kernel)) ggX5_explains_X5_isBelow
set_option maxRecDepth 20000 in
theorem ggX5_explains_X3_isSound : GoodIn wsX5_explains wsX3_isSound := goodIn_r _ [15, 16, 17, 18, 5, 19, 7, 20, 21, 22, 10, 23, 24, 25, 26, 40, 41, 42] (by decide +kernel) (by decide +kernel)
set_option maxRecDepth 20000 in
theorem gX5_explains_X3_isSound : GoodIn wsX5_explains (wsV RX5 66 RX3 yX3_isSound wsX3_isSound) := goodIn_app (goodIn_of _ (by decide +kernel)) ggX5_explains_X3_isSound
set_option maxRecDepth 20000 in
theorem ggX5_explains_X3_trigger : GoodIn wsX5_explains wsX3_trigger := goodIn_r _ [30, 7, 31, 32, 33, 5, 34, 20, 9, 10, 11, 40, 41, 42] (by decide +kernel) (by decide +kernel)
set_option maxRecDepth 20000 in
theorem gX5_explains_X3_trigger : GoodIn wsX5_explains (wsV RX5 136 RX3 yX3_trigger wsX3_trigger) := goodIn_app (goodIn_of _ (by decide +kernel)) ggX5_explains_X3_trigger
theorem dX5_explains_0 : decode cX5_explains 0 = .ok (.iload_n 1, 1) := by decide +kernel
theorem dX5_explains_1 : decode cX5_explains 1 = .ok (.aload_n 0, 1) := by decide +kernel
theorem dX5_explains_2 : decode cX5_explains 2 = .ok (.getfield 10, 3) := by decide +kernel
theorem dX5_explains_5 : decode cX5_explains 5 = .ok (.invokevirtual 48, 3) := by decide +kernel
theorem dX5_explains_8 : decode cX5_explains 8 = .ok (.invokestatic 62, 3) := by decide +kernel
theorem dX5_explains_11 : decode cX5_explains 11 = .ok (.ifCond .ne 6, 3) := by decide +kernel
theorem dX5_explains_14 : decode cX5_explains 14 = .ok (.bipush (-2), 2) := by decide +kernel
theorem dX5_explains_16 : decode cX5_explains 16 = .ok (.ireturn, 1) := by decide +kernel
theorem dX5_explains_17 : decode cX5_explains 17 = .ok (.aload_n 0, 1) := by decide +kernel
theorem dX5_explains_18 : decode cX5_explains 18 = .ok (.getfield 10, 3) := by decide +kernel
theorem dX5_explains_21 : decode cX5_explains 21 = .ok (.invokevirtual 66, 3) := by decide +kernel
theorem dX5_explains_24 : decode cX5_explains 24 = .ok (.ifCond .ne 6, 3) := by decide +kernel
theorem dX5_explains_27 : decode cX5_explains 27 = .ok (.bipush (-3), 2) := by decide +kernel
theorem dX5_explains_29 : decode cX5_explains 29 = .ok (.ireturn, 1) := by decide +kernel
theorem dX5_explains_30 : decode cX5_explains 30 = .ok (.iconst 0, 1) := by decide +kernel
theorem dX5_explains_31 : decode cX5_explains 31 = .ok (.istore_n 2, 1) := by decide +kernel
theorem dX5_explains_32 : decode cX5_explains 32 = .ok (.iconst 0, 1) := by decide +kernel
theorem dX5_explains_33 : decode cX5_explains 33 = .ok (.istore_n 3, 1) := by decide +kernel
theorem dX5_explains_34 : decode cX5_explains 34 = .ok (.iload_n 3, 1) := by decide +kernel
theorem dX5_explains_35 : decode cX5_explains 35 = .ok (.iload_n 1, 1) := by decide +kernel
theorem dX5_explains_36 : decode cX5_explains 36 = .ok (.if_icmp .ge 20, 3) := by decide +kernel
theorem dX5_explains_39 : decode cX5_explains 39 = .ok (.iload_n 2, 1) := by decide +kernel
theorem dX5_explains_40 : decode cX5_explains 40 = .ok (.aload_n 0, 1) := by decide +kernel
theorem dX5_explains_41 : decode cX5_explains 41 = .ok (.getfield 10, 3) := by decide +kernel
theorem dX5_explains_44 : decode cX5_explains 44 = .ok (.iload_n 3, 1) := by decide +kernel
theorem dX5_explains_45 : decode cX5_explains 45 = .ok (.invokevirtual 136, 3) := by decide +kernel
theorem dX5_explains_48 : decode cX5_explains 48 = .ok (.ior, 1) := by decide +kernel
theorem dX5_explains_49 : decode cX5_explains 49 = .ok (.istore_n 2, 1) := by decide +kernel
theorem dX5_explains_50 : decode cX5_explains 50 = .ok (.iinc 3 1, 3) := by decide +kernel
theorem dX5_explains_53 : decode cX5_explains 53 = .ok (.goto (-19), 3) := by decide +kernel
theorem dX5_explains_56 : decode cX5_explains 56 = .ok (.aload_n 0, 1) := by decide +kernel
theorem dX5_explains_57 : decode cX5_explains 57 = .ok (.getfield 10, 3) := by decide +kernel
theorem dX5_explains_60 : decode cX5_explains 60 = .ok (.iload_n 1, 1) := by decide +kernel
theorem dX5_explains_61 : decode cX5_explains 61 = .ok (.invokevirtual 136, 3) := by decide +kernel
theorem dX5_explains_64 : decode cX5_explains 64 = .ok (.iload_n 2, 1) := by decide +kernel
theorem dX5_explains_65 : decode cX5_explains 65 = .ok (.iconst (-1), 1) := by decide +kernel
theorem dX5_explains_66 : decode cX5_explains 66 = .ok (.ixor, 1) := by decide +kernel
theorem dX5_explains_67 : decode cX5_explains 67 = .ok (.iand, 1) := by decide +kernel
theorem dX5_explains_68 : decode cX5_explains 68 = .ok (.ireturn, 1) := by decide +kernel
set_option maxRecDepth 20000 in
theorem ggX5_count_X3_size : GoodIn wsX5_count wsX3_size := goodIn_r _ [7, 8, 32, 33, 34] (by decide +kernel) (by decide +kernel)
set_option maxRecDepth 20000 in
theorem gX5_count_X3_size : GoodIn wsX5_count (wsV RX5 48 RX3 yX3_size wsX3_size) := goodIn_app (goodIn_of _ (by decide +kernel)) ggX5_count_X3_size
set_option maxRecDepth 20000 in
theorem ggX5_count_X1_size : GoodIn wsX5_count wsX1_size := goodIn_r _ [13, 14, 35, 36, 37] (by decide +kernel) (by decide +kernel)
set_option maxRecDepth 20000 in
theorem gX5_count_X1_size : GoodIn wsX5_count (wsV RX5 113 RX1 yX1_size wsX1_size) := goodIn_app (goodIn_of _ (by decide +kernel)) ggX5_count_X1_size
set_option maxRecDepth 20000 in
theorem ggX5_count_X3_moves : GoodIn wsX5_count wsX3_moves := goodIn_r _ [18, 8, 19, 20, 21, 22, 23, 24, 25, 26, 32, 33, 34] (by decide +kernel) (by decide +kernel)
set_option maxRecDepth 20000 in
theorem gX5_count_X3_moves : GoodIn wsX5_count (wsV RX5 142 RX3 yX3_moves wsX3_moves) := goodIn_app (goodIn_of _ (by decide +kernel)) ggX5_count_X3_moves
theorem dX5_count_0 : decode cX5_count 0 = .ok (.iload_n 1, 1) := by decide +kernel
theorem dX5_count_1 : decode cX5_count 1 = .ok (.ifCond .ne 11, 3) := by decide +kernel
theorem dX5_count_4 : decode cX5_count 4 = .ok (.aload_n 0, 1) := by decide +kernel
theorem dX5_count_5 : decode cX5_count 5 = .ok (.getfield 10, 3) := by decide +kernel
theorem dX5_count_8 : decode cX5_count 8 = .ok (.invokevirtual 48, 3) := by decide +kernel
theorem dX5_count_11 : decode cX5_count 11 = .ok (.ireturn, 1) := by decide +kernel
theorem dX5_count_12 : decode cX5_count 12 = .ok (.iload_n 1, 1) := by decide +kernel
theorem dX5_count_13 : decode cX5_count 13 = .ok (.iconst 1, 1) := by decide +kernel
theorem dX5_count_14 : decode cX5_count 14 = .ok (.if_icmp .ne 11, 3) := by decide +kernel
theorem dX5_count_17 : decode cX5_count 17 = .ok (.aload_n 0, 1) := by decide +kernel
theorem dX5_count_18 : decode cX5_count 18 = .ok (.getfield 26, 3) := by decide +kernel
theorem dX5_count_21 : decode cX5_count 21 = .ok (.invokevirtual 113, 3) := by decide +kernel
theorem dX5_count_24 : decode cX5_count 24 = .ok (.ireturn, 1) := by decide +kernel
theorem dX5_count_25 : decode cX5_count 25 = .ok (.iload_n 1, 1) := by decide +kernel
theorem dX5_count_26 : decode cX5_count 26 = .ok (.iconst 2, 1) := by decide +kernel
theorem dX5_count_27 : decode cX5_count 27 = .ok (.if_icmp .ne 11, 3) := by decide +kernel
theorem dX5_count_30 : decode cX5_count 30 = .ok (.aload_n 0, 1) := by decide +kernel
theorem dX5_count_31 : decode cX5_count 31 = .ok (.getfield 10, 3) := by decide +kernel
theorem dX5_count_34 : decode cX5_count 34 = .ok (.invokevirtual 142, 3) := by decide +kernel
theorem dX5_count_37 : decode cX5_count 37 = .ok (.ireturn, 1) := by decide +kernel
theorem dX5_count_38 : decode cX5_count 38 = .ok (.bipush (-2), 2) := by decide +kernel
theorem dX5_count_40 : decode cX5_count 40 = .ok (.ireturn, 1) := by decide +kernel
set_option maxRecDepth 20000 in
theorem ggX5_firstClash_X0_find : GoodIn wsX5_firstClash wsX0_find := goodIn_r _ [7, 8, 9, 10, 11, 12, 13, 14, 15, 16, 6, 17, 18, 19, 20, 21, 22, 23, 24, 25, 26, 27, 28, 29, 30, 31, 32, 33, 34, 35, 36, 37, 38, 39, 40, 41, 42, 43, 44, 45, 46, 47, 48, 88, 89, 90, 91, 92, 93] (by decide +kernel) (by decide +kernel)
set_option maxRecDepth 20000 in
theorem gX5_firstClash_X0_find : GoodIn wsX5_firstClash (wsV RX5 84 RX0 yX0_find wsX0_find) := goodIn_app (goodIn_of _ (by decide +kernel)) ggX5_firstClash_X0_find
set_option maxRecDepth 20000 in
theorem ggX5_firstClash_X3_size : GoodIn wsX5_firstClash wsX3_size := goodIn_r _ [12, 13, 88, 89, 90] (by decide +kernel) (by decide +kernel)
set_option maxRecDepth 20000 in
theorem gX5_firstClash_X3_size : GoodIn wsX5_firstClash (wsV RX5 48 RX3 yX3_size wsX3_size) := goodIn_app (goodIn_of _ (by decide +kernel)) ggX5_firstClash_X3_size
set_option maxRecDepth 20000 in
theorem ggX5_firstClash_X5_clashing : GoodIn wsX5_firstClash wsX5_clashing := goodIn_r _ [53, 2, 49, 9, 10, 11, 12, 13, 54, 55, 56, 33, 57, 1, 58, 59, 60, 61, 62, 28, 29, 30, 31, 32, 34, 63, 64, 65, 66, 67, 68, 69, 70, 71, 72, 73, 74, 75, 76, 6, 77, 47, 48, 78, 79, 80, 81, 82, 37, 38, 39, 40, 41, 42, 83, 84, 85, 86, 87, 88, 89, 90, 91, 92, 93] (by decide +kernel) (by decide +kernel)
set_option maxRecDepth 20000 in
theorem gX5_firstClash_X5_clashing : GoodIn wsX5_firstClash (wsV RX5 77 RX5 yX5_clashing wsX5_clashing) := goodIn_app (goodIn_of _ (by decide +kernel)) ggX5_firstClash_X5_clashing
theorem dX5_firstClash_0 : decode cX5_firstClash 0 = .ok (.iload_n 1, 1) := by decide +kernel
theorem dX5_firstClash_1 : decode cX5_firstClash 1 = .ok (.iconst 1, 1) := by decide +kernel
theorem dX5_firstClash_2 : decode cX5_firstClash 2 = .ok (.if_icmp .ne 14, 3) := by decide +kernel
theorem dX5_firstClash_5 : decode cX5_firstClash 5 = .ok (.aload_n 0, 1) := by decide +kernel
theorem dX5_firstClash_6 : decode cX5_firstClash 6 = .ok (.getfield 19, 3) := by decide +kernel
theorem dX5_firstClash_9 : decode cX5_firstClash 9 = .ok (.aload_n 0, 1) := by decide +kernel
theorem dX5_firstClash_10 : decode cX5_firstClash 10 = .ok (.getfield 10, 3) := by decide +kernel
theorem dX5_firstClash_13 : decode cX5_firstClash 13 = .ok (.invokevirtual 84, 3) := by decide +kernel
theorem dX5_firstClash_16 : decode cX5_firstClash 16 = .ok (.iconst 0, 1) := by decide +kernel
theorem dX5_firstClash_17 : decode cX5_firstClash 17 = .ok (.istore_n 2, 1) := by decide +kernel
theorem dX5_firstClash_18 : decode cX5_firstClash 18 = .ok (.iload_n 2, 1) := by decide +kernel
theorem dX5_firstClash_19 : decode cX5_firstClash 19 = .ok (.aload_n 0, 1) := by decide +kernel
theorem dX5_firstClash_20 : decode cX5_firstClash 20 = .ok (.getfield 10, 3) := by decide +kernel
theorem dX5_firstClash_23 : decode cX5_firstClash 23 = .ok (.invokevirtual 48, 3) := by decide +kernel
theorem dX5_firstClash_26 : decode cX5_firstClash 26 = .ok (.if_icmp .ge 20, 3) := by decide +kernel
theorem dX5_firstClash_29 : decode cX5_firstClash 29 = .ok (.aload_n 0, 1) := by decide +kernel
theorem dX5_firstClash_30 : decode cX5_firstClash 30 = .ok (.iload_n 1, 1) := by decide +kernel
theorem dX5_firstClash_31 : decode cX5_firstClash 31 = .ok (.iload_n 2, 1) := by decide +kernel
theorem dX5_firstClash_32 : decode cX5_firstClash 32 = .ok (.invokevirtual 77, 3) := by decide +kernel
theorem dX5_firstClash_35 : decode cX5_firstClash 35 = .ok (.ifCond .eq 5, 3) := by decide +kernel
theorem dX5_firstClash_38 : decode cX5_firstClash 38 = .ok (.iload_n 2, 1) := by decide +kernel
theorem dX5_firstClash_39 : decode cX5_firstClash 39 = .ok (.ireturn, 1) := by decide +kernel
theorem dX5_firstClash_40 : decode cX5_firstClash 40 = .ok (.iinc 2 1, 3) := by decide +kernel
theorem dX5_firstClash_43 : decode cX5_firstClash 43 = .ok (.goto (-25), 3) := by decide +kernel
theorem dX5_firstClash_46 : decode cX5_firstClash 46 = .ok (.iconst (-1), 1) := by decide +kernel
theorem dX5_firstClash_47 : decode cX5_firstClash 47 = .ok (.ireturn, 1) := by decide +kernel
set_option maxRecDepth 20000 in
theorem ggX5_clashing_X3_size : GoodIn wsX5_clashing wsX3_size := goodIn_r _ [6, 7, 59, 60, 61] (by decide +kernel) (by decide +kernel)
set_option maxRecDepth 20000 in
theorem gX5_clashing_X3_size : GoodIn wsX5_clashing (wsV RX5 48 RX3 yX3_size wsX3_size) := goodIn_app (goodIn_of _ (by decide +kernel)) ggX5_clashing_X3_size
set_option maxRecDepth 20000 in
theorem ggX5_clashing_X5_isPushed : GoodIn wsX5_clashing wsX5_isPushed := goodIn_r _ [12, 1, 13, 14, 15, 16, 5, 17, 7, 18, 19, 20, 21, 22, 23, 11, 24, 25, 26, 27, 28, 29, 30, 31, 32, 33, 34, 35, 36, 37, 38, 39, 40, 41, 42, 43, 44, 45, 46, 54, 55, 56, 57, 58, 59, 60, 61, 62, 63, 64] (by decide +kernel) (by decide +kernel)
set_option maxRecDepth 20000 in
theorem gX5_clashing_X5_isPushed : GoodIn wsX5_clashing (wsV RX5 145 RX5 yX5_isPushed wsX5_isPushed) := goodIn_app (goodIn_of _ (by decide +kernel)) ggX5_clashing_X5_isPushed
set_option maxRecDepth 20000 in
theorem ggX5_clashing_X3_endsOf : GoodIn wsX5_clashing wsX3_endsOf := goodIn_r _ [21, 7, 22, 23, 11, 24, 59, 60, 61] (by decide +kernel) (by decide +kernel)
set_option maxRecDepth 20000 in
theorem gX5_clashing_X3_endsOf : GoodIn wsX5_clashing (wsV RX5 123 RX3 yX3_endsOf wsX3_endsOf) := goodIn_app (goodIn_of _ (by decide +kernel)) ggX5_clashing_X3_endsOf
set_option maxRecDepth 20000 in
theorem ggX5_clashing_X5_outsOf : GoodIn wsX5_clashing wsX5_outsOf := goodIn_r _ [50] (by decide +kernel) (by decide +kernel)
set_option maxRecDepth 20000 in
theorem gX5_clashing_X5_outsOf : GoodIn wsX5_clashing (va_wsS RX5 149 yX5_outsOf wsX5_outsOf) := goodIn_app (goodIn_of _ (by decide +kernel)) ggX5_clashing_X5_outsOf
set_option maxRecDepth 20000 in
theorem ggX5_clashing_X5_insOf : GoodIn wsX5_clashing wsX5_insOf := goodIn_r _ [53] (by decide +kernel) (by decide +kernel)
set_option maxRecDepth 20000 in
theorem gX5_clashing_X5_insOf : GoodIn wsX5_clashing (va_wsS RX5 152 yX5_insOf wsX5_insOf) := goodIn_app (goodIn_of _ (by decide +kernel)) ggX5_clashing_X5_insOf
theorem dX5_clashing_0 : decode cX5_clashing 0 = .ok (.iconst 0, 1) := by decide +kernel
theorem dX5_clashing_1 : decode cX5_clashing 1 = .ok (.istore_n 3, 1) := by decide +kernel
theorem dX5_clashing_2 : decode cX5_clashing 2 = .ok (.iconst 0, 1) := by decide +kernel
theorem dX5_clashing_3 : decode cX5_clashing 3 = .ok (.istore 4, 2) := by decide +kernel
theorem dX5_clashing_5 : decode cX5_clashing 5 = .ok (.iload 4, 2) := by decide +kernel
theorem dX5_clashing_7 : decode cX5_clashing 7 = .ok (.aload_n 0, 1) := by decide +kernel
theorem dX5_clashing_8 : decode cX5_clashing 8 = .ok (.getfield 10, 3) := by decide +kernel
theorem dX5_clashing_11 : decode cX5_clashing 11 = .ok (.invokevirtual 48, 3) := by decide +kernel
theorem dX5_clashing_14 : decode cX5_clashing 14 = .ok (.if_icmp .ge 32, 3) := by decide +kernel
theorem dX5_clashing_17 : decode cX5_clashing 17 = .ok (.aload_n 0, 1) := by decide +kernel
theorem dX5_clashing_18 : decode cX5_clashing 18 = .ok (.iload_n 1, 1) := by decide +kernel
theorem dX5_clashing_19 : decode cX5_clashing 19 = .ok (.iload 4, 2) := by decide +kernel
theorem dX5_clashing_21 : decode cX5_clashing 21 = .ok (.iload_n 2, 1) := by decide +kernel
theorem dX5_clashing_22 : decode cX5_clashing 22 = .ok (.invokevirtual 145, 3) := by decide +kernel
theorem dX5_clashing_25 : decode cX5_clashing 25 = .ok (.ifCond .eq 15, 3) := by decide +kernel
theorem dX5_clashing_28 : decode cX5_clashing 28 = .ok (.iload_n 3, 1) := by decide +kernel
theorem dX5_clashing_29 : decode cX5_clashing 29 = .ok (.aload_n 0, 1) := by decide +kernel
theorem dX5_clashing_30 : decode cX5_clashing 30 = .ok (.getfield 10, 3) := by decide +kernel
theorem dX5_clashing_33 : decode cX5_clashing 33 = .ok (.iload 4, 2) := by decide +kernel
theorem dX5_clashing_35 : decode cX5_clashing 35 = .ok (.invokevirtual 123, 3) := by decide +kernel
theorem dX5_clashing_38 : decode cX5_clashing 38 = .ok (.ior, 1) := by decide +kernel
theorem dX5_clashing_39 : decode cX5_clashing 39 = .ok (.istore_n 3, 1) := by decide +kernel
theorem dX5_clashing_40 : decode cX5_clashing 40 = .ok (.iinc 4 1, 3) := by decide +kernel
theorem dX5_clashing_43 : decode cX5_clashing 43 = .ok (.goto (-38), 3) := by decide +kernel
theorem dX5_clashing_46 : decode cX5_clashing 46 = .ok (.aload_n 0, 1) := by decide +kernel
theorem dX5_clashing_47 : decode cX5_clashing 47 = .ok (.getfield 10, 3) := by decide +kernel
theorem dX5_clashing_50 : decode cX5_clashing 50 = .ok (.iload_n 2, 1) := by decide +kernel
theorem dX5_clashing_51 : decode cX5_clashing 51 = .ok (.invokevirtual 123, 3) := by decide +kernel
theorem dX5_clashing_54 : decode cX5_clashing 54 = .ok (.istore 4, 2) := by decide +kernel
theorem dX5_clashing_56 : decode cX5_clashing 56 = .ok (.iload 4, 2) := by decide +kernel
theorem dX5_clashing_58 : decode cX5_clashing 58 = .ok (.invokestatic 149, 3) := by decide +kernel
theorem dX5_clashing_61 : decode cX5_clashing 61 = .ok (.iload_n 3, 1) := by decide +kernel
theorem dX5_clashing_62 : decode cX5_clashing 62 = .ok (.invokestatic 152, 3) := by decide +kernel
theorem dX5_clashing_65 : decode cX5_clashing 65 = .ok (.iand, 1) := by decide +kernel
theorem dX5_clashing_66 : decode cX5_clashing 66 = .ok (.iload 4, 2) := by decide +kernel
theorem dX5_clashing_68 : decode cX5_clashing 68 = .ok (.invokestatic 152, 3) := by decide +kernel
theorem dX5_clashing_71 : decode cX5_clashing 71 = .ok (.iload_n 3, 1) := by decide +kernel
theorem dX5_clashing_72 : decode cX5_clashing 72 = .ok (.invokestatic 149, 3) := by decide +kernel
theorem dX5_clashing_75 : decode cX5_clashing 75 = .ok (.iand, 1) := by decide +kernel
theorem dX5_clashing_76 : decode cX5_clashing 76 = .ok (.ior, 1) := by decide +kernel
theorem dX5_clashing_77 : decode cX5_clashing 77 = .ok (.ireturn, 1) := by decide +kernel
set_option maxRecDepth 20000 in
theorem ggX5_isPushed_X3_trigger : GoodIn wsX5_isPushed wsX3_trigger := goodIn_r _ [7, 8, 9, 10, 11, 6, 12, 13, 14, 15, 16, 44, 45, 46] (by decide +kernel) (by decide +kernel)
set_option maxRecDepth 20000 in
theorem gX5_isPushed_X3_trigger : GoodIn wsX5_isPushed (wsV RX5 136 RX3 yX3_trigger wsX3_trigger) := goodIn_app (goodIn_of _ (by decide +kernel)) ggX5_isPushed_X3_trigger
set_option maxRecDepth 20000 in
theorem ggX5_isPushed_X3_stateAt : GoodIn wsX5_isPushed wsX3_stateAt := goodIn_r _ [20, 8, 21, 14, 15, 16, 44, 45, 46] (by decide +kernel) (by decide +kernel)
set_option maxRecDepth 20000 in
theorem gX5_isPushed_X3_stateAt : GoodIn wsX5_isPushed (wsV RX5 70 RX3 yX3_stateAt wsX3_stateAt) := goodIn_app (goodIn_of _ (by decide +kernel)) ggX5_isPushed_X3_stateAt
set_option maxRecDepth 20000 in
theorem ggX5_isPushed_X5_sensorsOn : GoodIn wsX5_isPushed wsX5_sensorsOn := goodIn_r _ [24, 25, 26, 15, 27] (by decide +kernel) (by decide +kernel)
set_option maxRecDepth 20000 in
theorem gX5_isPushed_X5_sensorsOn : GoodIn wsX5_isPushed (va_wsS RX5 155 yX5_sensorsOn wsX5_sensorsOn) := goodIn_app (goodIn_of _ (by decide +kernel)) ggX5_isPushed_X5_sensorsOn
set_option maxRecDepth 20000 in
theorem ggX5_isPushed_X0_groupOf : GoodIn wsX5_isPushed wsX0_groupOf := goodIn_r _ [32, 33, 34, 47, 48, 49] (by decide +kernel) (by decide +kernel)
set_option maxRecDepth 20000 in
theorem gX5_isPushed_X0_groupOf : GoodIn wsX5_isPushed (wsV RX5 158 RX0 yX0_groupOf wsX0_groupOf) := goodIn_app (goodIn_of _ (by decide +kernel)) ggX5_isPushed_X0_groupOf
set_option maxRecDepth 20000 in
theorem ggX5_isPushed_X0_isFirst : GoodIn wsX5_isPushed wsX0_isFirst := goodIn_r _ [38, 33, 34, 47, 48, 49] (by decide +kernel) (by decide +kernel)
set_option maxRecDepth 20000 in
theorem gX5_isPushed_X0_isFirst : GoodIn wsX5_isPushed (wsV RX5 161 RX0 yX0_isFirst wsX0_isFirst) := goodIn_app (goodIn_of _ (by decide +kernel)) ggX5_isPushed_X0_isFirst
theorem dX5_isPushed_0 : decode cX5_isPushed 0 = .ok (.aload_n 0, 1) := by decide +kernel
theorem dX5_isPushed_1 : decode cX5_isPushed 1 = .ok (.getfield 10, 3) := by decide +kernel
theorem dX5_isPushed_4 : decode cX5_isPushed 4 = .ok (.iload_n 2, 1) := by decide +kernel
theorem dX5_isPushed_5 : decode cX5_isPushed 5 = .ok (.invokevirtual 136, 3) := by decide +kernel
theorem dX5_isPushed_8 : decode cX5_isPushed 8 = .ok (.aload_n 0, 1) := by decide +kernel
theorem dX5_isPushed_9 : decode cX5_isPushed 9 = .ok (.getfield 10, 3) := by decide +kernel
theorem dX5_isPushed_12 : decode cX5_isPushed 12 = .ok (.iload_n 3, 1) := by decide +kernel
theorem dX5_isPushed_13 : decode cX5_isPushed 13 = .ok (.invokevirtual 70, 3) := by decide +kernel
theorem dX5_isPushed_16 : decode cX5_isPushed 16 = .ok (.invokestatic 155, 3) := by decide +kernel
theorem dX5_isPushed_19 : decode cX5_isPushed 19 = .ok (.iconst (-1), 1) := by decide +kernel
theorem dX5_isPushed_20 : decode cX5_isPushed 20 = .ok (.ixor, 1) := by decide +kernel
theorem dX5_isPushed_21 : decode cX5_isPushed 21 = .ok (.iand, 1) := by decide +kernel
theorem dX5_isPushed_22 : decode cX5_isPushed 22 = .ok (.ifCond .ne 7, 3) := by decide +kernel
theorem dX5_isPushed_25 : decode cX5_isPushed 25 = .ok (.iconst 1, 1) := by decide +kernel
theorem dX5_isPushed_26 : decode cX5_isPushed 26 = .ok (.goto 4, 3) := by decide +kernel
theorem dX5_isPushed_29 : decode cX5_isPushed 29 = .ok (.iconst 0, 1) := by decide +kernel
theorem dX5_isPushed_30 : decode cX5_isPushed 30 = .ok (.istore 4, 2) := by decide +kernel
theorem dX5_isPushed_32 : decode cX5_isPushed 32 = .ok (.iload_n 1, 1) := by decide +kernel
theorem dX5_isPushed_33 : decode cX5_isPushed 33 = .ok (.ifCond .ne 6, 3) := by decide +kernel
theorem dX5_isPushed_36 : decode cX5_isPushed 36 = .ok (.iload 4, 2) := by decide +kernel
theorem dX5_isPushed_38 : decode cX5_isPushed 38 = .ok (.ireturn, 1) := by decide +kernel
theorem dX5_isPushed_39 : decode cX5_isPushed 39 = .ok (.aload_n 0, 1) := by decide +kernel
theorem dX5_isPushed_40 : decode cX5_isPushed 40 = .ok (.getfield 19, 3) := by decide +kernel
theorem dX5_isPushed_43 : decode cX5_isPushed 43 = .ok (.iload_n 2, 1) := by decide +kernel
theorem dX5_isPushed_44 : decode cX5_isPushed 44 = .ok (.invokevirtual 158, 3) := by decide +kernel
theorem dX5_isPushed_47 : decode cX5_isPushed 47 = .ok (.aload_n 0, 1) := by decide +kernel
theorem dX5_isPushed_48 : decode cX5_isPushed 48 = .ok (.getfield 19, 3) := by decide +kernel
theorem dX5_isPushed_51 : decode cX5_isPushed 51 = .ok (.iload_n 3, 1) := by decide +kernel
theorem dX5_isPushed_52 : decode cX5_isPushed 52 = .ok (.invokevirtual 158, 3) := by decide +kernel
theorem dX5_isPushed_55 : decode cX5_isPushed 55 = .ok (.if_icmp .ne 23, 3) := by decide +kernel
theorem dX5_isPushed_58 : decode cX5_isPushed 58 = .ok (.aload_n 0, 1) := by decide +kernel
theorem dX5_isPushed_59 : decode cX5_isPushed 59 = .ok (.getfield 19, 3) := by decide +kernel
theorem dX5_isPushed_62 : decode cX5_isPushed 62 = .ok (.iload_n 2, 1) := by decide +kernel
theorem dX5_isPushed_63 : decode cX5_isPushed 63 = .ok (.invokevirtual 161, 3) := by decide +kernel
theorem dX5_isPushed_66 : decode cX5_isPushed 66 = .ok (.ifCond .ne 8, 3) := by decide +kernel
theorem dX5_isPushed_69 : decode cX5_isPushed 69 = .ok (.iload 4, 2) := by decide +kernel
theorem dX5_isPushed_71 : decode cX5_isPushed 71 = .ok (.ifCond .eq 7, 3) := by decide +kernel
theorem dX5_isPushed_74 : decode cX5_isPushed 74 = .ok (.iconst 1, 1) := by decide +kernel
theorem dX5_isPushed_75 : decode cX5_isPushed 75 = .ok (.goto 4, 3) := by decide +kernel
theorem dX5_isPushed_78 : decode cX5_isPushed 78 = .ok (.iconst 0, 1) := by decide +kernel
theorem dX5_isPushed_79 : decode cX5_isPushed 79 = .ok (.ireturn, 1) := by decide +kernel
theorem dX5_isBelow_0 : decode cX5_isBelow 0 = .ok (.iload_n 0, 1) := by decide +kernel
theorem dX5_isBelow_1 : decode cX5_isBelow 1 = .ok (.ifCond .lt 12, 3) := by decide +kernel
theorem dX5_isBelow_4 : decode cX5_isBelow 4 = .ok (.iload_n 0, 1) := by decide +kernel
theorem dX5_isBelow_5 : decode cX5_isBelow 5 = .ok (.iload_n 1, 1) := by decide +kernel
theorem dX5_isBelow_6 : decode cX5_isBelow 6 = .ok (.if_icmp .ge 7, 3) := by decide +kernel
theorem dX5_isBelow_9 : decode cX5_isBelow 9 = .ok (.iconst 1, 1) := by decide +kernel
theorem dX5_isBelow_10 : decode cX5_isBelow 10 = .ok (.goto 4, 3) := by decide +kernel
theorem dX5_isBelow_13 : decode cX5_isBelow 13 = .ok (.iconst 0, 1) := by decide +kernel
theorem dX5_isBelow_14 : decode cX5_isBelow 14 = .ok (.ireturn, 1) := by decide +kernel
set_option maxRecDepth 20000 in
theorem ggX5_isState_X5_isBelow : GoodIn wsX5_isState wsX5_isBelow := goodIn_r _ [4] (by decide +kernel) (by decide +kernel)
set_option maxRecDepth 20000 in
theorem gX5_isState_X5_isBelow : GoodIn wsX5_isState (va_wsS RX5 62 yX5_isBelow wsX5_isBelow) := goodIn_app (goodIn_of _ (by decide +kernel)) ggX5_isState_X5_isBelow
theorem dX5_isState_0 : decode cX5_isState 0 = .ok (.iload_n 0, 1) := by decide +kernel
theorem dX5_isState_1 : decode cX5_isState 1 = .ok (.bipush 64, 2) := by decide +kernel
theorem dX5_isState_3 : decode cX5_isState 3 = .ok (.invokestatic 62, 3) := by decide +kernel
theorem dX5_isState_6 : decode cX5_isState 6 = .ok (.ireturn, 1) := by decide +kernel
theorem dX5_has_0 : decode cX5_has 0 = .ok (.iload_n 0, 1) := by decide +kernel
theorem dX5_has_1 : decode cX5_has 1 = .ok (.iload_n 1, 1) := by decide +kernel
theorem dX5_has_2 : decode cX5_has 2 = .ok (.ishr, 1) := by decide +kernel
theorem dX5_has_3 : decode cX5_has 3 = .ok (.iconst 1, 1) := by decide +kernel
theorem dX5_has_4 : decode cX5_has 4 = .ok (.iand, 1) := by decide +kernel
theorem dX5_has_5 : decode cX5_has 5 = .ok (.ifCond .eq 7, 3) := by decide +kernel
theorem dX5_has_8 : decode cX5_has 8 = .ok (.iconst 1, 1) := by decide +kernel
theorem dX5_has_9 : decode cX5_has 9 = .ok (.goto 4, 3) := by decide +kernel
theorem dX5_has_12 : decode cX5_has 12 = .ok (.iconst 0, 1) := by decide +kernel
theorem dX5_has_13 : decode cX5_has 13 = .ok (.ireturn, 1) := by decide +kernel
set_option maxRecDepth 20000 in
theorem ggX5_leastOf_X5_has : GoodIn wsX5_leastOf wsX5_has := goodIn_r _ [4] (by decide +kernel) (by decide +kernel)
set_option maxRecDepth 20000 in
theorem gX5_leastOf_X5_has : GoodIn wsX5_leastOf (va_wsS RX5 139 yX5_has wsX5_has) := goodIn_app (goodIn_of _ (by decide +kernel)) ggX5_leastOf_X5_has
theorem dX5_leastOf_0 : decode cX5_leastOf 0 = .ok (.iconst 0, 1) := by decide +kernel
theorem dX5_leastOf_1 : decode cX5_leastOf 1 = .ok (.istore_n 1, 1) := by decide +kernel
theorem dX5_leastOf_2 : decode cX5_leastOf 2 = .ok (.iload_n 1, 1) := by decide +kernel
theorem dX5_leastOf_3 : decode cX5_leastOf 3 = .ok (.bipush 6, 2) := by decide +kernel
theorem dX5_leastOf_5 : decode cX5_leastOf 5 = .ok (.if_icmp .ge 19, 3) := by decide +kernel
theorem dX5_leastOf_8 : decode cX5_leastOf 8 = .ok (.iload_n 0, 1) := by decide +kernel
theorem dX5_leastOf_9 : decode cX5_leastOf 9 = .ok (.iload_n 1, 1) := by decide +kernel
theorem dX5_leastOf_10 : decode cX5_leastOf 10 = .ok (.invokestatic 139, 3) := by decide +kernel
theorem dX5_leastOf_13 : decode cX5_leastOf 13 = .ok (.ifCond .eq 5, 3) := by decide +kernel
theorem dX5_leastOf_16 : decode cX5_leastOf 16 = .ok (.iload_n 1, 1) := by decide +kernel
theorem dX5_leastOf_17 : decode cX5_leastOf 17 = .ok (.ireturn, 1) := by decide +kernel
theorem dX5_leastOf_18 : decode cX5_leastOf 18 = .ok (.iinc 1 1, 3) := by decide +kernel
theorem dX5_leastOf_21 : decode cX5_leastOf 21 = .ok (.goto (-19), 3) := by decide +kernel
theorem dX5_leastOf_24 : decode cX5_leastOf 24 = .ok (.iconst (-1), 1) := by decide +kernel
theorem dX5_leastOf_25 : decode cX5_leastOf 25 = .ok (.ireturn, 1) := by decide +kernel
theorem dX5_endOf_0 : decode cX5_endOf 0 = .ok (.iload_n 1, 1) := by decide +kernel
theorem dX5_endOf_1 : decode cX5_endOf 1 = .ok (.ifCond .eq 10, 3) := by decide +kernel
theorem dX5_endOf_4 : decode cX5_endOf 4 = .ok (.iload_n 0, 1) := by decide +kernel
theorem dX5_endOf_5 : decode cX5_endOf 5 = .ok (.bipush 6, 2) := by decide +kernel
theorem dX5_endOf_7 : decode cX5_endOf 7 = .ok (.iadd, 1) := by decide +kernel
theorem dX5_endOf_8 : decode cX5_endOf 8 = .ok (.goto 4, 3) := by decide +kernel
theorem dX5_endOf_11 : decode cX5_endOf 11 = .ok (.iload_n 0, 1) := by decide +kernel
theorem dX5_endOf_12 : decode cX5_endOf 12 = .ok (.ireturn, 1) := by decide +kernel
theorem dX5_cylinderOf_0 : decode cX5_cylinderOf 0 = .ok (.iload_n 0, 1) := by decide +kernel
theorem dX5_cylinderOf_1 : decode cX5_cylinderOf 1 = .ok (.bipush 6, 2) := by decide +kernel
theorem dX5_cylinderOf_3 : decode cX5_cylinderOf 3 = .ok (.if_icmp .ge 7, 3) := by decide +kernel
theorem dX5_cylinderOf_6 : decode cX5_cylinderOf 6 = .ok (.iload_n 0, 1) := by decide +kernel
theorem dX5_cylinderOf_7 : decode cX5_cylinderOf 7 = .ok (.goto 7, 3) := by decide +kernel
theorem dX5_cylinderOf_10 : decode cX5_cylinderOf 10 = .ok (.iload_n 0, 1) := by decide +kernel
theorem dX5_cylinderOf_11 : decode cX5_cylinderOf 11 = .ok (.bipush 6, 2) := by decide +kernel
theorem dX5_cylinderOf_13 : decode cX5_cylinderOf 13 = .ok (.isub, 1) := by decide +kernel
theorem dX5_cylinderOf_14 : decode cX5_cylinderOf 14 = .ok (.ireturn, 1) := by decide +kernel
theorem dX5_endsTo_0 : decode cX5_endsTo 0 = .ok (.iload_n 0, 1) := by decide +kernel
theorem dX5_endsTo_1 : decode cX5_endsTo 1 = .ok (.bipush 6, 2) := by decide +kernel
theorem dX5_endsTo_3 : decode cX5_endsTo 3 = .ok (.ishl, 1) := by decide +kernel
theorem dX5_endsTo_4 : decode cX5_endsTo 4 = .ok (.iload_n 1, 1) := by decide +kernel
theorem dX5_endsTo_5 : decode cX5_endsTo 5 = .ok (.ior, 1) := by decide +kernel
theorem dX5_endsTo_6 : decode cX5_endsTo 6 = .ok (.ireturn, 1) := by decide +kernel
theorem dX5_outsOf_0 : decode cX5_outsOf 0 = .ok (.iload_n 0, 1) := by decide +kernel
theorem dX5_outsOf_1 : decode cX5_outsOf 1 = .ok (.bipush 6, 2) := by decide +kernel
theorem dX5_outsOf_3 : decode cX5_outsOf 3 = .ok (.ishr, 1) := by decide +kernel
theorem dX5_outsOf_4 : decode cX5_outsOf 4 = .ok (.ireturn, 1) := by decide +kernel
theorem dX5_insOf_0 : decode cX5_insOf 0 = .ok (.iload_n 0, 1) := by decide +kernel
theorem dX5_insOf_1 : decode cX5_insOf 1 = .ok (.bipush 63, 2) := by decide +kernel
theorem dX5_insOf_3 : decode cX5_insOf 3 = .ok (.iand, 1) := by decide +kernel
theorem dX5_insOf_4 : decode cX5_insOf 4 = .ok (.ireturn, 1) := by decide +kernel
set_option maxRecDepth 20000 in
theorem ggX5_cylindersOf_X5_outsOf : GoodIn wsX5_cylindersOf wsX5_outsOf := goodIn_r _ [4] (by decide +kernel) (by decide +kernel)
set_option maxRecDepth 20000 in
theorem gX5_cylindersOf_X5_outsOf : GoodIn wsX5_cylindersOf (va_wsS RX5 149 yX5_outsOf wsX5_outsOf) := goodIn_app (goodIn_of _ (by decide +kernel)) ggX5_cylindersOf_X5_outsOf
set_option maxRecDepth 20000 in
theorem ggX5_cylindersOf_X5_insOf : GoodIn wsX5_cylindersOf wsX5_insOf := goodIn_r _ [7] (by decide +kernel) (by decide +kernel)
set_option maxRecDepth 20000 in
theorem gX5_cylindersOf_X5_insOf : GoodIn wsX5_cylindersOf (va_wsS RX5 152 yX5_insOf wsX5_insOf) := goodIn_app (goodIn_of _ (by decide +kernel)) ggX5_cylindersOf_X5_insOf
theorem dX5_cylindersOf_0 : decode cX5_cylindersOf 0 = .ok (.iload_n 0, 1) := by decide +kernel
theorem dX5_cylindersOf_1 : decode cX5_cylindersOf 1 = .ok (.invokestatic 149, 3) := by decide +kernel
theorem dX5_cylindersOf_4 : decode cX5_cylindersOf 4 = .ok (.iload_n 0, 1) := by decide +kernel
theorem dX5_cylindersOf_5 : decode cX5_cylindersOf 5 = .ok (.invokestatic 152, 3) := by decide +kernel
theorem dX5_cylindersOf_8 : decode cX5_cylindersOf 8 = .ok (.ior, 1) := by decide +kernel
theorem dX5_cylindersOf_9 : decode cX5_cylindersOf 9 = .ok (.ireturn, 1) := by decide +kernel
set_option maxRecDepth 20000 in
theorem ggX5_sensorsOn_X5_endsTo : GoodIn wsX5_sensorsOn wsX5_endsTo := goodIn_r _ [4] (by decide +kernel) (by decide +kernel)
set_option maxRecDepth 20000 in
theorem gX5_sensorsOn_X5_endsTo : GoodIn wsX5_sensorsOn (va_wsS RX5 164 yX5_endsTo wsX5_endsTo) := goodIn_app (goodIn_of _ (by decide +kernel)) ggX5_sensorsOn_X5_endsTo
theorem dX5_sensorsOn_0 : decode cX5_sensorsOn 0 = .ok (.iload_n 0, 1) := by decide +kernel
theorem dX5_sensorsOn_1 : decode cX5_sensorsOn 1 = .ok (.iload_n 0, 1) := by decide +kernel
theorem dX5_sensorsOn_2 : decode cX5_sensorsOn 2 = .ok (.iconst (-1), 1) := by decide +kernel
theorem dX5_sensorsOn_3 : decode cX5_sensorsOn 3 = .ok (.ixor, 1) := by decide +kernel
theorem dX5_sensorsOn_4 : decode cX5_sensorsOn 4 = .ok (.bipush 63, 2) := by decide +kernel
theorem dX5_sensorsOn_6 : decode cX5_sensorsOn 6 = .ok (.iand, 1) := by decide +kernel
theorem dX5_sensorsOn_7 : decode cX5_sensorsOn 7 = .ok (.invokestatic 164, 3) := by decide +kernel
theorem dX5_sensorsOn_10 : decode cX5_sensorsOn 10 = .ok (.ireturn, 1) := by decide +kernel
theorem dX6_init_0 : decode cX6_init 0 = .ok (.aload_n 0, 1) := by decide +kernel
theorem dX6_init_1 : decode cX6_init 1 = .ok (.invokespecial 1, 3) := by decide +kernel
theorem dX6_init_4 : decode cX6_init 4 = .ok (.aload_n 0, 1) := by decide +kernel
theorem dX6_init_5 : decode cX6_init 5 = .ok (.bipush 16, 2) := by decide +kernel
theorem dX6_init_7 : decode cX6_init 7 = .ok (.newarray .int, 2) := by decide +kernel
theorem dX6_init_9 : decode cX6_init 9 = .ok (.putfield 7, 3) := by decide +kernel
theorem dX6_init_12 : decode cX6_init 12 = .ok (.aload_n 0, 1) := by decide +kernel
theorem dX6_init_13 : decode cX6_init 13 = .ok (.bipush 16, 2) := by decide +kernel
theorem dX6_init_15 : decode cX6_init 15 = .ok (.newarray .int, 2) := by decide +kernel
theorem dX6_init_17 : decode cX6_init 17 = .ok (.putfield 13, 3) := by decide +kernel
theorem dX6_init_20 : decode cX6_init 20 = .ok (.aload_n 0, 1) := by decide +kernel
theorem dX6_init_21 : decode cX6_init 21 = .ok (.bipush 12, 2) := by decide +kernel
theorem dX6_init_23 : decode cX6_init 23 = .ok (.newarray .int, 2) := by decide +kernel
theorem dX6_init_25 : decode cX6_init 25 = .ok (.putfield 16, 3) := by decide +kernel
theorem dX6_init_28 : decode cX6_init 28 = .ok (.aload_n 0, 1) := by decide +kernel
theorem dX6_init_29 : decode cX6_init 29 = .ok (.bipush 12, 2) := by decide +kernel
theorem dX6_init_31 : decode cX6_init 31 = .ok (.newarray .int, 2) := by decide +kernel
theorem dX6_init_33 : decode cX6_init 33 = .ok (.putfield 19, 3) := by decide +kernel
theorem dX6_init_36 : decode cX6_init 36 = .ok (.aload_n 0, 1) := by decide +kernel
theorem dX6_init_37 : decode cX6_init 37 = .ok (.bipush 12, 2) := by decide +kernel
theorem dX6_init_39 : decode cX6_init 39 = .ok (.newarray .int, 2) := by decide +kernel
theorem dX6_init_41 : decode cX6_init 41 = .ok (.putfield 22, 3) := by decide +kernel
theorem dX6_init_44 : decode cX6_init 44 = .ok (.aload_n 0, 1) := by decide +kernel
theorem dX6_init_45 : decode cX6_init 45 = .ok (.bipush 12, 2) := by decide +kernel
theorem dX6_init_47 : decode cX6_init 47 = .ok (.newarray .boolean, 2) := by decide +kernel
theorem dX6_init_49 : decode cX6_init 49 = .ok (.putfield 25, 3) := by decide +kernel
theorem dX6_init_52 : decode cX6_init 52 = .ok (.aload_n 0, 1) := by decide +kernel
theorem dX6_init_53 : decode cX6_init 53 = .ok (.bipush 12, 2) := by decide +kernel
theorem dX6_init_55 : decode cX6_init 55 = .ok (.newarray .int, 2) := by decide +kernel
theorem dX6_init_57 : decode cX6_init 57 = .ok (.putfield 29, 3) := by decide +kernel
theorem dX6_init_60 : decode cX6_init 60 = .ok (.aload_n 0, 1) := by decide +kernel
theorem dX6_init_61 : decode cX6_init 61 = .ok (.bipush 12, 2) := by decide +kernel
theorem dX6_init_63 : decode cX6_init 63 = .ok (.newarray .boolean, 2) := by decide +kernel
theorem dX6_init_65 : decode cX6_init 65 = .ok (.putfield 32, 3) := by decide +kernel
theorem dX6_init_68 : decode cX6_init 68 = .ok (.aload_n 0, 1) := by decide +kernel
theorem dX6_init_69 : decode cX6_init 69 = .ok (.bipush 17, 2) := by decide +kernel
theorem dX6_init_71 : decode cX6_init 71 = .ok (.newarray .int, 2) := by decide +kernel
theorem dX6_init_73 : decode cX6_init 73 = .ok (.putfield 35, 3) := by decide +kernel
theorem dX6_init_76 : decode cX6_init 76 = .ok (.aload_n 0, 1) := by decide +kernel
theorem dX6_init_77 : decode cX6_init 77 = .ok (.bipush 64, 2) := by decide +kernel
theorem dX6_init_79 : decode cX6_init 79 = .ok (.newarray .int, 2) := by decide +kernel
theorem dX6_init_81 : decode cX6_init 81 = .ok (.putfield 38, 3) := by decide +kernel
theorem dX6_init_84 : decode cX6_init 84 = .ok (.iconst 0, 1) := by decide +kernel
theorem dX6_init_85 : decode cX6_init 85 = .ok (.istore_n 1, 1) := by decide +kernel
theorem dX6_init_86 : decode cX6_init 86 = .ok (.iload_n 1, 1) := by decide +kernel
theorem dX6_init_87 : decode cX6_init 87 = .ok (.bipush 12, 2) := by decide +kernel
theorem dX6_init_89 : decode cX6_init 89 = .ok (.if_icmp .ge 23, 3) := by decide +kernel
theorem dX6_init_92 : decode cX6_init 92 = .ok (.aload_n 0, 1) := by decide +kernel
theorem dX6_init_93 : decode cX6_init 93 = .ok (.getfield 16, 3) := by decide +kernel
theorem dX6_init_96 : decode cX6_init 96 = .ok (.iload_n 1, 1) := by decide +kernel
theorem dX6_init_97 : decode cX6_init 97 = .ok (.iconst 1, 1) := by decide +kernel
theorem dX6_init_98 : decode cX6_init 98 = .ok (.iastore, 1) := by decide +kernel
theorem dX6_init_99 : decode cX6_init 99 = .ok (.aload_n 0, 1) := by decide +kernel
theorem dX6_init_100 : decode cX6_init 100 = .ok (.getfield 19, 3) := by decide +kernel
theorem dX6_init_103 : decode cX6_init 103 = .ok (.iload_n 1, 1) := by decide +kernel
theorem dX6_init_104 : decode cX6_init 104 = .ok (.iconst 1, 1) := by decide +kernel
theorem dX6_init_105 : decode cX6_init 105 = .ok (.iastore, 1) := by decide +kernel
theorem dX6_init_106 : decode cX6_init 106 = .ok (.iinc 1 1, 3) := by decide +kernel
theorem dX6_init_109 : decode cX6_init 109 = .ok (.goto (-23), 3) := by decide +kernel
theorem dX6_init_112 : decode cX6_init 112 = .ok (.return_, 1) := by decide +kernel
theorem dX6_in_0 : decode cX6_in 0 = .ok (.iload_n 0, 1) := by decide +kernel
theorem dX6_in_1 : decode cX6_in 1 = .ok (.iload_n 1, 1) := by decide +kernel
theorem dX6_in_2 : decode cX6_in 2 = .ok (.if_icmp .lt 12, 3) := by decide +kernel
theorem dX6_in_5 : decode cX6_in 5 = .ok (.iload_n 0, 1) := by decide +kernel
theorem dX6_in_6 : decode cX6_in 6 = .ok (.iload_n 2, 1) := by decide +kernel
theorem dX6_in_7 : decode cX6_in 7 = .ok (.if_icmp .gt 7, 3) := by decide +kernel
theorem dX6_in_10 : decode cX6_in 10 = .ok (.iconst 1, 1) := by decide +kernel
theorem dX6_in_11 : decode cX6_in 11 = .ok (.goto 4, 3) := by decide +kernel
theorem dX6_in_14 : decode cX6_in 14 = .ok (.iconst 0, 1) := by decide +kernel
theorem dX6_in_15 : decode cX6_in 15 = .ok (.ireturn, 1) := by decide +kernel
theorem dX6_ones_0 : decode cX6_ones 0 = .ok (.iconst 0, 1) := by decide +kernel
theorem dX6_ones_1 : decode cX6_ones 1 = .ok (.istore_n 1, 1) := by decide +kernel
theorem dX6_ones_2 : decode cX6_ones 2 = .ok (.iconst 0, 1) := by decide +kernel
theorem dX6_ones_3 : decode cX6_ones 3 = .ok (.istore_n 2, 1) := by decide +kernel
theorem dX6_ones_4 : decode cX6_ones 4 = .ok (.iload_n 2, 1) := by decide +kernel
theorem dX6_ones_5 : decode cX6_ones 5 = .ok (.bipush 16, 2) := by decide +kernel
theorem dX6_ones_7 : decode cX6_ones 7 = .ok (.if_icmp .ge 17, 3) := by decide +kernel
theorem dX6_ones_10 : decode cX6_ones 10 = .ok (.iload_n 1, 1) := by decide +kernel
theorem dX6_ones_11 : decode cX6_ones 11 = .ok (.iload_n 0, 1) := by decide +kernel
theorem dX6_ones_12 : decode cX6_ones 12 = .ok (.iload_n 2, 1) := by decide +kernel
theorem dX6_ones_13 : decode cX6_ones 13 = .ok (.ishr, 1) := by decide +kernel
theorem dX6_ones_14 : decode cX6_ones 14 = .ok (.iconst 1, 1) := by decide +kernel
theorem dX6_ones_15 : decode cX6_ones 15 = .ok (.iand, 1) := by decide +kernel
theorem dX6_ones_16 : decode cX6_ones 16 = .ok (.iadd, 1) := by decide +kernel
theorem dX6_ones_17 : decode cX6_ones 17 = .ok (.istore_n 1, 1) := by decide +kernel
theorem dX6_ones_18 : decode cX6_ones 18 = .ok (.iinc 2 1, 3) := by decide +kernel
theorem dX6_ones_21 : decode cX6_ones 21 = .ok (.goto (-17), 3) := by decide +kernel
theorem dX6_ones_24 : decode cX6_ones 24 = .ok (.iload_n 1, 1) := by decide +kernel
theorem dX6_ones_25 : decode cX6_ones 25 = .ok (.ireturn, 1) := by decide +kernel
set_option maxRecDepth 20000 in
theorem ggX6_step_X6_in : GoodIn wsX6_step wsX6_in := goodIn_r _ [7] (by decide +kernel) (by decide +kernel)
set_option maxRecDepth 20000 in
theorem gX6_step_X6_in : GoodIn wsX6_step (va_wsS RX6 41 yX6_in wsX6_in) := goodIn_app (goodIn_of _ (by decide +kernel)) ggX6_step_X6_in
theorem dX6_step_0 : decode cX6_step 0 = .ok (.iload_n 1, 1) := by decide +kernel
theorem dX6_step_1 : decode cX6_step 1 = .ok (.iconst 0, 1) := by decide +kernel
theorem dX6_step_2 : decode cX6_step 2 = .ok (.bipush 63, 2) := by decide +kernel
theorem dX6_step_4 : decode cX6_step 4 = .ok (.invokestatic 41, 3) := by decide +kernel
theorem dX6_step_7 : decode cX6_step 7 = .ok (.ifCond .eq 25, 3) := by decide +kernel
theorem dX6_step_10 : decode cX6_step 10 = .ok (.iload_n 2, 1) := by decide +kernel
theorem dX6_step_11 : decode cX6_step 11 = .ok (.iconst 0, 1) := by decide +kernel
theorem dX6_step_12 : decode cX6_step 12 = .ok (.bipush 63, 2) := by decide +kernel
theorem dX6_step_14 : decode cX6_step 14 = .ok (.invokestatic 41, 3) := by decide +kernel
theorem dX6_step_17 : decode cX6_step 17 = .ok (.ifCond .eq 15, 3) := by decide +kernel
theorem dX6_step_20 : decode cX6_step 20 = .ok (.iload_n 1, 1) := by decide +kernel
theorem dX6_step_21 : decode cX6_step 21 = .ok (.iload_n 2, 1) := by decide +kernel
theorem dX6_step_22 : decode cX6_step 22 = .ok (.iand, 1) := by decide +kernel
theorem dX6_step_23 : decode cX6_step 23 = .ok (.ifCond .ne 9, 3) := by decide +kernel
theorem dX6_step_26 : decode cX6_step 26 = .ok (.iload_n 1, 1) := by decide +kernel
theorem dX6_step_27 : decode cX6_step 27 = .ok (.iload_n 2, 1) := by decide +kernel
theorem dX6_step_28 : decode cX6_step 28 = .ok (.ior, 1) := by decide +kernel
theorem dX6_step_29 : decode cX6_step 29 = .ok (.ifCond .ne 6, 3) := by decide +kernel
theorem dX6_step_32 : decode cX6_step 32 = .ok (.bipush (-2), 2) := by decide +kernel
theorem dX6_step_34 : decode cX6_step 34 = .ok (.ireturn, 1) := by decide +kernel
theorem dX6_step_35 : decode cX6_step 35 = .ok (.aload_n 0, 1) := by decide +kernel
