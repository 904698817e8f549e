theorem dX3_stateAt_16 : decode cX3_stateAt 16 = .ok (.iaload, 1) := by decide +kernel
theorem dX3_stateAt_17 : decode cX3_stateAt 17 = .ok (.goto 4, 3) := by decide +kernel
theorem dX3_stateAt_20 : decode cX3_stateAt 20 = .ok (.iconst 0, 1) := by decide +kernel
theorem dX3_stateAt_21 : decode cX3_stateAt 21 = .ok (.ireturn, 1) := by decide +kernel
set_option maxRecDepth 20000 in
theorem ggX3_trigger_X3_endsOf : GoodIn wsX3_trigger wsX3_endsOf := goodIn_r _ [6, 1, 7, 8, 9, 10, 11, 12, 13] (by decide +kernel) (by decide +kernel)
set_option maxRecDepth 20000 in
theorem gX3_trigger_X3_endsOf : GoodIn wsX3_trigger (wsV RX3 30 RX3 yX3_endsOf wsX3_endsOf) := goodIn_app (goodIn_of _ (by decide +kernel)) ggX3_trigger_X3_endsOf
theorem dX3_trigger_0 : decode cX3_trigger 0 = .ok (.aload_n 0, 1) := by decide +kernel
theorem dX3_trigger_1 : decode cX3_trigger 1 = .ok (.iload_n 1, 1) := by decide +kernel
theorem dX3_trigger_2 : decode cX3_trigger 2 = .ok (.ifCond .ne 12, 3) := by decide +kernel
theorem dX3_trigger_5 : decode cX3_trigger 5 = .ok (.aload_n 0, 1) := by decide +kernel
theorem dX3_trigger_6 : decode cX3_trigger 6 = .ok (.getfield 18, 3) := by decide +kernel
theorem dX3_trigger_9 : decode cX3_trigger 9 = .ok (.iconst 1, 1) := by decide +kernel
theorem dX3_trigger_10 : decode cX3_trigger 10 = .ok (.isub, 1) := by decide +kernel
theorem dX3_trigger_11 : decode cX3_trigger 11 = .ok (.goto 6, 3) := by decide +kernel
theorem dX3_trigger_14 : decode cX3_trigger 14 = .ok (.iload_n 1, 1) := by decide +kernel
theorem dX3_trigger_15 : decode cX3_trigger 15 = .ok (.iconst 1, 1) := by decide +kernel
theorem dX3_trigger_16 : decode cX3_trigger 16 = .ok (.isub, 1) := by decide +kernel
theorem dX3_trigger_17 : decode cX3_trigger 17 = .ok (.invokevirtual 30, 3) := by decide +kernel
theorem dX3_trigger_20 : decode cX3_trigger 20 = .ok (.ireturn, 1) := by decide +kernel
set_option maxRecDepth 20000 in
theorem ggX3_isSound_X3_firstWrong : GoodIn wsX3_isSound wsX3_firstWrong := goodIn_r _ [5, 6, 7, 8, 9, 10, 11, 12, 13, 14, 15, 16, 17] (by decide +kernel) (by decide +kernel)
set_option maxRecDepth 20000 in
theorem gX3_isSound_X3_firstWrong : GoodIn wsX3_isSound (wsV RX3 34 RX3 yX3_firstWrong wsX3_firstWrong) := goodIn_app (goodIn_of _ (by decide +kernel)) ggX3_isSound_X3_firstWrong
theorem dX3_isSound_0 : decode cX3_isSound 0 = .ok (.aload_n 0, 1) := by decide +kernel
theorem dX3_isSound_1 : decode cX3_isSound 1 = .ok (.invokevirtual 34, 3) := by decide +kernel
theorem dX3_isSound_4 : decode cX3_isSound 4 = .ok (.iconst (-1), 1) := by decide +kernel
theorem dX3_isSound_5 : decode cX3_isSound 5 = .ok (.if_icmp .ne 7, 3) := by decide +kernel
theorem dX3_isSound_8 : decode cX3_isSound 8 = .ok (.iconst 1, 1) := by decide +kernel
theorem dX3_isSound_9 : decode cX3_isSound 9 = .ok (.goto 4, 3) := by decide +kernel
theorem dX3_isSound_12 : decode cX3_isSound 12 = .ok (.iconst 0, 1) := by decide +kernel
theorem dX3_isSound_13 : decode cX3_isSound 13 = .ok (.ireturn, 1) := by decide +kernel
set_option maxRecDepth 20000 in
theorem ggX3_firstWrong_X5_sensorsOn : GoodIn wsX3_firstWrong wsX5_sensorsOn := goodIn_r _ [6, 7, 8, 5, 9] (by decide +kernel) (by decide +kernel)
set_option maxRecDepth 20000 in
theorem gX3_firstWrong_X5_sensorsOn_n38 : GoodIn wsX3_firstWrong (wsX5_sensorsOn) := ggX3_firstWrong_X5_sensorsOn
theorem dX3_firstWrong_0 : decode cX3_firstWrong 0 = .ok (.iconst 0, 1) := by decide +kernel
theorem dX3_firstWrong_1 : decode cX3_firstWrong 1 = .ok (.istore_n 1, 1) := by decide +kernel
theorem dX3_firstWrong_2 : decode cX3_firstWrong 2 = .ok (.iload_n 1, 1) := by decide +kernel
theorem dX3_firstWrong_3 : decode cX3_firstWrong 3 = .ok (.aload_n 0, 1) := by decide +kernel
theorem dX3_firstWrong_4 : decode cX3_firstWrong 4 = .ok (.getfield 18, 3) := by decide +kernel
theorem dX3_firstWrong_7 : decode cX3_firstWrong 7 = .ok (.if_icmp .ge 30, 3) := by decide +kernel
theorem dX3_firstWrong_10 : decode cX3_firstWrong 10 = .ok (.aload_n 0, 1) := by decide +kernel
theorem dX3_firstWrong_11 : decode cX3_firstWrong 11 = .ok (.getfield 9, 3) := by decide +kernel
theorem dX3_firstWrong_14 : decode cX3_firstWrong 14 = .ok (.iload_n 1, 1) := by decide +kernel
theorem dX3_firstWrong_15 : decode cX3_firstWrong 15 = .ok (.iaload, 1) := by decide +kernel
theorem dX3_firstWrong_16 : decode cX3_firstWrong 16 = .ok (.aload_n 0, 1) := by decide +kernel
theorem dX3_firstWrong_17 : decode cX3_firstWrong 17 = .ok (.getfield 15, 3) := by decide +kernel
theorem dX3_firstWrong_20 : decode cX3_firstWrong 20 = .ok (.iload_n 1, 1) := by decide +kernel
theorem dX3_firstWrong_21 : decode cX3_firstWrong 21 = .ok (.iaload, 1) := by decide +kernel
theorem dX3_firstWrong_22 : decode cX3_firstWrong 22 = .ok (.invokestatic 38, 3) := by decide +kernel
theorem dX3_firstWrong_25 : decode cX3_firstWrong 25 = .ok (.iand, 1) := by decide +kernel
theorem dX3_firstWrong_26 : decode cX3_firstWrong 26 = .ok (.ifCond .eq 5, 3) := by decide +kernel
theorem dX3_firstWrong_29 : decode cX3_firstWrong 29 = .ok (.iload_n 1, 1) := by decide +kernel
theorem dX3_firstWrong_30 : decode cX3_firstWrong 30 = .ok (.ireturn, 1) := by decide +kernel
theorem dX3_firstWrong_31 : decode cX3_firstWrong 31 = .ok (.iinc 1 1, 3) := by decide +kernel
theorem dX3_firstWrong_34 : decode cX3_firstWrong 34 = .ok (.goto (-32), 3) := by decide +kernel
theorem dX3_firstWrong_37 : decode cX3_firstWrong 37 = .ok (.aload_n 0, 1) := by decide +kernel
theorem dX3_firstWrong_38 : decode cX3_firstWrong 38 = .ok (.getfield 18, 3) := by decide +kernel
theorem dX3_firstWrong_41 : decode cX3_firstWrong 41 = .ok (.ifCond .eq 15, 3) := by decide +kernel
theorem dX3_firstWrong_44 : decode cX3_firstWrong 44 = .ok (.aload_n 0, 1) := by decide +kernel
theorem dX3_firstWrong_45 : decode cX3_firstWrong 45 = .ok (.getfield 15, 3) := by decide +kernel
theorem dX3_firstWrong_48 : decode cX3_firstWrong 48 = .ok (.aload_n 0, 1) := by decide +kernel
theorem dX3_firstWrong_49 : decode cX3_firstWrong 49 = .ok (.getfield 18, 3) := by decide +kernel
theorem dX3_firstWrong_52 : decode cX3_firstWrong 52 = .ok (.iaload, 1) := by decide +kernel
theorem dX3_firstWrong_53 : decode cX3_firstWrong 53 = .ok (.ifCond .eq 10, 3) := by decide +kernel
theorem dX3_firstWrong_56 : decode cX3_firstWrong 56 = .ok (.aload_n 0, 1) := by decide +kernel
theorem dX3_firstWrong_57 : decode cX3_firstWrong 57 = .ok (.getfield 18, 3) := by decide +kernel
theorem dX3_firstWrong_60 : decode cX3_firstWrong 60 = .ok (.goto 4, 3) := by decide +kernel
theorem dX3_firstWrong_63 : decode cX3_firstWrong 63 = .ok (.iconst (-1), 1) := by decide +kernel
theorem dX3_firstWrong_64 : decode cX3_firstWrong 64 = .ok (.ireturn, 1) := by decide +kernel
set_option maxRecDepth 20000 in
theorem ggX3_mostAlike_X3_alike : GoodIn wsX3_mostAlike wsX3_alike := goodIn_r _ [11, 1, 2, 12, 13, 14] (by decide +kernel) (by decide +kernel)
set_option maxRecDepth 20000 in
theorem gX3_mostAlike_X3_alike : GoodIn wsX3_mostAlike (wsV RX3 41 RX3 yX3_alike wsX3_alike) := goodIn_app (goodIn_of _ (by decide +kernel)) ggX3_mostAlike_X3_alike
theorem dX3_mostAlike_0 : decode cX3_mostAlike 0 = .ok (.iconst 0, 1) := by decide +kernel
theorem dX3_mostAlike_1 : decode cX3_mostAlike 1 = .ok (.istore_n 1, 1) := by decide +kernel
theorem dX3_mostAlike_2 : decode cX3_mostAlike 2 = .ok (.iconst 0, 1) := by decide +kernel
theorem dX3_mostAlike_3 : decode cX3_mostAlike 3 = .ok (.istore_n 2, 1) := by decide +kernel
theorem dX3_mostAlike_4 : decode cX3_mostAlike 4 = .ok (.iload_n 2, 1) := by decide +kernel
theorem dX3_mostAlike_5 : decode cX3_mostAlike 5 = .ok (.aload_n 0, 1) := by decide +kernel
theorem dX3_mostAlike_6 : decode cX3_mostAlike 6 = .ok (.getfield 18, 3) := by decide +kernel
theorem dX3_mostAlike_9 : decode cX3_mostAlike 9 = .ok (.if_icmp .ge 24, 3) := by decide +kernel
theorem dX3_mostAlike_12 : decode cX3_mostAlike 12 = .ok (.iload_n 1, 1) := by decide +kernel
theorem dX3_mostAlike_13 : decode cX3_mostAlike 13 = .ok (.aload_n 0, 1) := by decide +kernel
theorem dX3_mostAlike_14 : decode cX3_mostAlike 14 = .ok (.aload_n 0, 1) := by decide +kernel
theorem dX3_mostAlike_15 : decode cX3_mostAlike 15 = .ok (.getfield 15, 3) := by decide +kernel
theorem dX3_mostAlike_18 : decode cX3_mostAlike 18 = .ok (.iload_n 2, 1) := by decide +kernel
theorem dX3_mostAlike_19 : decode cX3_mostAlike 19 = .ok (.iaload, 1) := by decide +kernel
theorem dX3_mostAlike_20 : decode cX3_mostAlike 20 = .ok (.invokevirtual 41, 3) := by decide +kernel
theorem dX3_mostAlike_23 : decode cX3_mostAlike 23 = .ok (.invokestatic 44, 3) := by decide +kernel
theorem dX3_mostAlike_26 : decode cX3_mostAlike 26 = .ok (.istore_n 1, 1) := by decide +kernel
theorem dX3_mostAlike_27 : decode cX3_mostAlike 27 = .ok (.iinc 2 1, 3) := by decide +kernel
theorem dX3_mostAlike_30 : decode cX3_mostAlike 30 = .ok (.goto (-26), 3) := by decide +kernel
theorem dX3_mostAlike_33 : decode cX3_mostAlike 33 = .ok (.iload_n 1, 1) := by decide +kernel
theorem dX3_mostAlike_34 : decode cX3_mostAlike 34 = .ok (.ireturn, 1) := by decide +kernel
theorem dX3_alike_0 : decode cX3_alike 0 = .ok (.iconst 0, 1) := by decide +kernel
theorem dX3_alike_1 : decode cX3_alike 1 = .ok (.istore_n 2, 1) := by decide +kernel
theorem dX3_alike_2 : decode cX3_alike 2 = .ok (.iconst 0, 1) := by decide +kernel
theorem dX3_alike_3 : decode cX3_alike 3 = .ok (.istore_n 3, 1) := by decide +kernel
theorem dX3_alike_4 : decode cX3_alike 4 = .ok (.iload_n 3, 1) := by decide +kernel
theorem dX3_alike_5 : decode cX3_alike 5 = .ok (.aload_n 0, 1) := by decide +kernel
theorem dX3_alike_6 : decode cX3_alike 6 = .ok (.getfield 18, 3) := by decide +kernel
theorem dX3_alike_9 : decode cX3_alike 9 = .ok (.if_icmp .ge 22, 3) := by decide +kernel
theorem dX3_alike_12 : decode cX3_alike 12 = .ok (.aload_n 0, 1) := by decide +kernel
theorem dX3_alike_13 : decode cX3_alike 13 = .ok (.getfield 15, 3) := by decide +kernel
theorem dX3_alike_16 : decode cX3_alike 16 = .ok (.iload_n 3, 1) := by decide +kernel
theorem dX3_alike_17 : decode cX3_alike 17 = .ok (.iaload, 1) := by decide +kernel
theorem dX3_alike_18 : decode cX3_alike 18 = .ok (.iload_n 1, 1) := by decide +kernel
theorem dX3_alike_19 : decode cX3_alike 19 = .ok (.if_icmp .ne 6, 3) := by decide +kernel
theorem dX3_alike_22 : decode cX3_alike 22 = .ok (.iinc 2 1, 3) := by decide +kernel
theorem dX3_alike_25 : decode cX3_alike 25 = .ok (.iinc 3 1, 3) := by decide +kernel
theorem dX3_alike_28 : decode cX3_alike 28 = .ok (.goto (-24), 3) := by decide +kernel
theorem dX3_alike_31 : decode cX3_alike 31 = .ok (.iload_n 2, 1) := by decide +kernel
theorem dX3_alike_32 : decode cX3_alike 32 = .ok (.ireturn, 1) := by decide +kernel
set_option maxRecDepth 20000 in
theorem ggX3_moves_J6_bitCount_0f7a4 : GoodIn wsX3_moves wsJ6_bitCount_0f7a4 := goodIn_r _ [6, 7, 8, 9] (by decide +kernel) (by decide +kernel)
set_option maxRecDepth 20000 in
theorem gX3_moves_J6_bitCount_0f7a4 : GoodIn wsX3_moves (va_wsS RX3 49 yJ6_bitCount_0f7a4 wsJ6_bitCount_0f7a4) := goodIn_app (goodIn_of _ (by decide +kernel)) ggX3_moves_J6_bitCount_0f7a4
theorem dX3_moves_0 : decode cX3_moves 0 = .ok (.iconst 0, 1) := by decide +kernel
theorem dX3_moves_1 : decode cX3_moves 1 = .ok (.istore_n 1, 1) := by decide +kernel
theorem dX3_moves_2 : decode cX3_moves 2 = .ok (.iconst 0, 1) := by decide +kernel
theorem dX3_moves_3 : decode cX3_moves 3 = .ok (.istore_n 2, 1) := by decide +kernel
theorem dX3_moves_4 : decode cX3_moves 4 = .ok (.iload_n 2, 1) := by decide +kernel
theorem dX3_moves_5 : decode cX3_moves 5 = .ok (.aload_n 0, 1) := by decide +kernel
theorem dX3_moves_6 : decode cX3_moves 6 = .ok (.getfield 18, 3) := by decide +kernel
theorem dX3_moves_9 : decode cX3_moves 9 = .ok (.if_icmp .ge 21, 3) := by decide +kernel
theorem dX3_moves_12 : decode cX3_moves 12 = .ok (.iload_n 1, 1) := by decide +kernel
theorem dX3_moves_13 : decode cX3_moves 13 = .ok (.aload_n 0, 1) := by decide +kernel
theorem dX3_moves_14 : decode cX3_moves 14 = .ok (.getfield 9, 3) := by decide +kernel
theorem dX3_moves_17 : decode cX3_moves 17 = .ok (.iload_n 2, 1) := by decide +kernel
theorem dX3_moves_18 : decode cX3_moves 18 = .ok (.iaload, 1) := by decide +kernel
theorem dX3_moves_19 : decode cX3_moves 19 = .ok (.invokestatic 49, 3) := by decide +kernel
theorem dX3_moves_22 : decode cX3_moves 22 = .ok (.iadd, 1) := by decide +kernel
theorem dX3_moves_23 : decode cX3_moves 23 = .ok (.istore_n 1, 1) := by decide +kernel
theorem dX3_moves_24 : decode cX3_moves 24 = .ok (.iinc 2 1, 3) := by decide +kernel
theorem dX3_moves_27 : decode cX3_moves 27 = .ok (.goto (-23), 3) := by decide +kernel
theorem dX3_moves_30 : decode cX3_moves 30 = .ok (.iload_n 1, 1) := by decide +kernel
theorem dX3_moves_31 : decode cX3_moves 31 = .ok (.ireturn, 1) := by decide +kernel
set_option maxRecDepth 20000 in
theorem ggX4_init_J6_bitCount_0f7a4 : GoodIn wsX4_init wsJ6_bitCount_0f7a4 := goodIn_r _ [10, 11, 12, 13] (by decide +kernel) (by decide +kernel)
set_option maxRecDepth 20000 in
theorem gX4_init_J6_bitCount_0f7a4 : GoodIn wsX4_init (va_wsS RX4 18 yJ6_bitCount_0f7a4 wsJ6_bitCount_0f7a4) := goodIn_app (goodIn_of _ (by decide +kernel)) ggX4_init_J6_bitCount_0f7a4
theorem dX4_init_0 : decode cX4_init 0 = .ok (.aload_n 0, 1) := by decide +kernel
theorem dX4_init_1 : decode cX4_init 1 = .ok (.invokespecial 3, 3) := by decide +kernel
theorem dX4_init_4 : decode cX4_init 4 = .ok (.aload_n 0, 1) := by decide +kernel
theorem dX4_init_5 : decode cX4_init 5 = .ok (.bipush 64, 2) := by decide +kernel
theorem dX4_init_7 : decode cX4_init 7 = .ok (.newarray .int, 2) := by decide +kernel
theorem dX4_init_9 : decode cX4_init 9 = .ok (.putfield 9, 3) := by decide +kernel
theorem dX4_init_12 : decode cX4_init 12 = .ok (.aload_n 0, 1) := by decide +kernel
theorem dX4_init_13 : decode cX4_init 13 = .ok (.bipush 64, 2) := by decide +kernel
theorem dX4_init_15 : decode cX4_init 15 = .ok (.newarray .int, 2) := by decide +kernel
theorem dX4_init_17 : decode cX4_init 17 = .ok (.putfield 15, 3) := by decide +kernel
theorem dX4_init_20 : decode cX4_init 20 = .ok (.iconst 0, 1) := by decide +kernel
theorem dX4_init_21 : decode cX4_init 21 = .ok (.istore_n 1, 1) := by decide +kernel
theorem dX4_init_22 : decode cX4_init 22 = .ok (.iload_n 1, 1) := by decide +kernel
theorem dX4_init_23 : decode cX4_init 23 = .ok (.bipush 64, 2) := by decide +kernel
theorem dX4_init_25 : decode cX4_init 25 = .ok (.if_icmp .ge 19, 3) := by decide +kernel
theorem dX4_init_28 : decode cX4_init 28 = .ok (.aload_n 0, 1) := by decide +kernel
theorem dX4_init_29 : decode cX4_init 29 = .ok (.getfield 9, 3) := by decide +kernel
theorem dX4_init_32 : decode cX4_init 32 = .ok (.iload_n 1, 1) := by decide +kernel
theorem dX4_init_33 : decode cX4_init 33 = .ok (.iload_n 1, 1) := by decide +kernel
theorem dX4_init_34 : decode cX4_init 34 = .ok (.invokestatic 18, 3) := by decide +kernel
theorem dX4_init_37 : decode cX4_init 37 = .ok (.iastore, 1) := by decide +kernel
theorem dX4_init_38 : decode cX4_init 38 = .ok (.iinc 1 1, 3) := by decide +kernel
theorem dX4_init_41 : decode cX4_init 41 = .ok (.goto (-19), 3) := by decide +kernel
theorem dX4_init_44 : decode cX4_init 44 = .ok (.return_, 1) := by decide +kernel
set_option maxRecDepth 20000 in
theorem ggX4_measure_X4_reachBack : GoodIn wsX4_measure wsX4_reachBack := goodIn_r _ [7, 1, 2, 8, 9, 10, 11, 12, 13, 14, 15, 16, 17, 18, 19, 20, 21, 22, 23, 24, 25, 26, 27, 28, 29, 30, 31, 32, 33, 34, 35, 36, 37, 38, 39, 40, 41, 42] (by decide +kernel) (by decide +kernel)
set_option maxRecDepth 20000 in
theorem gX4_measure_X4_reachBack : GoodIn wsX4_measure (wsV RX4 24 RX4 yX4_reachBack wsX4_reachBack) := goodIn_app (goodIn_of _ (by decide +kernel)) ggX4_measure_X4_reachBack
theorem dX4_measure_0 : decode cX4_measure 0 = .ok (.iconst 0, 1) := by decide +kernel
theorem dX4_measure_1 : decode cX4_measure 1 = .ok (.istore_n 2, 1) := by decide +kernel
theorem dX4_measure_2 : decode cX4_measure 2 = .ok (.iload_n 2, 1) := by decide +kernel
theorem dX4_measure_3 : decode cX4_measure 3 = .ok (.bipush 64, 2) := by decide +kernel
theorem dX4_measure_5 : decode cX4_measure 5 = .ok (.if_icmp .ge 16, 3) := by decide +kernel
theorem dX4_measure_8 : decode cX4_measure 8 = .ok (.aload_n 0, 1) := by decide +kernel
theorem dX4_measure_9 : decode cX4_measure 9 = .ok (.getfield 9, 3) := by decide +kernel
theorem dX4_measure_12 : decode cX4_measure 12 = .ok (.iload_n 2, 1) := by decide +kernel
theorem dX4_measure_13 : decode cX4_measure 13 = .ok (.iconst (-1), 1) := by decide +kernel
theorem dX4_measure_14 : decode cX4_measure 14 = .ok (.iastore, 1) := by decide +kernel
theorem dX4_measure_15 : decode cX4_measure 15 = .ok (.iinc 2 1, 3) := by decide +kernel
theorem dX4_measure_18 : decode cX4_measure 18 = .ok (.goto (-16), 3) := by decide +kernel
theorem dX4_measure_21 : decode cX4_measure 21 = .ok (.aload_n 0, 1) := by decide +kernel
theorem dX4_measure_22 : decode cX4_measure 22 = .ok (.getfield 9, 3) := by decide +kernel
theorem dX4_measure_25 : decode cX4_measure 25 = .ok (.iconst 0, 1) := by decide +kernel
theorem dX4_measure_26 : decode cX4_measure 26 = .ok (.iconst 0, 1) := by decide +kernel
theorem dX4_measure_27 : decode cX4_measure 27 = .ok (.iastore, 1) := by decide +kernel
theorem dX4_measure_28 : decode cX4_measure 28 = .ok (.aload_n 0, 1) := by decide +kernel
theorem dX4_measure_29 : decode cX4_measure 29 = .ok (.getfield 15, 3) := by decide +kernel
theorem dX4_measure_32 : decode cX4_measure 32 = .ok (.iconst 0, 1) := by decide +kernel
theorem dX4_measure_33 : decode cX4_measure 33 = .ok (.iconst 0, 1) := by decide +kernel
theorem dX4_measure_34 : decode cX4_measure 34 = .ok (.iastore, 1) := by decide +kernel
theorem dX4_measure_35 : decode cX4_measure 35 = .ok (.iconst 1, 1) := by decide +kernel
theorem dX4_measure_36 : decode cX4_measure 36 = .ok (.istore_n 2, 1) := by decide +kernel
theorem dX4_measure_37 : decode cX4_measure 37 = .ok (.iconst 0, 1) := by decide +kernel
theorem dX4_measure_38 : decode cX4_measure 38 = .ok (.istore_n 3, 1) := by decide +kernel
theorem dX4_measure_39 : decode cX4_measure 39 = .ok (.iload_n 3, 1) := by decide +kernel
theorem dX4_measure_40 : decode cX4_measure 40 = .ok (.iload_n 2, 1) := by decide +kernel
theorem dX4_measure_41 : decode cX4_measure 41 = .ok (.if_icmp .ge 28, 3) := by decide +kernel
theorem dX4_measure_44 : decode cX4_measure 44 = .ok (.iload_n 3, 1) := by decide +kernel
theorem dX4_measure_45 : decode cX4_measure 45 = .ok (.bipush 64, 2) := by decide +kernel
theorem dX4_measure_47 : decode cX4_measure 47 = .ok (.if_icmp .ge 22, 3) := by decide +kernel
theorem dX4_measure_50 : decode cX4_measure 50 = .ok (.aload_n 0, 1) := by decide +kernel
theorem dX4_measure_51 : decode cX4_measure 51 = .ok (.aload_n 1, 1) := by decide +kernel
theorem dX4_measure_52 : decode cX4_measure 52 = .ok (.aload_n 0, 1) := by decide +kernel
theorem dX4_measure_53 : decode cX4_measure 53 = .ok (.getfield 15, 3) := by decide +kernel
theorem dX4_measure_56 : decode cX4_measure 56 = .ok (.iload_n 3, 1) := by decide +kernel
theorem dX4_measure_57 : decode cX4_measure 57 = .ok (.iaload, 1) := by decide +kernel
theorem dX4_measure_58 : decode cX4_measure 58 = .ok (.iload_n 2, 1) := by decide +kernel
theorem dX4_measure_59 : decode cX4_measure 59 = .ok (.invokevirtual 24, 3) := by decide +kernel
theorem dX4_measure_62 : decode cX4_measure 62 = .ok (.istore_n 2, 1) := by decide +kernel
theorem dX4_measure_63 : decode cX4_measure 63 = .ok (.iinc 3 1, 3) := by decide +kernel
theorem dX4_measure_66 : decode cX4_measure 66 = .ok (.goto (-27), 3) := by decide +kernel
theorem dX4_measure_69 : decode cX4_measure 69 = .ok (.return_, 1) := by decide +kernel
set_option maxRecDepth 20000 in
theorem ggX4_reachBack_X1_allowMove : GoodIn wsX4_reachBack wsX1_allowMove := goodIn_r _ [7, 8, 9, 10, 11, 12, 13, 6, 14, 15, 16, 17, 18, 19, 20, 21, 22, 23, 24, 25, 26, 27, 28, 29, 30, 31, 32, 35, 36, 37] (by decide +kernel) (by decide +kernel)
set_option maxRecDepth 20000 in
theorem gX4_reachBack_X1_allowMove : GoodIn wsX4_reachBack (wsV RX4 28 RX1 yX1_allowMove wsX1_allowMove) := goodIn_app (goodIn_of _ (by decide +kernel)) ggX4_reachBack_X1_allowMove
theorem dX4_reachBack_0 : decode cX4_reachBack 0 = .ok (.iload_n 3, 1) := by decide +kernel
theorem dX4_reachBack_1 : decode cX4_reachBack 1 = .ok (.istore 4, 2) := by decide +kernel
theorem dX4_reachBack_3 : decode cX4_reachBack 3 = .ok (.iconst 0, 1) := by decide +kernel
theorem dX4_reachBack_4 : decode cX4_reachBack 4 = .ok (.istore 5, 2) := by decide +kernel
theorem dX4_reachBack_6 : decode cX4_reachBack 6 = .ok (.iload 5, 2) := by decide +kernel
theorem dX4_reachBack_8 : decode cX4_reachBack 8 = .ok (.bipush 6, 2) := by decide +kernel
theorem dX4_reachBack_10 : decode cX4_reachBack 10 = .ok (.if_icmp .ge 73, 3) := by decide +kernel
theorem dX4_reachBack_13 : decode cX4_reachBack 13 = .ok (.iload_n 2, 1) := by decide +kernel
theorem dX4_reachBack_14 : decode cX4_reachBack 14 = .ok (.iconst 1, 1) := by decide +kernel
theorem dX4_reachBack_15 : decode cX4_reachBack 15 = .ok (.iload 5, 2) := by decide +kernel
theorem dX4_reachBack_17 : decode cX4_reachBack 17 = .ok (.ishl, 1) := by decide +kernel
theorem dX4_reachBack_18 : decode cX4_reachBack 18 = .ok (.ixor, 1) := by decide +kernel
theorem dX4_reachBack_19 : decode cX4_reachBack 19 = .ok (.istore 6, 2) := by decide +kernel
theorem dX4_reachBack_21 : decode cX4_reachBack 21 = .ok (.aload_n 0, 1) := by decide +kernel
theorem dX4_reachBack_22 : decode cX4_reachBack 22 = .ok (.getfield 9, 3) := by decide +kernel
theorem dX4_reachBack_25 : decode cX4_reachBack 25 = .ok (.iload 6, 2) := by decide +kernel
theorem dX4_reachBack_27 : decode cX4_reachBack 27 = .ok (.iaload, 1) := by decide +kernel
theorem dX4_reachBack_28 : decode cX4_reachBack 28 = .ok (.iconst (-1), 1) := by decide +kernel
theorem dX4_reachBack_29 : decode cX4_reachBack 29 = .ok (.if_icmp .ne 48, 3) := by decide +kernel
theorem dX4_reachBack_32 : decode cX4_reachBack 32 = .ok (.aload_n 1, 1) := by decide +kernel
theorem dX4_reachBack_33 : decode cX4_reachBack 33 = .ok (.iload 6, 2) := by decide +kernel
theorem dX4_reachBack_35 : decode cX4_reachBack 35 = .ok (.iload 5, 2) := by decide +kernel
theorem dX4_reachBack_37 : decode cX4_reachBack 37 = .ok (.invokevirtual 28, 3) := by decide +kernel
theorem dX4_reachBack_40 : decode cX4_reachBack 40 = .ok (.ifCond .eq 37, 3) := by decide +kernel
theorem dX4_reachBack_43 : decode cX4_reachBack 43 = .ok (.iload 4, 2) := by decide +kernel
theorem dX4_reachBack_45 : decode cX4_reachBack 45 = .ok (.bipush 64, 2) := by decide +kernel
theorem dX4_reachBack_47 : decode cX4_reachBack 47 = .ok (.if_icmp .ge 30, 3) := by decide +kernel
theorem dX4_reachBack_50 : decode cX4_reachBack 50 = .ok (.aload_n 0, 1) := by decide +kernel
theorem dX4_reachBack_51 : decode cX4_reachBack 51 = .ok (.getfield 9, 3) := by decide +kernel
theorem dX4_reachBack_54 : decode cX4_reachBack 54 = .ok (.iload 6, 2) := by decide +kernel
theorem dX4_reachBack_56 : decode cX4_reachBack 56 = .ok (.aload_n 0, 1) := by decide +kernel
theorem dX4_reachBack_57 : decode cX4_reachBack 57 = .ok (.getfield 9, 3) := by decide +kernel
theorem dX4_reachBack_60 : decode cX4_reachBack 60 = .ok (.iload_n 2, 1) := by decide +kernel
theorem dX4_reachBack_61 : decode cX4_reachBack 61 = .ok (.iaload, 1) := by decide +kernel
theorem dX4_reachBack_62 : decode cX4_reachBack 62 = .ok (.iconst 1, 1) := by decide +kernel
theorem dX4_reachBack_63 : decode cX4_reachBack 63 = .ok (.iadd, 1) := by decide +kernel
theorem dX4_reachBack_64 : decode cX4_reachBack 64 = .ok (.iastore, 1) := by decide +kernel
theorem dX4_reachBack_65 : decode cX4_reachBack 65 = .ok (.aload_n 0, 1) := by decide +kernel
theorem dX4_reachBack_66 : decode cX4_reachBack 66 = .ok (.getfield 15, 3) := by decide +kernel
theorem dX4_reachBack_69 : decode cX4_reachBack 69 = .ok (.iload 4, 2) := by decide +kernel
theorem dX4_reachBack_71 : decode cX4_reachBack 71 = .ok (.iload 6, 2) := by decide +kernel
theorem dX4_reachBack_73 : decode cX4_reachBack 73 = .ok (.iastore, 1) := by decide +kernel
theorem dX4_reachBack_74 : decode cX4_reachBack 74 = .ok (.iinc 4 1, 3) := by decide +kernel
theorem dX4_reachBack_77 : decode cX4_reachBack 77 = .ok (.iinc 5 1, 3) := by decide +kernel
theorem dX4_reachBack_80 : decode cX4_reachBack 80 = .ok (.goto (-74), 3) := by decide +kernel
theorem dX4_reachBack_83 : decode cX4_reachBack 83 = .ok (.iload 4, 2) := by decide +kernel
theorem dX4_reachBack_85 : decode cX4_reachBack 85 = .ok (.ireturn, 1) := by decide +kernel
set_option maxRecDepth 20000 in
theorem ggX4_length_X5_isState : GoodIn wsX4_length wsX5_isState := goodIn_r _ [4, 5, 6, 3, 7] (by decide +kernel) (by decide +kernel)
set_option maxRecDepth 20000 in
theorem gX4_length_X5_isState_n34 : GoodIn wsX4_length (wsX5_isState) := ggX4_length_X5_isState
theorem dX4_length_0 : decode cX4_length 0 = .ok (.iload_n 1, 1) := by decide +kernel
theorem dX4_length_1 : decode cX4_length 1 = .ok (.invokestatic 34, 3) := by decide +kernel
theorem dX4_length_4 : decode cX4_length 4 = .ok (.ifCond .eq 12, 3) := by decide +kernel
theorem dX4_length_7 : decode cX4_length 7 = .ok (.aload_n 0, 1) := by decide +kernel
theorem dX4_length_8 : decode cX4_length 8 = .ok (.getfield 9, 3) := by decide +kernel
theorem dX4_length_11 : decode cX4_length 11 = .ok (.iload_n 1, 1) := by decide +kernel
theorem dX4_length_12 : decode cX4_length 12 = .ok (.iaload, 1) := by decide +kernel
theorem dX4_length_13 : decode cX4_length 13 = .ok (.goto 4, 3) := by decide +kernel
theorem dX4_length_16 : decode cX4_length 16 = .ok (.iconst (-1), 1) := by decide +kernel
theorem dX4_length_17 : decode cX4_length 17 = .ok (.ireturn, 1) := by decide +kernel
set_option maxRecDepth 20000 in
theorem ggX4_move_X4_length : GoodIn wsX4_move wsX4_length := goodIn_r _ [5, 6, 7, 8, 9, 10, 11, 12, 46, 47] (by decide +kernel) (by decide +kernel)
set_option maxRecDepth 20000 in
theorem gX4_move_X4_length : GoodIn wsX4_move (wsV RX4 38 RX4 yX4_length wsX4_length) := goodIn_app (goodIn_of _ (by decide +kernel)) ggX4_move_X4_length
set_option maxRecDepth 20000 in
theorem ggX4_move_X4_nextCylinder : GoodIn wsX4_move wsX4_nextCylinder := goodIn_r _ [16, 1, 2, 3, 4, 5, 6, 7, 8, 9, 10, 11, 12, 17, 18, 19, 20, 21, 22, 23, 24, 25, 26, 27, 28, 29, 30, 31, 32, 33, 34, 35, 36, 37, 38, 39, 40, 41, 42, 43, 44, 45, 46, 47, 48, 49, 50] (by decide +kernel) (by decide +kernel)
set_option maxRecDepth 20000 in
theorem gX4_move_X4_nextCylinder : GoodIn wsX4_move (wsV RX4 41 RX4 yX4_nextCylinder wsX4_nextCylinder) := goodIn_app (goodIn_of _ (by decide +kernel)) ggX4_move_X4_nextCylinder
set_option maxRecDepth 20000 in
theorem ggX4_move_X5_has : GoodIn wsX4_move wsX5_has := goodIn_r _ [43] (by decide +kernel) (by decide +kernel)
set_option maxRecDepth 20000 in
theorem gX4_move_X5_has_n45 : GoodIn wsX4_move (wsX5_has) := ggX4_move_X5_has
theorem dX4_move_0 : decode cX4_move 0 = .ok (.iload_n 3, 1) := by decide +kernel
theorem dX4_move_1 : decode cX4_move 1 = .ok (.aload_n 0, 1) := by decide +kernel
theorem dX4_move_2 : decode cX4_move 2 = .ok (.iload_n 2, 1) := by decide +kernel
theorem dX4_move_3 : decode cX4_move 3 = .ok (.invokevirtual 38, 3) := by decide +kernel
theorem dX4_move_6 : decode cX4_move 6 = .ok (.if_icmp .lt 5, 3) := by decide +kernel
theorem dX4_move_9 : decode cX4_move 9 = .ok (.iconst (-1), 1) := by decide +kernel
theorem dX4_move_10 : decode cX4_move 10 = .ok (.ireturn, 1) := by decide +kernel
theorem dX4_move_11 : decode cX4_move 11 = .ok (.iload_n 2, 1) := by decide +kernel
theorem dX4_move_12 : decode cX4_move 12 = .ok (.istore 4, 2) := by decide +kernel
theorem dX4_move_14 : decode cX4_move 14 = .ok (.iconst 0, 1) := by decide +kernel
theorem dX4_move_15 : decode cX4_move 15 = .ok (.istore 5, 2) := by decide +kernel
theorem dX4_move_17 : decode cX4_move 17 = .ok (.iload 5, 2) := by decide +kernel
theorem dX4_move_19 : decode cX4_move 19 = .ok (.iload_n 3, 1) := by decide +kernel
theorem dX4_move_20 : decode cX4_move 20 = .ok (.if_icmp .ge 23, 3) := by decide +kernel
theorem dX4_move_23 : decode cX4_move 23 = .ok (.iload 4, 2) := by decide +kernel
theorem dX4_move_25 : decode cX4_move 25 = .ok (.iconst 1, 1) := by decide +kernel
theorem dX4_move_26 : decode cX4_move 26 = .ok (.aload_n 0, 1) := by decide +kernel
theorem dX4_move_27 : decode cX4_move 27 = .ok (.aload_n 1, 1) := by decide +kernel
theorem dX4_move_28 : decode cX4_move 28 = .ok (.iload 4, 2) := by decide +kernel
theorem dX4_move_30 : decode cX4_move 30 = .ok (.invokevirtual 41, 3) := by decide +kernel
theorem dX4_move_33 : decode cX4_move 33 = .ok (.ishl, 1) := by decide +kernel
theorem dX4_move_34 : decode cX4_move 34 = .ok (.ixor, 1) := by decide +kernel
theorem dX4_move_35 : decode cX4_move 35 = .ok (.istore 4, 2) := by decide +kernel
theorem dX4_move_37 : decode cX4_move 37 = .ok (.iinc 5 1, 3) := by decide +kernel
theorem dX4_move_40 : decode cX4_move 40 = .ok (.goto (-23), 3) := by decide +kernel
theorem dX4_move_43 : decode cX4_move 43 = .ok (.aload_n 0, 1) := by decide +kernel
theorem dX4_move_44 : decode cX4_move 44 = .ok (.aload_n 1, 1) := by decide +kernel
theorem dX4_move_45 : decode cX4_move 45 = .ok (.iload 4, 2) := by decide +kernel
theorem dX4_move_47 : decode cX4_move 47 = .ok (.invokevirtual 41, 3) := by decide +kernel
theorem dX4_move_50 : decode cX4_move 50 = .ok (.istore 5, 2) := by decide +kernel
theorem dX4_move_52 : decode cX4_move 52 = .ok (.iload 4, 2) := by decide +kernel
theorem dX4_move_54 : decode cX4_move 54 = .ok (.iload 5, 2) := by decide +kernel
theorem dX4_move_56 : decode cX4_move 56 = .ok (.invokestatic 45, 3) := by decide +kernel
theorem dX4_move_59 : decode cX4_move 59 = .ok (.ifCond .eq 8, 3) := by decide +kernel
theorem dX4_move_62 : decode cX4_move 62 = .ok (.iload 5, 2) := by decide +kernel
theorem dX4_move_64 : decode cX4_move 64 = .ok (.goto 8, 3) := by decide +kernel
theorem dX4_move_67 : decode cX4_move 67 = .ok (.iload 5, 2) := by decide +kernel
theorem dX4_move_69 : decode cX4_move 69 = .ok (.bipush 10, 2) := by decide +kernel
theorem dX4_move_71 : decode cX4_move 71 = .ok (.iadd, 1) := by decide +kernel
theorem dX4_move_72 : decode cX4_move 72 = .ok (.ireturn, 1) := by decide +kernel
set_option maxRecDepth 20000 in
theorem ggX4_nextCylinder_X4_length : GoodIn wsX4_nextCylinder wsX4_length := goodIn_r _ [5, 6, 7, 8, 9, 10, 11, 12, 42, 43] (by decide +kernel) (by decide +kernel)
set_option maxRecDepth 20000 in
theorem gX4_nextCylinder_X4_length : GoodIn wsX4_nextCylinder (wsV RX4 38 RX4 yX4_length wsX4_length) := goodIn_app (goodIn_of _ (by decide +kernel)) ggX4_nextCylinder_X4_length
set_option maxRecDepth 20000 in
theorem ggX4_nextCylinder_X1_allowMove : GoodIn wsX4_nextCylinder wsX1_allowMove := goodIn_r _ [17, 18, 8, 19, 20, 21, 22, 16, 23, 24, 25, 26, 27, 28, 29, 30, 31, 32, 33, 34, 35, 36, 37, 38, 39, 40, 41, 44, 45, 46] (by decide +kernel) (by decide +kernel)
set_option maxRecDepth 20000 in
theorem gX4_nextCylinder_X1_allowMove : GoodIn wsX4_nextCylinder (wsV RX4 28 RX1 yX1_allowMove wsX1_allowMove) := goodIn_app (goodIn_of _ (by decide +kernel)) ggX4_nextCylinder_X1_allowMove
theorem dX4_nextCylinder_0 : decode cX4_nextCylinder 0 = .ok (.aload_n 0, 1) := by decide +kernel
theorem dX4_nextCylinder_1 : decode cX4_nextCylinder 1 = .ok (.iload_n 2, 1) := by decide +kernel
theorem dX4_nextCylinder_2 : decode cX4_nextCylinder 2 = .ok (.invokevirtual 38, 3) := by decide +kernel
theorem dX4_nextCylinder_5 : decode cX4_nextCylinder 5 = .ok (.istore_n 3, 1) := by decide +kernel
theorem dX4_nextCylinder_6 : decode cX4_nextCylinder 6 = .ok (.iconst 0, 1) := by decide +kernel
theorem dX4_nextCylinder_7 : decode cX4_nextCylinder 7 = .ok (.istore 4, 2) := by decide +kernel
theorem dX4_nextCylinder_9 : decode cX4_nextCylinder 9 = .ok (.iload 4, 2) := by decide +kernel
theorem dX4_nextCylinder_11 : decode cX4_nextCylinder 11 = .ok (.bipush 6, 2) := by decide +kernel
theorem dX4_nextCylinder_13 : decode cX4_nextCylinder 13 = .ok (.if_icmp .ge 38, 3) := by decide +kernel
theorem dX4_nextCylinder_16 : decode cX4_nextCylinder 16 = .ok (.aload_n 0, 1) := by decide +kernel
theorem dX4_nextCylinder_17 : decode cX4_nextCylinder 17 = .ok (.iload_n 2, 1) := by decide +kernel
theorem dX4_nextCylinder_18 : decode cX4_nextCylinder 18 = .ok (.iconst 1, 1) := by decide +kernel
theorem dX4_nextCylinder_19 : decode cX4_nextCylinder 19 = .ok (.iload 4, 2) := by decide +kernel
theorem dX4_nextCylinder_21 : decode cX4_nextCylinder 21 = .ok (.ishl, 1) := by decide +kernel
theorem dX4_nextCylinder_22 : decode cX4_nextCylinder 22 = .ok (.ixor, 1) := by decide +kernel
theorem dX4_nextCylinder_23 : decode cX4_nextCylinder 23 = .ok (.invokevirtual 38, 3) := by decide +kernel
theorem dX4_nextCylinder_26 : decode cX4_nextCylinder 26 = .ok (.iload_n 3, 1) := by decide +kernel
theorem dX4_nextCylinder_27 : decode cX4_nextCylinder 27 = .ok (.iconst 1, 1) := by decide +kernel
theorem dX4_nextCylinder_28 : decode cX4_nextCylinder 28 = .ok (.isub, 1) := by decide +kernel
theorem dX4_nextCylinder_29 : decode cX4_nextCylinder 29 = .ok (.if_icmp .ne 16, 3) := by decide +kernel
theorem dX4_nextCylinder_32 : decode cX4_nextCylinder 32 = .ok (.aload_n 1, 1) := by decide +kernel
theorem dX4_nextCylinder_33 : decode cX4_nextCylinder 33 = .ok (.iload_n 2, 1) := by decide +kernel
theorem dX4_nextCylinder_34 : decode cX4_nextCylinder 34 = .ok (.iload 4, 2) := by decide +kernel
theorem dX4_nextCylinder_36 : decode cX4_nextCylinder 36 = .ok (.invokevirtual 28, 3) := by decide +kernel
theorem dX4_nextCylinder_39 : decode cX4_nextCylinder 39 = .ok (.ifCond .eq 6, 3) := by decide +kernel
theorem dX4_nextCylinder_42 : decode cX4_nextCylinder 42 = .ok (.iload 4, 2) := by decide +kernel
theorem dX4_nextCylinder_44 : decode cX4_nextCylinder 44 = .ok (.ireturn, 1) := by decide +kernel
theorem dX4_nextCylinder_45 : decode cX4_nextCylinder 45 = .ok (.iinc 4 1, 3) := by decide +kernel
theorem dX4_nextCylinder_48 : decode cX4_nextCylinder 48 = .ok (.goto (-39), 3) := by decide +kernel
theorem dX4_nextCylinder_51 : decode cX4_nextCylinder 51 = .ok (.iconst 0, 1) := by decide +kernel
theorem dX4_nextCylinder_52 : decode cX4_nextCylinder 52 = .ok (.ireturn, 1) := by decide +kernel
set_option maxRecDepth 20000 in
theorem ggX5_init_X3_init : GoodIn wsX5_init wsX3_init := goodIn_r _ [25, 26, 2, 3, 27, 28, 29, 30, 62, 63, 64] (by decide +kernel) (by decide +kernel)
set_option maxRecDepth 20000 in
theorem gX5_init_X3_init_n9 : GoodIn wsX5_init (wsX3_init) := ggX5_init_X3_init
set_option maxRecDepth 20000 in
theorem ggX5_init_X0_init : GoodIn wsX5_init wsX0_init := goodIn_r _ [32, 33, 2, 3, 27, 34, 35, 36, 70, 71, 72] (by decide +kernel) (by decide +kernel)
set_option maxRecDepth 20000 in
theorem gX5_init_X0_init_n18 : GoodIn wsX5_init (wsX0_init) := ggX5_init_X0_init
set_option maxRecDepth 20000 in
theorem ggX5_init_X1_init : GoodIn wsX5_init wsX1_init := goodIn_r _ [38, 39, 2, 3, 27, 40, 41, 42, 73, 74, 75] (by decide +kernel) (by decide +kernel)
set_option maxRecDepth 20000 in
theorem gX5_init_X1_init_n25 : GoodIn wsX5_init (wsX1_init) := ggX5_init_X1_init
set_option maxRecDepth 20000 in
theorem ggX5_init_X4_init : GoodIn wsX5_init wsX4_init := goodIn_r _ [45, 46, 2, 3, 27, 47, 48, 49, 50, 51, 52, 53, 54, 55, 76, 77] (by decide +kernel) (by decide +kernel)
set_option maxRecDepth 20000 in
theorem gX5_init_X4_init : GoodIn wsX5_init (wsX4_init) := ggX5_init_X4_init
set_option maxRecDepth 20000 in
theorem ggX5_init_X2_init : GoodIn wsX5_init wsX2_init := goodIn_r _ [58, 59, 2, 3, 27, 60, 61, 78, 79] (by decide +kernel) (by decide +kernel)
set_option maxRecDepth 20000 in
theorem gX5_init_X2_init : GoodIn wsX5_init (wsX2_init) := ggX5_init_X2_init
theorem dX5_init_0 : decode cX5_init 0 = .ok (.aload_n 0, 1) := by decide +kernel
theorem dX5_init_1 : decode cX5_init 1 = .ok (.invokespecial 1, 3) := by decide +kernel
theorem dX5_init_4 : decode cX5_init 4 = .ok (.aload_n 0, 1) := by decide +kernel
theorem dX5_init_5 : decode cX5_init 5 = .ok (.new 7, 3) := by decide +kernel
theorem dX5_init_8 : decode cX5_init 8 = .ok (.dup, 1) := by decide +kernel
theorem dX5_init_9 : decode cX5_init 9 = .ok (.invokespecial 9, 3) := by decide +kernel
theorem dX5_init_12 : decode cX5_init 12 = .ok (.putfield 10, 3) := by decide +kernel
theorem dX5_init_15 : decode cX5_init 15 = .ok (.aload_n 0, 1) := by decide +kernel
theorem dX5_init_16 : decode cX5_init 16 = .ok (.new 16, 3) := by decide +kernel
theorem dX5_init_19 : decode cX5_init 19 = .ok (.dup, 1) := by decide +kernel
theorem dX5_init_20 : decode cX5_init 20 = .ok (.invokespecial 18, 3) := by decide +kernel
theorem dX5_init_23 : decode cX5_init 23 = .ok (.putfield 19, 3) := by decide +kernel
theorem dX5_init_26 : decode cX5_init 26 = .ok (.aload_n 0, 1) := by decide +kernel
theorem dX5_init_27 : decode cX5_init 27 = .ok (.new 23, 3) := by decide +kernel
theorem dX5_init_30 : decode cX5_init 30 = .ok (.dup, 1) := by decide +kernel
theorem dX5_init_31 : decode cX5_init 31 = .ok (.invokespecial 25, 3) := by decide +kernel
theorem dX5_init_34 : decode cX5_init 34 = .ok (.putfield 26, 3) := by decide +kernel
theorem dX5_init_37 : decode cX5_init 37 = .ok (.aload_n 0, 1) := by decide +kernel
theorem dX5_init_38 : decode cX5_init 38 = .ok (.new 30, 3) := by decide +kernel
theorem dX5_init_41 : decode cX5_init 41 = .ok (.dup, 1) := by decide +kernel
theorem dX5_init_42 : decode cX5_init 42 = .ok (.invokespecial 32, 3) := by decide +kernel
theorem dX5_init_45 : decode cX5_init 45 = .ok (.putfield 33, 3) := by decide +kernel
theorem dX5_init_48 : decode cX5_init 48 = .ok (.aload_n 0, 1) := by decide +kernel
theorem dX5_init_49 : decode cX5_init 49 = .ok (.new 37, 3) := by decide +kernel
theorem dX5_init_52 : decode cX5_init 52 = .ok (.dup, 1) := by decide +kernel
theorem dX5_init_53 : decode cX5_init 53 = .ok (.invokespecial 39, 3) := by decide +kernel
theorem dX5_init_56 : decode cX5_init 56 = .ok (.putfield 40, 3) := by decide +kernel
theorem dX5_init_59 : decode cX5_init 59 = .ok (.return_, 1) := by decide +kernel
set_option maxRecDepth 20000 in
theorem ggX5_step_X5_isState : GoodIn wsX5_step wsX5_isState := goodIn_r _ [5, 6, 7, 4, 8] (by decide +kernel) (by decide +kernel)
set_option maxRecDepth 20000 in
theorem gX5_step_X5_isState : GoodIn wsX5_step (va_wsS RX5 44 yX5_isState wsX5_isState) := goodIn_app (goodIn_of _ (by decide +kernel)) ggX5_step_X5_isState
set_option maxRecDepth 20000 in
theorem ggX5_step_X3_size : GoodIn wsX5_step wsX3_size := goodIn_r _ [13, 14, 28, 29, 30] (by decide +kernel) (by decide +kernel)
set_option maxRecDepth 20000 in
theorem gX5_step_X3_size : GoodIn wsX5_step (wsV RX5 48 RX3 yX3_size wsX3_size) := goodIn_app (goodIn_of _ (by decide +kernel)) ggX5_step_X3_size
set_option maxRecDepth 20000 in
theorem ggX5_step_X3_add : GoodIn wsX5_step wsX3_add := goodIn_r _ [18, 14, 19, 20, 21, 4, 22, 28, 29, 30] (by decide +kernel) (by decide +kernel)
set_option maxRecDepth 20000 in
theorem gX5_step_X3_add : GoodIn wsX5_step (wsV RX5 52 RX3 yX3_add wsX3_add) := goodIn_app (goodIn_of _ (by decide +kernel)) ggX5_step_X3_add
theorem dX5_step_0 : decode cX5_step 0 = .ok (.iload_n 1, 1) := by decide +kernel
theorem dX5_step_1 : decode cX5_step 1 = .ok (.invokestatic 44, 3) := by decide +kernel
theorem dX5_step_4 : decode cX5_step 4 = .ok (.ifCond .eq 10, 3) := by decide +kernel
theorem dX5_step_7 : decode cX5_step 7 = .ok (.iload_n 2, 1) := by decide +kernel
theorem dX5_step_8 : decode cX5_step 8 = .ok (.invokestatic 44, 3) := by decide +kernel
theorem dX5_step_11 : decode cX5_step 11 = .ok (.ifCond .ne 6, 3) := by decide +kernel
theorem dX5_step_14 : decode cX5_step 14 = .ok (.bipush (-2), 2) := by decide +kernel
theorem dX5_step_16 : decode cX5_step 16 = .ok (.ireturn, 1) := by decide +kernel
theorem dX5_step_17 : decode cX5_step 17 = .ok (.iload_n 1, 1) := by decide +kernel
theorem dX5_step_18 : decode cX5_step 18 = .ok (.iload_n 2, 1) := by decide +kernel
theorem dX5_step_19 : decode cX5_step 19 = .ok (.ior, 1) := by decide +kernel
theorem dX5_step_20 : decode cX5_step 20 = .ok (.ifCond .eq 9, 3) := by decide +kernel
theorem dX5_step_23 : decode cX5_step 23 = .ok (.iload_n 1, 1) := by decide +kernel
theorem dX5_step_24 : decode cX5_step 24 = .ok (.iload_n 2, 1) := by decide +kernel
theorem dX5_step_25 : decode cX5_step 25 = .ok (.iand, 1) := by decide +kernel
theorem dX5_step_26 : decode cX5_step 26 = .ok (.ifCond .eq 6, 3) := by decide +kernel
theorem dX5_step_29 : decode cX5_step 29 = .ok (.bipush (-2), 2) := by decide +kernel
theorem dX5_step_31 : decode cX5_step 31 = .ok (.ireturn, 1) := by decide +kernel
theorem dX5_step_32 : decode cX5_step 32 = .ok (.aload_n 0, 1) := by decide +kernel
theorem dX5_step_33 : decode cX5_step 33 = .ok (.getfield 10, 3) := by decide +kernel
theorem dX5_step_36 : decode cX5_step 36 = .ok (.invokevirtual 48, 3) := by decide +kernel
theorem dX5_step_39 : decode cX5_step 39 = .ok (.bipush 16, 2) := by decide +kernel
theorem dX5_step_41 : decode cX5_step 41 = .ok (.if_icmp .lt 6, 3) := by decide +kernel
theorem dX5_step_44 : decode cX5_step 44 = .ok (.bipush (-4), 2) := by decide +kernel
theorem dX5_step_46 : decode cX5_step 46 = .ok (.ireturn, 1) := by decide +kernel
theorem dX5_step_47 : decode cX5_step 47 = .ok (.aload_n 0, 1) := by decide +kernel
theorem dX5_step_48 : decode cX5_step 48 = .ok (.getfield 10, 3) := by decide +kernel
theorem dX5_step_51 : decode cX5_step 51 = .ok (.iload_n 1, 1) := by decide +kernel
theorem dX5_step_52 : decode cX5_step 52 = .ok (.iload_n 2, 1) := by decide +kernel
theorem dX5_step_53 : decode cX5_step 53 = .ok (.invokevirtual 52, 3) := by decide +kernel
theorem dX5_step_56 : decode cX5_step 56 = .ok (.aload_n 0, 1) := by decide +kernel
theorem dX5_step_57 : decode cX5_step 57 = .ok (.getfield 10, 3) := by decide +kernel
theorem dX5_step_60 : decode cX5_step 60 = .ok (.invokevirtual 48, 3) := by decide +kernel
theorem dX5_step_63 : decode cX5_step 63 = .ok (.ireturn, 1) := by decide +kernel
set_option maxRecDepth 20000 in
theorem ggX5_drop_X3_size : GoodIn wsX5_drop wsX3_size := goodIn_r _ [6, 7, 17, 18, 19] (by decide +kernel) (by decide +kernel)
set_option maxRecDepth 20000 in
theorem gX5_drop_X3_size : GoodIn wsX5_drop (wsV RX5 48 RX3 yX3_size wsX3_size) := goodIn_app (goodIn_of _ (by decide +kernel)) ggX5_drop_X3_size
set_option maxRecDepth 20000 in
theorem ggX5_drop_X3_removeLast : GoodIn wsX5_drop wsX3_removeLast := goodIn_r _ [11, 7, 17, 18, 19] (by decide +kernel) (by decide +kernel)
set_option maxRecDepth 20000 in
theorem gX5_drop_X3_removeLast : GoodIn wsX5_drop (wsV RX5 56 RX3 yX3_removeLast wsX3_removeLast) := goodIn_app (goodIn_of _ (by decide +kernel)) ggX5_drop_X3_removeLast
theorem dX5_drop_0 : decode cX5_drop 0 = .ok (.aload_n 0, 1) := by decide +kernel
theorem dX5_drop_1 : decode cX5_drop 1 = .ok (.getfield 10, 3) := by decide +kernel
theorem dX5_drop_4 : decode cX5_drop 4 = .ok (.invokevirtual 48, 3) := by decide +kernel
theorem dX5_drop_7 : decode cX5_drop 7 = .ok (.ifCond .ne 6, 3) := by decide +kernel
theorem dX5_drop_10 : decode cX5_drop 10 = .ok (.bipush (-3), 2) := by decide +kernel
theorem dX5_drop_12 : decode cX5_drop 12 = .ok (.ireturn, 1) := by decide +kernel
theorem dX5_drop_13 : decode cX5_drop 13 = .ok (.aload_n 0, 1) := by decide +kernel
theorem dX5_drop_14 : decode cX5_drop 14 = .ok (.getfield 10, 3) := by decide +kernel
theorem dX5_drop_17 : decode cX5_drop 17 = .ok (.invokevirtual 56, 3) := by decide +kernel
theorem dX5_drop_20 : decode cX5_drop 20 = .ok (.aload_n 0, 1) := by decide +kernel
theorem dX5_drop_21 : decode cX5_drop 21 = .ok (.getfield 10, 3) := by decide +kernel
theorem dX5_drop_24 : decode cX5_drop 24 = .ok (.invokevirtual 48, 3) := by decide +kernel
theorem dX5_drop_27 : decode cX5_drop 27 = .ok (.ireturn, 1) := by decide +kernel
set_option maxRecDepth 20000 in
theorem ggX5_sound_X3_firstWrong : GoodIn wsX5_sound wsX3_firstWrong := goodIn_r _ [6, 7, 8, 9, 10, 11, 12, 13, 14, 15, 21, 22, 23] (by decide +kernel) (by decide +kernel)
set_option maxRecDepth 20000 in
theorem gX5_sound_X3_firstWrong : GoodIn wsX5_sound (wsV RX5 59 RX3 yX3_firstWrong wsX3_firstWrong) := goodIn_app (goodIn_of _ (by decide +kernel)) ggX5_sound_X3_firstWrong
theorem dX5_sound_0 : decode cX5_sound 0 = .ok (.aload_n 0, 1) := by decide +kernel
theorem dX5_sound_1 : decode cX5_sound 1 = .ok (.getfield 10, 3) := by decide +kernel
theorem dX5_sound_4 : decode cX5_sound 4 = .ok (.invokevirtual 59, 3) := by decide +kernel
theorem dX5_sound_7 : decode cX5_sound 7 = .ok (.ireturn, 1) := by decide +kernel
set_option maxRecDepth 20000 in
theorem ggX5_state_X3_size : GoodIn wsX5_state wsX3_size := goodIn_r _ [6, 7, 36, 37, 38] (by decide +kernel) (by decide +kernel)
set_option maxRecDepth 20000 in
theorem gX5_state_X3_size : GoodIn wsX5_state (wsV RX5 48 RX3 yX3_size wsX3_size) := goodIn_app (goodIn_of _ (by decide +kernel)) ggX5_state_X3_size
set_option maxRecDepth 20000 in
theorem ggX5_state_X5_isBelow : GoodIn wsX5_state wsX5_isBelow := goodIn_r _ [11] (by decide +kernel) (by decide +kernel)
set_option maxRecDepth 20000 in
theorem gX5_state_X5_isBelow : GoodIn wsX5_state (va_wsS RX5 62 yX5_isBelow wsX5_isBelow) := goodIn_app (goodIn_of _ (by decide +kernel)) ggX5_state_X5_isBelow
set_option maxRecDepth 20000 in
theorem ggX5_state_X3_isSound : GoodIn wsX5_state wsX3_isSound := goodIn_r _ [15, 16, 17, 18, 5, 19, 7, 20, 21, 22, 10, 23, 24, 25, 26, 36, 37, 38] (by decide +kernel) (by decide +kernel)
set_option maxRecDepth 20000 in
theorem gX5_state_X3_isSound : GoodIn wsX5_state (wsV RX5 66 RX3 yX3_isSound wsX3_isSound) := goodIn_app (goodIn_of _ (by decide +kernel)) ggX5_state_X3_isSound
set_option maxRecDepth 20000 in
theorem ggX5_state_X3_stateAt : GoodIn wsX5_state wsX3_stateAt := goodIn_r _ [30, 7, 21, 9, 10, 11, 36, 37, 38] (by decide +kernel) (by decide +kernel)
set_option maxRecDepth 20000 in
theorem gX5_state_X3_stateAt : GoodIn wsX5_state (wsV RX5 70 RX3 yX3_stateAt wsX3_stateAt) := goodIn_app (goodIn_of _ (by decide +kernel)) ggX5_state_X3_stateAt
theorem dX5_state_0 : decode cX5_state 0 = .ok (.iload_n 1, 1) := by decide +kernel
theorem dX5_state_1 : decode cX5_state 1 = .ok (.aload_n 0, 1) := by decide +kernel
theorem dX5_state_2 : decode cX5_state 2 = .ok (.getfield 10, 3) := by decide +kernel
theorem dX5_state_5 : decode cX5_state 5 = .ok (.invokevirtual 48, 3) := by decide +kernel
theorem dX5_state_8 : decode cX5_state 8 = .ok (.invokestatic 62, 3) := by decide +kernel
theorem dX5_state_11 : decode cX5_state 11 = .ok (.ifCond .ne 6, 3) := by decide +kernel
theorem dX5_state_14 : decode cX5_state 14 = .ok (.bipush (-2), 2) := by decide +kernel
theorem dX5_state_16 : decode cX5_state 16 = .ok (.ireturn, 1) := by decide +kernel
theorem dX5_state_17 : decode cX5_state 17 = .ok (.aload_n 0, 1) := by decide +kernel
theorem dX5_state_18 : decode cX5_state 18 = .ok (.getfield 10, 3) := by decide +kernel
theorem dX5_state_21 : decode cX5_state 21 = .ok (.invokevirtual 66, 3) := by decide +kernel
theorem dX5_state_24 : decode cX5_state 24 = .ok (.ifCond .ne 6, 3) := by decide +kernel
theorem dX5_state_27 : decode cX5_state 27 = .ok (.bipush (-3), 2) := by decide +kernel
theorem dX5_state_29 : decode cX5_state 29 = .ok (.ireturn, 1) := by decide +kernel
theorem dX5_state_30 : decode cX5_state 30 = .ok (.aload_n 0, 1) := by decide +kernel
theorem dX5_state_31 : decode cX5_state 31 = .ok (.getfield 10, 3) := by decide +kernel
theorem dX5_state_34 : decode cX5_state 34 = .ok (.iload_n 1, 1) := by decide +kernel
theorem dX5_state_35 : decode cX5_state 35 = .ok (.invokevirtual 70, 3) := by decide +kernel
theorem dX5_state_38 : decode cX5_state 38 = .ok (.ireturn, 1) := by decide +kernel
set_option maxRecDepth 20000 in
theorem ggX5_clash_X5_isBelow : GoodIn wsX5_clash wsX5_isBelow := goodIn_r _ [5] (by decide +kernel) (by decide +kernel)
set_option maxRecDepth 20000 in
theorem gX5_clash_X5_isBelow : GoodIn wsX5_clash (va_wsS RX5 62 yX5_isBelow wsX5_isBelow) := goodIn_app (goodIn_of _ (by decide +kernel)) ggX5_clash_X5_isBelow
set_option maxRecDepth 20000 in
theorem ggX5_clash_X3_isSound : GoodIn wsX5_clash wsX3_isSound := goodIn_r _ [10, 11, 12, 13, 9, 14, 15, 16, 17, 18, 4, 19, 20, 21, 22, 101, 102, 103] (by decide +kernel) (by decide +kernel)
set_option maxRecDepth 20000 in
theorem gX5_clash_X3_isSound : GoodIn wsX5_clash (wsV RX5 66 RX3 yX3_isSound wsX3_isSound) := goodIn_app (goodIn_of _ (by decide +kernel)) ggX5_clash_X3_isSound
set_option maxRecDepth 20000 in
theorem ggX5_clash_X5_firstClash : GoodIn wsX5_clash wsX5_firstClash := goodIn_r _ [26, 27, 1, 28, 29, 30, 31, 32, 33, 34, 35, 9, 36, 15, 37, 38, 39, 40, 41, 42, 43, 44, 45, 46, 47, 48, 49, 50, 51, 52, 53, 16, 3, 4, 5, 54, 55, 56, 57, 58, 59, 60, 61, 62, 63, 64, 65, 66, 67, 68, 69, 70, 71, 72, 73, 74, 75, 76, 77, 78, 79, 80, 81, 82, 83, 84, 85, 17, 86, 18, 19, 20, 21, 22, 87, 88, 89, 90, 91, 92, 93, 94, 95, 96, 97, 98, 99, 100, 101, 102, 103, 104, 105, 106] (by decide +kernel) (by decide +kernel)
set_option maxRecDepth 20000 in
theorem gX5_clash_X5_firstClash : GoodIn wsX5_clash (wsV RX5 74 RX5 yX5_firstClash wsX5_firstClash) := goodIn_app (goodIn_of _ (by decide +kernel)) ggX5_clash_X5_firstClash
theorem dX5_clash_0 : decode cX5_clash 0 = .ok (.iload_n 1, 1) := by decide +kernel
theorem dX5_clash_1 : decode cX5_clash 1 = .ok (.iconst 2, 1) := by decide +kernel
theorem dX5_clash_2 : decode cX5_clash 2 = .ok (.invokestatic 62, 3) := by decide +kernel
theorem dX5_clash_5 : decode cX5_clash 5 = .ok (.ifCond .ne 6, 3) := by decide +kernel
theorem dX5_clash_8 : decode cX5_clash 8 = .ok (.bipush (-2), 2) := by decide +kernel
theorem dX5_clash_10 : decode cX5_clash 10 = .ok (.ireturn, 1) := by decide +kernel
theorem dX5_clash_11 : decode cX5_clash 11 = .ok (.aload_n 0, 1) := by decide +kernel
theorem dX5_clash_12 : decode cX5_clash 12 = .ok (.getfield 10, 3) := by decide +kernel
theorem dX5_clash_15 : decode cX5_clash 15 = .ok (.invokevirtual 66, 3) := by decide +kernel
theorem dX5_clash_18 : decode cX5_clash 18 = .ok (.ifCond .ne 6, 3) := by decide +kernel
theorem dX5_clash_21 : decode cX5_clash 21 = .ok (.bipush (-3), 2) := by decide +kernel
theorem dX5_clash_23 : decode cX5_clash 23 = .ok (.ireturn, 1) := by decide +kernel
theorem dX5_clash_24 : decode cX5_clash 24 = .ok (.aload_n 0, 1) := by decide +kernel
theorem dX5_clash_25 : decode cX5_clash 25 = .ok (.iload_n 1, 1) := by decide +kernel
theorem dX5_clash_26 : decode cX5_clash 26 = .ok (.invokevirtual 74, 3) := by decide +kernel
theorem dX5_clash_29 : decode cX5_clash 29 = .ok (.ireturn, 1) := by decide +kernel
set_option maxRecDepth 20000 in
theorem ggX5_clashOf_X5_isBelow : GoodIn wsX5_clashOf wsX5_isBelow := goodIn_r _ [5] (by decide +kernel) (by decide +kernel)
set_option maxRecDepth 20000 in
theorem gX5_clashOf_X5_isBelow : GoodIn wsX5_clashOf (va_wsS RX5 62 yX5_isBelow wsX5_isBelow) := goodIn_app (goodIn_of _ (by decide +kernel)) ggX5_clashOf_X5_isBelow
set_option maxRecDepth 20000 in
theorem ggX5_clashOf_X3_isSound : GoodIn wsX5_clashOf wsX3_isSound := goodIn_r _ [10, 11, 12, 13, 9, 14, 15, 16, 17, 18, 4, 19, 20, 21, 22, 107, 108, 109] (by decide +kernel) (by decide +kernel)
set_option maxRecDepth 20000 in
theorem gX5_clashOf_X3_isSound : GoodIn wsX5_clashOf (wsV RX5 66 RX3 yX3_isSound wsX3_isSound) := goodIn_app (goodIn_of _ (by decide +kernel)) ggX5_clashOf_X3_isSound
set_option maxRecDepth 20000 in
theorem ggX5_clashOf_X5_firstClash : GoodIn wsX5_clashOf wsX5_firstClash := goodIn_r _ [26, 27, 1, 28, 29, 30, 31, 32, 33, 34, 35, 9, 36, 15, 37, 38, 39, 40, 41, 42, 43, 44, 45, 46, 47, 48, 49, 50, 51, 52, 53, 16, 3, 4, 5, 54, 55, 56, 57, 58, 59, 60, 61, 62, 63, 64, 65, 66, 67, 68, 69, 70, 71, 72, 73, 74, 75, 76, 77, 78, 79, 80, 81, 82, 83, 84, 85, 17, 86, 18, 19, 20, 21, 22, 87, 88, 89, 90, 91, 92, 93, 94, 95, 102, 103, 104, 105, 106, 107, 108, 109, 110, 111, 112] (by decide +kernel) (by decide +kernel)
set_option maxRecDepth 20000 in
theorem gX5_clashOf_X5_firstClash : GoodIn wsX5_clashOf (wsV RX5 74 RX5 yX5_firstClash wsX5_firstClash) := goodIn_app (goodIn_of _ (by decide +kernel)) ggX5_clashOf_X5_firstClash
set_option maxRecDepth 20000 in
theorem ggX5_clashOf_X5_clashing : GoodIn wsX5_clashOf wsX5_clashing := goodIn_r _ [72, 1, 68, 34, 35, 9, 36, 15, 73, 74, 75, 4, 76, 27, 77, 78, 79, 80, 81, 51, 52, 53, 16, 3, 5, 82, 83, 84, 85, 17, 86, 18, 19, 20, 21, 22, 87, 88, 89, 31, 90, 66, 67, 91, 92, 93, 94, 95, 56, 57, 58, 59, 60, 61, 102, 103, 104, 105, 106, 107, 108, 109, 110, 111, 112] (by decide +kernel) (by decide +kernel)
set_option maxRecDepth 20000 in
theorem gX5_clashOf_X5_clashing : GoodIn wsX5_clashOf (wsV RX5 77 RX5 yX5_clashing wsX5_clashing) := goodIn_app (goodIn_of _ (by decide +kernel)) ggX5_clashOf_X5_clashing
set_option maxRecDepth 20000 in
theorem ggX5_clashOf_X5_leastOf : GoodIn wsX5_clashOf wsX5_leastOf := goodIn_r _ [98, 99, 100, 4, 101] (by decide +kernel) (by decide +kernel)
set_option maxRecDepth 20000 in
theorem gX5_clashOf_X5_leastOf : GoodIn wsX5_clashOf (va_wsS RX5 81 yX5_leastOf wsX5_leastOf) := goodIn_app (goodIn_of _ (by decide +kernel)) ggX5_clashOf_X5_leastOf
theorem dX5_clashOf_0 : decode cX5_clashOf 0 = .ok (.iload_n 1, 1) := by decide +kernel
theorem dX5_clashOf_1 : decode cX5_clashOf 1 = .ok (.iconst 2, 1) := by decide +kernel
theorem dX5_clashOf_2 : decode cX5_clashOf 2 = .ok (.invokestatic 62, 3) := by decide +kernel
theorem dX5_clashOf_5 : decode cX5_clashOf 5 = .ok (.ifCond .ne 6, 3) := by decide +kernel
theorem dX5_clashOf_8 : decode cX5_clashOf 8 = .ok (.bipush (-2), 2) := by decide +kernel
theorem dX5_clashOf_10 : decode cX5_clashOf 10 = .ok (.ireturn, 1) := by decide +kernel
theorem dX5_clashOf_11 : decode cX5_clashOf 11 = .ok (.aload_n 0, 1) := by decide +kernel
theorem dX5_clashOf_12 : decode cX5_clashOf 12 = .ok (.getfield 10, 3) := by decide +kernel
theorem dX5_clashOf_15 : decode cX5_clashOf 15 = .ok (.invokevirtual 66, 3) := by decide +kernel
theorem dX5_clashOf_18 : decode cX5_clashOf 18 = .ok (.ifCond .ne 6, 3) := by decide +kernel
theorem dX5_clashOf_21 : decode cX5_clashOf 21 = .ok (.bipush (-3), 2) := by decide +kernel
theorem dX5_clashOf_23 : decode cX5_clashOf 23 = .ok (.ireturn, 1) := by decide +kernel
theorem dX5_clashOf_24 : decode cX5_clashOf 24 = .ok (.aload_n 0, 1) := by decide +kernel
theorem dX5_clashOf_25 : decode cX5_clashOf 25 = .ok (.iload_n 1, 1) := by decide +kernel
theorem dX5_clashOf_26 : decode cX5_clashOf 26 = .ok (.invokevirtual 74, 3) := by decide +kernel
theorem dX5_clashOf_29 : decode cX5_clashOf 29 = .ok (.istore_n 2, 1) := by decide +kernel
theorem dX5_clashOf_30 : decode cX5_clashOf 30 = .ok (.iload_n 2, 1) := by decide +kernel
theorem dX5_clashOf_31 : decode cX5_clashOf 31 = .ok (.iconst (-1), 1) := by decide +kernel
theorem dX5_clashOf_32 : decode cX5_clashOf 32 = .ok (.if_icmp .ne 7, 3) := by decide +kernel
theorem dX5_clashOf_35 : decode cX5_clashOf 35 = .ok (.iconst (-1), 1) := by decide +kernel
theorem dX5_clashOf_36 : decode cX5_clashOf 36 = .ok (.goto 12, 3) := by decide +kernel
theorem dX5_clashOf_39 : decode cX5_clashOf 39 = .ok (.aload_n 0, 1) := by decide +kernel
theorem dX5_clashOf_40 : decode cX5_clashOf 40 = .ok (.iload_n 1, 1) := by decide +kernel
theorem dX5_clashOf_41 : decode cX5_clashOf 41 = .ok (.iload_n 2, 1) := by decide +kernel
theorem dX5_clashOf_42 : decode cX5_clashOf 42 = .ok (.invokevirtual 77, 3) := by decide +kernel
theorem dX5_clashOf_45 : decode cX5_clashOf 45 = .ok (.invokestatic 81, 3) := by decide +kernel
theorem dX5_clashOf_48 : decode cX5_clashOf 48 = .ok (.ireturn, 1) := by decide +kernel
set_option maxRecDepth 20000 in
theorem ggX5_groups_X3_isSound : GoodIn wsX5_groups wsX3_isSound := goodIn_r _ [7, 8, 9, 10, 6, 11, 12, 13, 14, 15, 16, 17, 18, 19, 20, 72, 73, 74] (by decide +kernel) (by decide +kernel)
set_option maxRecDepth 20000 in
theorem gX5_groups_X3_isSound : GoodIn wsX5_groups (wsV RX5 66 RX3 yX3_isSound wsX3_isSound) := goodIn_app (goodIn_of _ (by decide +kernel)) ggX5_groups_X3_isSound
set_option maxRecDepth 20000 in
theorem ggX5_groups_X0_find : GoodIn wsX5_groups wsX0_find := goodIn_r _ [25, 26, 27, 28, 6, 29, 12, 30, 31, 32, 24, 33, 34, 35, 36, 37, 38, 39, 40, 41, 42, 43, 44, 45, 46, 13, 47, 16, 48, 49, 50, 51, 52, 53, 54, 55, 56, 57, 58, 59, 60, 61, 62, 72, 73, 74, 75, 76, 77] (by decide +kernel) (by decide +kernel)
set_option maxRecDepth 20000 in
theorem gX5_groups_X0_find : GoodIn wsX5_groups (wsV RX5 84 RX0 yX0_find wsX0_find) := goodIn_app (goodIn_of _ (by decide +kernel)) ggX5_groups_X0_find
set_option maxRecDepth 20000 in
theorem ggX5_groups_X0_size : GoodIn wsX5_groups wsX0_size := goodIn_r _ [66, 61, 75, 76, 77] (by decide +kernel) (by decide +kernel)
set_option maxRecDepth 20000 in
theorem gX5_groups_X0_size : GoodIn wsX5_groups (wsV RX5 88 RX0 yX0_size wsX0_size) := goodIn_app (goodIn_of _ (by decide +kernel)) ggX5_groups_X0_size
theorem dX5_groups_0 : decode cX5_groups 0 = .ok (.aload_n 0, 1) := by decide +kernel
theorem dX5_groups_1 : decode cX5_groups 1 = .ok (.getfield 10, 3) := by decide +kernel
theorem dX5_groups_4 : decode cX5_groups 4 = .ok (.invokevirtual 66, 3) := by decide +kernel
theorem dX5_groups_7 : decode cX5_groups 7 = .ok (.ifCond .ne 6, 3) := by decide +kernel
theorem dX5_groups_10 : decode cX5_groups 10 = .ok (.bipush (-3), 2) := by decide +kernel
theorem dX5_groups_12 : decode cX5_groups 12 = .ok (.ireturn, 1) := by decide +kernel
theorem dX5_groups_13 : decode cX5_groups 13 = .ok (.aload_n 0, 1) := by decide +kernel
theorem dX5_groups_14 : decode cX5_groups 14 = .ok (.getfield 19, 3) := by decide +kernel
theorem dX5_groups_17 : decode cX5_groups 17 = .ok (.aload_n 0, 1) := by decide +kernel
theorem dX5_groups_18 : decode cX5_groups 18 = .ok (.getfield 10, 3) := by decide +kernel
theorem dX5_groups_21 : decode cX5_groups 21 = .ok (.invokevirtual 84, 3) := by decide +kernel
theorem dX5_groups_24 : decode cX5_groups 24 = .ok (.aload_n 0, 1) := by decide +kernel
theorem dX5_groups_25 : decode cX5_groups 25 = .ok (.getfield 19, 3) := by decide +kernel
theorem dX5_groups_28 : decode cX5_groups 28 = .ok (.invokevirtual 88, 3) := by decide +kernel
theorem dX5_groups_31 : decode cX5_groups 31 = .ok (.ireturn, 1) := by decide +kernel
set_option maxRecDepth 20000 in
theorem ggX5_cut_X3_isSound : GoodIn wsX5_cut wsX3_isSound := goodIn_r _ [7, 8, 9, 10, 6, 11, 12, 13, 14, 15, 16, 17, 18, 19, 20, 76, 77, 78] (by decide +kernel) (by decide +kernel)
set_option maxRecDepth 20000 in
theorem gX5_cut_X3_isSound : GoodIn wsX5_cut (wsV RX5 66 RX3 yX3_isSound wsX3_isSound) := goodIn_app (goodIn_of _ (by decide +kernel)) ggX5_cut_X3_isSound
set_option maxRecDepth 20000 in
theorem ggX5_cut_X0_find : GoodIn wsX5_cut wsX0_find := goodIn_r _ [25, 26, 27, 28, 6, 29, 12, 30, 31, 32, 24, 33, 34, 35, 36, 37, 38, 39, 40, 41, 42, 43, 44, 45, 46, 13, 47, 16, 48, 49, 50, 51, 52, 53, 54, 55, 56, 57, 58, 59, 60, 61, 62, 76, 77, 78, 79, 80, 81] (by decide +kernel) (by decide +kernel)
set_option maxRecDepth 20000 in
theorem gX5_cut_X0_find : GoodIn wsX5_cut (wsV RX5 84 RX0 yX0_find wsX0_find) := goodIn_app (goodIn_of _ (by decide +kernel)) ggX5_cut_X0_find
set_option maxRecDepth 20000 in
theorem ggX5_cut_X0_size : GoodIn wsX5_cut wsX0_size := goodIn_r _ [66, 61, 79, 80, 81] (by decide +kernel) (by decide +kernel)
set_option maxRecDepth 20000 in
theorem gX5_cut_X0_size : GoodIn wsX5_cut (wsV RX5 88 RX0 yX0_size wsX0_size) := goodIn_app (goodIn_of _ (by decide +kernel)) ggX5_cut_X0_size
set_option maxRecDepth 20000 in
theorem ggX5_cut_X0_cutAt : GoodIn wsX5_cut wsX0_cutAt := goodIn_r _ [70, 61, 62, 47, 16, 48, 79, 80, 81] (by decide +kernel) (by decide +kernel)
set_option maxRecDepth 20000 in
theorem gX5_cut_X0_cutAt : GoodIn wsX5_cut (wsV RX5 89 RX0 yX0_cutAt wsX0_cutAt) := goodIn_app (goodIn_of _ (by decide +kernel)) ggX5_cut_X0_cutAt
theorem dX5_cut_0 : decode cX5_cut 0 = .ok (.iload_n 1, 1) := by decide +kernel
theorem dX5_cut_1 : decode cX5_cut 1 = .ok (.ifCond .ge 6, 3) := by decide +kernel
theorem dX5_cut_4 : decode cX5_cut 4 = .ok (.bipush (-2), 2) := by decide +kernel
theorem dX5_cut_6 : decode cX5_cut 6 = .ok (.ireturn, 1) := by decide +kernel
theorem dX5_cut_7 : decode cX5_cut 7 = .ok (.aload_n 0, 1) := by decide +kernel
theorem dX5_cut_8 : decode cX5_cut 8 = .ok (.getfield 10, 3) := by decide +kernel
theorem dX5_cut_11 : decode cX5_cut 11 = .ok (.invokevirtual 66, 3) := by decide +kernel
theorem dX5_cut_14 : decode cX5_cut 14 = .ok (.ifCond .ne 6, 3) := by decide +kernel
theorem dX5_cut_17 : decode cX5_cut 17 = .ok (.bipush (-3), 2) := by decide +kernel
theorem dX5_cut_19 : decode cX5_cut 19 = .ok (.ireturn, 1) := by decide +kernel
theorem dX5_cut_20 : decode cX5_cut 20 = .ok (.aload_n 0, 1) := by decide +kernel
theorem dX5_cut_21 : decode cX5_cut 21 = .ok (.getfield 19, 3) := by decide +kernel
theorem dX5_cut_24 : decode cX5_cut 24 = .ok (.aload_n 0, 1) := by decide +kernel
theorem dX5_cut_25 : decode cX5_cut 25 = .ok (.getfield 10, 3) := by decide +kernel
theorem dX5_cut_28 : decode cX5_cut 28 = .ok (.invokevirtual 84, 3) := by decide +kernel
theorem dX5_cut_31 : decode cX5_cut 31 = .ok (.iload_n 1, 1) := by decide +kernel
theorem dX5_cut_32 : decode cX5_cut 32 = .ok (.aload_n 0, 1) := by decide +kernel
theorem dX5_cut_33 : decode cX5_cut 33 = .ok (.getfield 19, 3) := by decide +kernel
theorem dX5_cut_36 : decode cX5_cut 36 = .ok (.invokevirtual 88, 3) := by decide +kernel
theorem dX5_cut_39 : decode cX5_cut 39 = .ok (.if_icmp .ge 14, 3) := by decide +kernel
theorem dX5_cut_42 : decode cX5_cut 42 = .ok (.aload_n 0, 1) := by decide +kernel
theorem dX5_cut_43 : decode cX5_cut 43 = .ok (.getfield 19, 3) := by decide +kernel
theorem dX5_cut_46 : decode cX5_cut 46 = .ok (.iload_n 1, 1) := by decide +kernel
theorem dX5_cut_47 : decode cX5_cut 47 = .ok (.invokevirtual 89, 3) := by decide +kernel
theorem dX5_cut_50 : decode cX5_cut 50 = .ok (.goto 5, 3) := by decide +kernel
theorem dX5_cut_53 : decode cX5_cut 53 = .ok (.bipush (-2), 2) := by decide +kernel
theorem dX5_cut_55 : decode cX5_cut 55 = .ok (.ireturn, 1) := by decide +kernel
set_option maxRecDepth 20000 in
theorem ggX5_memories_X3_isSound : GoodIn wsX5_memories wsX3_isSound := goodIn_r _ [6, 7, 8, 9, 5, 10, 11, 12, 13, 14, 15, 16, 17, 18, 19, 37, 38, 39] (by decide +kernel) (by decide +kernel)
set_option maxRecDepth 20000 in
theorem gX5_memories_X3_isSound : GoodIn wsX5_memories (wsV RX5 66 RX3 yX3_isSound wsX3_isSound) := goodIn_app (goodIn_of _ (by decide +kernel)) ggX5_memories_X3_isSound
set_option maxRecDepth 20000 in
theorem ggX5_memories_X3_mostAlike : GoodIn wsX5_memories wsX3_mostAlike := goodIn_r _ [23, 11, 13, 24, 25, 26, 27, 28, 29, 30, 5, 31, 37, 38, 39] (by decide +kernel) (by decide +kernel)
set_option maxRecDepth 20000 in
theorem gX5_memories_X3_mostAlike : GoodIn wsX5_memories (wsV RX5 92 RX3 yX3_mostAlike wsX3_mostAlike) := goodIn_app (goodIn_of _ (by decide +kernel)) ggX5_memories_X3_mostAlike
theorem dX5_memories_0 : decode cX5_memories 0 = .ok (.aload_n 0, 1) := by decide +kernel
theorem dX5_memories_1 : decode cX5_memories 1 = .ok (.getfield 10, 3) := by decide +kernel
theorem dX5_memories_4 : decode cX5_memories 4 = .ok (.invokevirtual 66, 3) := by decide +kernel
theorem dX5_memories_7 : decode cX5_memories 7 = .ok (.ifCond .ne 6, 3) := by decide +kernel
theorem dX5_memories_10 : decode cX5_memories 10 = .ok (.bipush (-3), 2) := by decide +kernel
theorem dX5_memories_12 : decode cX5_memories 12 = .ok (.ireturn, 1) := by decide +kernel
theorem dX5_memories_13 : decode cX5_memories 13 = .ok (.aload_n 0, 1) := by decide +kernel
theorem dX5_memories_14 : decode cX5_memories 14 = .ok (.getfield 10, 3) := by decide +kernel
theorem dX5_memories_17 : decode cX5_memories 17 = .ok (.invokevirtual 92, 3) := by decide +kernel
theorem dX5_memories_20 : decode cX5_memories 20 = .ok (.istore_n 1, 1) := by decide +kernel
theorem dX5_memories_21 : decode cX5_memories 21 = .ok (.iconst 0, 1) := by decide +kernel
theorem dX5_memories_22 : decode cX5_memories 22 = .ok (.istore_n 2, 1) := by decide +kernel
theorem dX5_memories_23 : decode cX5_memories 23 = .ok (.iload_n 2, 1) := by decide +kernel
theorem dX5_memories_24 : decode cX5_memories 24 = .ok (.bipush 16, 2) := by decide +kernel
theorem dX5_memories_26 : decode cX5_memories 26 = .ok (.if_icmp .ge 16, 3) := by decide +kernel
theorem dX5_memories_29 : decode cX5_memories 29 = .ok (.iconst 1, 1) := by decide +kernel
theorem dX5_memories_30 : decode cX5_memories 30 = .ok (.iload_n 2, 1) := by decide +kernel
theorem dX5_memories_31 : decode cX5_memories 31 = .ok (.ishl, 1) := by decide +kernel
theorem dX5_memories_32 : decode cX5_memories 32 = .ok (.iload_n 1, 1) := by decide +kernel
theorem dX5_memories_33 : decode cX5_memories 33 = .ok (.if_icmp .ge 9, 3) := by decide +kernel
theorem dX5_memories_36 : decode cX5_memories 36 = .ok (.iinc 2 1, 3) := by decide +kernel
theorem dX5_memories_39 : decode cX5_memories 39 = .ok (.goto (-16), 3) := by decide +kernel
theorem dX5_memories_42 : decode cX5_memories 42 = .ok (.iload_n 2, 1) := by decide +kernel
theorem dX5_memories_43 : decode cX5_memories 43 = .ok (.ireturn, 1) := by decide +kernel
set_option maxRecDepth 20000 in
theorem ggX5_pace_X5_isBelow : GoodIn wsX5_pace wsX5_isBelow := goodIn_r _ [5] (by decide +kernel) (by decide +kernel)
set_option maxRecDepth 20000 in
theorem gX5_pace_X5_isBelow : GoodIn wsX5_pace (va_wsS RX5 62 yX5_isBelow wsX5_isBelow) := goodIn_app (goodIn_of _ (by decide +kernel)) ggX5_pace_X5_isBelow
set_option maxRecDepth 20000 in
theorem ggX5_pace_X5_endOf : GoodIn wsX5_pace wsX5_endOf := goodIn_r _ [8] (by decide +kernel) (by decide +kernel)
set_option maxRecDepth 20000 in
theorem gX5_pace_X5_endOf : GoodIn wsX5_pace (va_wsS RX5 95 yX5_endOf wsX5_endOf) := goodIn_app (goodIn_of _ (by decide +kernel)) ggX5_pace_X5_endOf
set_option maxRecDepth 20000 in
theorem ggX5_pace_X2_put : GoodIn wsX5_pace wsX2_put := goodIn_r _ [13, 14, 15, 3, 4, 5, 21, 22] (by decide +kernel) (by decide +kernel)
set_option maxRecDepth 20000 in
theorem gX5_pace_X2_put : GoodIn wsX5_pace (wsV RX5 99 RX2 yX2_put wsX2_put) := goodIn_app (goodIn_of _ (by decide +kernel)) ggX5_pace_X2_put
theorem dX5_pace_0 : decode cX5_pace 0 = .ok (.iload_n 1, 1) := by decide +kernel
theorem dX5_pace_1 : decode cX5_pace 1 = .ok (.bipush 6, 2) := by decide +kernel
theorem dX5_pace_3 : decode cX5_pace 3 = .ok (.invokestatic 62, 3) := by decide +kernel
theorem dX5_pace_6 : decode cX5_pace 6 = .ok (.ifCond .ne 6, 3) := by decide +kernel
theorem dX5_pace_9 : decode cX5_pace 9 = .ok (.bipush (-2), 2) := by decide +kernel
theorem dX5_pace_11 : decode cX5_pace 11 = .ok (.ireturn, 1) := by decide +kernel
theorem dX5_pace_12 : decode cX5_pace 12 = .ok (.iload_n 3, 1) := by decide +kernel
theorem dX5_pace_13 : decode cX5_pace 13 = .ok (.iconst 1, 1) := by decide +kernel
theorem dX5_pace_14 : decode cX5_pace 14 = .ok (.if_icmp .lt 16, 3) := by decide +kernel
theorem dX5_pace_17 : decode cX5_pace 17 = .ok (.iload 4, 2) := by decide +kernel
theorem dX5_pace_19 : decode cX5_pace 19 = .ok (.bipush 100, 2) := by decide +kernel
theorem dX5_pace_21 : decode cX5_pace 21 = .ok (.if_icmp .gt 9, 3) := by decide +kernel
theorem dX5_pace_24 : decode cX5_pace 24 = .ok (.iload_n 3, 1) := by decide +kernel
theorem dX5_pace_25 : decode cX5_pace 25 = .ok (.iload 4, 2) := by decide +kernel
theorem dX5_pace_27 : decode cX5_pace 27 = .ok (.if_icmp .le 6, 3) := by decide +kernel
theorem dX5_pace_30 : decode cX5_pace 30 = .ok (.bipush (-2), 2) := by decide +kernel
theorem dX5_pace_32 : decode cX5_pace 32 = .ok (.ireturn, 1) := by decide +kernel
theorem dX5_pace_33 : decode cX5_pace 33 = .ok (.aload_n 0, 1) := by decide +kernel
theorem dX5_pace_34 : decode cX5_pace 34 = .ok (.getfield 40, 3) := by decide +kernel
theorem dX5_pace_37 : decode cX5_pace 37 = .ok (.iload_n 1, 1) := by decide +kernel
theorem dX5_pace_38 : decode cX5_pace 38 = .ok (.iload_n 2, 1) := by decide +kernel
theorem dX5_pace_39 : decode cX5_pace 39 = .ok (.invokestatic 95, 3) := by decide +kernel
theorem dX5_pace_42 : decode cX5_pace 42 = .ok (.iload_n 3, 1) := by decide +kernel
theorem dX5_pace_43 : decode cX5_pace 43 = .ok (.iload 4, 2) := by decide +kernel
theorem dX5_pace_45 : decode cX5_pace 45 = .ok (.invokevirtual 99, 3) := by decide +kernel
theorem dX5_pace_48 : decode cX5_pace 48 = .ok (.iconst 1, 1) := by decide +kernel
theorem dX5_pace_49 : decode cX5_pace 49 = .ok (.ireturn, 1) := by decide +kernel
set_option maxRecDepth 20000 in
theorem ggX5_span_X5_isBelow : GoodIn wsX5_span wsX5_isBelow := goodIn_r _ [6] (by decide +kernel) (by decide +kernel)
set_option maxRecDepth 20000 in
theorem gX5_span_X5_isBelow : GoodIn wsX5_span (va_wsS RX5 62 yX5_isBelow wsX5_isBelow) := goodIn_app (goodIn_of _ (by decide +kernel)) ggX5_span_X5_isBelow
