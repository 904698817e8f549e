theorem dX6_step_36 : decode cX6_step 36 = .ok (.getfield 45, 3) := by decide +kernel
theorem dX6_step_39 : decode cX6_step 39 = .ok (.bipush 16, 2) := by decide +kernel
theorem dX6_step_41 : decode cX6_step 41 = .ok (.if_icmp .ne 6, 3) := by decide +kernel
theorem dX6_step_44 : decode cX6_step 44 = .ok (.bipush (-4), 2) := by decide +kernel
theorem dX6_step_46 : decode cX6_step 46 = .ok (.ireturn, 1) := by decide +kernel
theorem dX6_step_47 : decode cX6_step 47 = .ok (.aload_n 0, 1) := by decide +kernel
theorem dX6_step_48 : decode cX6_step 48 = .ok (.getfield 7, 3) := by decide +kernel
theorem dX6_step_51 : decode cX6_step 51 = .ok (.aload_n 0, 1) := by decide +kernel
theorem dX6_step_52 : decode cX6_step 52 = .ok (.getfield 45, 3) := by decide +kernel
theorem dX6_step_55 : decode cX6_step 55 = .ok (.iload_n 1, 1) := by decide +kernel
theorem dX6_step_56 : decode cX6_step 56 = .ok (.iastore, 1) := by decide +kernel
theorem dX6_step_57 : decode cX6_step 57 = .ok (.aload_n 0, 1) := by decide +kernel
theorem dX6_step_58 : decode cX6_step 58 = .ok (.getfield 13, 3) := by decide +kernel
theorem dX6_step_61 : decode cX6_step 61 = .ok (.aload_n 0, 1) := by decide +kernel
theorem dX6_step_62 : decode cX6_step 62 = .ok (.getfield 45, 3) := by decide +kernel
theorem dX6_step_65 : decode cX6_step 65 = .ok (.iload_n 2, 1) := by decide +kernel
theorem dX6_step_66 : decode cX6_step 66 = .ok (.iastore, 1) := by decide +kernel
theorem dX6_step_67 : decode cX6_step 67 = .ok (.aload_n 0, 1) := by decide +kernel
theorem dX6_step_68 : decode cX6_step 68 = .ok (.dup, 1) := by decide +kernel
theorem dX6_step_69 : decode cX6_step 69 = .ok (.getfield 45, 3) := by decide +kernel
theorem dX6_step_72 : decode cX6_step 72 = .ok (.iconst 1, 1) := by decide +kernel
theorem dX6_step_73 : decode cX6_step 73 = .ok (.iadd, 1) := by decide +kernel
theorem dX6_step_74 : decode cX6_step 74 = .ok (.putfield 45, 3) := by decide +kernel
theorem dX6_step_77 : decode cX6_step 77 = .ok (.aload_n 0, 1) := by decide +kernel
theorem dX6_step_78 : decode cX6_step 78 = .ok (.getfield 45, 3) := by decide +kernel
theorem dX6_step_81 : decode cX6_step 81 = .ok (.ireturn, 1) := by decide +kernel
theorem dX6_drop_0 : decode cX6_drop 0 = .ok (.aload_n 0, 1) := by decide +kernel
theorem dX6_drop_1 : decode cX6_drop 1 = .ok (.getfield 45, 3) := by decide +kernel
theorem dX6_drop_4 : decode cX6_drop 4 = .ok (.ifCond .ne 6, 3) := by decide +kernel
theorem dX6_drop_7 : decode cX6_drop 7 = .ok (.bipush (-3), 2) := by decide +kernel
theorem dX6_drop_9 : decode cX6_drop 9 = .ok (.ireturn, 1) := by decide +kernel
theorem dX6_drop_10 : decode cX6_drop 10 = .ok (.aload_n 0, 1) := by decide +kernel
theorem dX6_drop_11 : decode cX6_drop 11 = .ok (.dup, 1) := by decide +kernel
theorem dX6_drop_12 : decode cX6_drop 12 = .ok (.getfield 45, 3) := by decide +kernel
theorem dX6_drop_15 : decode cX6_drop 15 = .ok (.iconst 1, 1) := by decide +kernel
theorem dX6_drop_16 : decode cX6_drop 16 = .ok (.isub, 1) := by decide +kernel
theorem dX6_drop_17 : decode cX6_drop 17 = .ok (.putfield 45, 3) := by decide +kernel
theorem dX6_drop_20 : decode cX6_drop 20 = .ok (.aload_n 0, 1) := by decide +kernel
theorem dX6_drop_21 : decode cX6_drop 21 = .ok (.getfield 45, 3) := by decide +kernel
theorem dX6_drop_24 : decode cX6_drop 24 = .ok (.ireturn, 1) := by decide +kernel
theorem dX6_sound_0 : decode cX6_sound 0 = .ok (.aload_n 0, 1) := by decide +kernel
theorem dX6_sound_1 : decode cX6_sound 1 = .ok (.getfield 35, 3) := by decide +kernel
theorem dX6_sound_4 : decode cX6_sound 4 = .ok (.iconst 0, 1) := by decide +kernel
theorem dX6_sound_5 : decode cX6_sound 5 = .ok (.iconst 0, 1) := by decide +kernel
theorem dX6_sound_6 : decode cX6_sound 6 = .ok (.iastore, 1) := by decide +kernel
theorem dX6_sound_7 : decode cX6_sound 7 = .ok (.iconst 0, 1) := by decide +kernel
theorem dX6_sound_8 : decode cX6_sound 8 = .ok (.istore_n 1, 1) := by decide +kernel
theorem dX6_sound_9 : decode cX6_sound 9 = .ok (.iload_n 1, 1) := by decide +kernel
theorem dX6_sound_10 : decode cX6_sound 10 = .ok (.aload_n 0, 1) := by decide +kernel
theorem dX6_sound_11 : decode cX6_sound 11 = .ok (.getfield 45, 3) := by decide +kernel
theorem dX6_sound_14 : decode cX6_sound 14 = .ok (.if_icmp .ge 85, 3) := by decide +kernel
theorem dX6_sound_17 : decode cX6_sound 17 = .ok (.aload_n 0, 1) := by decide +kernel
theorem dX6_sound_18 : decode cX6_sound 18 = .ok (.getfield 7, 3) := by decide +kernel
theorem dX6_sound_21 : decode cX6_sound 21 = .ok (.iload_n 1, 1) := by decide +kernel
theorem dX6_sound_22 : decode cX6_sound 22 = .ok (.iaload, 1) := by decide +kernel
theorem dX6_sound_23 : decode cX6_sound 23 = .ok (.aload_n 0, 1) := by decide +kernel
theorem dX6_sound_24 : decode cX6_sound 24 = .ok (.getfield 35, 3) := by decide +kernel
theorem dX6_sound_27 : decode cX6_sound 27 = .ok (.iload_n 1, 1) := by decide +kernel
theorem dX6_sound_28 : decode cX6_sound 28 = .ok (.iaload, 1) := by decide +kernel
theorem dX6_sound_29 : decode cX6_sound 29 = .ok (.iand, 1) := by decide +kernel
theorem dX6_sound_30 : decode cX6_sound 30 = .ok (.ifCond .ne 21, 3) := by decide +kernel
theorem dX6_sound_33 : decode cX6_sound 33 = .ok (.aload_n 0, 1) := by decide +kernel
theorem dX6_sound_34 : decode cX6_sound 34 = .ok (.getfield 13, 3) := by decide +kernel
theorem dX6_sound_37 : decode cX6_sound 37 = .ok (.iload_n 1, 1) := by decide +kernel
theorem dX6_sound_38 : decode cX6_sound 38 = .ok (.iaload, 1) := by decide +kernel
theorem dX6_sound_39 : decode cX6_sound 39 = .ok (.aload_n 0, 1) := by decide +kernel
theorem dX6_sound_40 : decode cX6_sound 40 = .ok (.getfield 35, 3) := by decide +kernel
theorem dX6_sound_43 : decode cX6_sound 43 = .ok (.iload_n 1, 1) := by decide +kernel
theorem dX6_sound_44 : decode cX6_sound 44 = .ok (.iaload, 1) := by decide +kernel
theorem dX6_sound_45 : decode cX6_sound 45 = .ok (.iconst (-1), 1) := by decide +kernel
theorem dX6_sound_46 : decode cX6_sound 46 = .ok (.ixor, 1) := by decide +kernel
theorem dX6_sound_47 : decode cX6_sound 47 = .ok (.iand, 1) := by decide +kernel
theorem dX6_sound_48 : decode cX6_sound 48 = .ok (.ifCond .eq 5, 3) := by decide +kernel
theorem dX6_sound_51 : decode cX6_sound 51 = .ok (.iload_n 1, 1) := by decide +kernel
theorem dX6_sound_52 : decode cX6_sound 52 = .ok (.ireturn, 1) := by decide +kernel
theorem dX6_sound_53 : decode cX6_sound 53 = .ok (.aload_n 0, 1) := by decide +kernel
theorem dX6_sound_54 : decode cX6_sound 54 = .ok (.getfield 35, 3) := by decide +kernel
theorem dX6_sound_57 : decode cX6_sound 57 = .ok (.iload_n 1, 1) := by decide +kernel
theorem dX6_sound_58 : decode cX6_sound 58 = .ok (.iconst 1, 1) := by decide +kernel
theorem dX6_sound_59 : decode cX6_sound 59 = .ok (.iadd, 1) := by decide +kernel
theorem dX6_sound_60 : decode cX6_sound 60 = .ok (.aload_n 0, 1) := by decide +kernel
theorem dX6_sound_61 : decode cX6_sound 61 = .ok (.getfield 35, 3) := by decide +kernel
theorem dX6_sound_64 : decode cX6_sound 64 = .ok (.iload_n 1, 1) := by decide +kernel
theorem dX6_sound_65 : decode cX6_sound 65 = .ok (.iaload, 1) := by decide +kernel
theorem dX6_sound_66 : decode cX6_sound 66 = .ok (.aload_n 0, 1) := by decide +kernel
theorem dX6_sound_67 : decode cX6_sound 67 = .ok (.getfield 7, 3) := by decide +kernel
theorem dX6_sound_70 : decode cX6_sound 70 = .ok (.iload_n 1, 1) := by decide +kernel
theorem dX6_sound_71 : decode cX6_sound 71 = .ok (.iaload, 1) := by decide +kernel
theorem dX6_sound_72 : decode cX6_sound 72 = .ok (.ior, 1) := by decide +kernel
theorem dX6_sound_73 : decode cX6_sound 73 = .ok (.iastore, 1) := by decide +kernel
theorem dX6_sound_74 : decode cX6_sound 74 = .ok (.aload_n 0, 1) := by decide +kernel
theorem dX6_sound_75 : decode cX6_sound 75 = .ok (.getfield 35, 3) := by decide +kernel
theorem dX6_sound_78 : decode cX6_sound 78 = .ok (.iload_n 1, 1) := by decide +kernel
theorem dX6_sound_79 : decode cX6_sound 79 = .ok (.iconst 1, 1) := by decide +kernel
theorem dX6_sound_80 : decode cX6_sound 80 = .ok (.iadd, 1) := by decide +kernel
theorem dX6_sound_81 : decode cX6_sound 81 = .ok (.dup2, 1) := by decide +kernel
theorem dX6_sound_82 : decode cX6_sound 82 = .ok (.iaload, 1) := by decide +kernel
theorem dX6_sound_83 : decode cX6_sound 83 = .ok (.aload_n 0, 1) := by decide +kernel
theorem dX6_sound_84 : decode cX6_sound 84 = .ok (.getfield 13, 3) := by decide +kernel
theorem dX6_sound_87 : decode cX6_sound 87 = .ok (.iload_n 1, 1) := by decide +kernel
theorem dX6_sound_88 : decode cX6_sound 88 = .ok (.iaload, 1) := by decide +kernel
theorem dX6_sound_89 : decode cX6_sound 89 = .ok (.iconst (-1), 1) := by decide +kernel
theorem dX6_sound_90 : decode cX6_sound 90 = .ok (.ixor, 1) := by decide +kernel
theorem dX6_sound_91 : decode cX6_sound 91 = .ok (.iand, 1) := by decide +kernel
theorem dX6_sound_92 : decode cX6_sound 92 = .ok (.iastore, 1) := by decide +kernel
theorem dX6_sound_93 : decode cX6_sound 93 = .ok (.iinc 1 1, 3) := by decide +kernel
theorem dX6_sound_96 : decode cX6_sound 96 = .ok (.goto (-87), 3) := by decide +kernel
theorem dX6_sound_99 : decode cX6_sound 99 = .ok (.aload_n 0, 1) := by decide +kernel
theorem dX6_sound_100 : decode cX6_sound 100 = .ok (.getfield 45, 3) := by decide +kernel
theorem dX6_sound_103 : decode cX6_sound 103 = .ok (.ifCond .eq 15, 3) := by decide +kernel
theorem dX6_sound_106 : decode cX6_sound 106 = .ok (.aload_n 0, 1) := by decide +kernel
theorem dX6_sound_107 : decode cX6_sound 107 = .ok (.getfield 35, 3) := by decide +kernel
theorem dX6_sound_110 : decode cX6_sound 110 = .ok (.aload_n 0, 1) := by decide +kernel
theorem dX6_sound_111 : decode cX6_sound 111 = .ok (.getfield 45, 3) := by decide +kernel
theorem dX6_sound_114 : decode cX6_sound 114 = .ok (.iaload, 1) := by decide +kernel
theorem dX6_sound_115 : decode cX6_sound 115 = .ok (.ifCond .eq 10, 3) := by decide +kernel
theorem dX6_sound_118 : decode cX6_sound 118 = .ok (.aload_n 0, 1) := by decide +kernel
theorem dX6_sound_119 : decode cX6_sound 119 = .ok (.getfield 45, 3) := by decide +kernel
theorem dX6_sound_122 : decode cX6_sound 122 = .ok (.goto 4, 3) := by decide +kernel
theorem dX6_sound_125 : decode cX6_sound 125 = .ok (.iconst (-1), 1) := by decide +kernel
theorem dX6_sound_126 : decode cX6_sound 126 = .ok (.ireturn, 1) := by decide +kernel
set_option maxRecDepth 20000 in
theorem ggX6_isSound_X6_sound : GoodIn wsX6_isSound wsX6_sound := goodIn_r _ [5, 6, 7, 8, 9, 10, 11, 12, 13, 14, 15, 16, 17, 18, 19, 20, 21, 22] (by decide +kernel) (by decide +kernel)
set_option maxRecDepth 20000 in
theorem gX6_isSound_X6_sound : GoodIn wsX6_isSound (wsV RX6 49 RX6 yX6_sound wsX6_sound) := goodIn_app (goodIn_of _ (by decide +kernel)) ggX6_isSound_X6_sound
theorem dX6_isSound_0 : decode cX6_isSound 0 = .ok (.aload_n 0, 1) := by decide +kernel
theorem dX6_isSound_1 : decode cX6_isSound 1 = .ok (.invokevirtual 49, 3) := by decide +kernel
theorem dX6_isSound_4 : decode cX6_isSound 4 = .ok (.iconst (-1), 1) := by decide +kernel
theorem dX6_isSound_5 : decode cX6_isSound 5 = .ok (.if_icmp .ne 7, 3) := by decide +kernel
theorem dX6_isSound_8 : decode cX6_isSound 8 = .ok (.iconst 1, 1) := by decide +kernel
theorem dX6_isSound_9 : decode cX6_isSound 9 = .ok (.goto 4, 3) := by decide +kernel
theorem dX6_isSound_12 : decode cX6_isSound 12 = .ok (.iconst 0, 1) := by decide +kernel
theorem dX6_isSound_13 : decode cX6_isSound 13 = .ok (.ireturn, 1) := by decide +kernel
set_option maxRecDepth 20000 in
theorem ggX6_isStep_X6_in : GoodIn wsX6_isStep wsX6_in := goodIn_r _ [5] (by decide +kernel) (by decide +kernel)
set_option maxRecDepth 20000 in
theorem gX6_isStep_X6_in : GoodIn wsX6_isStep (va_wsS RX6 41 yX6_in wsX6_in) := goodIn_app (goodIn_of _ (by decide +kernel)) ggX6_isStep_X6_in
theorem dX6_isStep_0 : decode cX6_isStep 0 = .ok (.iload_n 1, 1) := by decide +kernel
theorem dX6_isStep_1 : decode cX6_isStep 1 = .ok (.iconst 0, 1) := by decide +kernel
theorem dX6_isStep_2 : decode cX6_isStep 2 = .ok (.aload_n 0, 1) := by decide +kernel
theorem dX6_isStep_3 : decode cX6_isStep 3 = .ok (.getfield 45, 3) := by decide +kernel
theorem dX6_isStep_6 : decode cX6_isStep 6 = .ok (.iconst 1, 1) := by decide +kernel
theorem dX6_isStep_7 : decode cX6_isStep 7 = .ok (.isub, 1) := by decide +kernel
theorem dX6_isStep_8 : decode cX6_isStep 8 = .ok (.invokestatic 41, 3) := by decide +kernel
theorem dX6_isStep_11 : decode cX6_isStep 11 = .ok (.ireturn, 1) := by decide +kernel
set_option maxRecDepth 20000 in
theorem ggX6_state_X6_isStep : GoodIn wsX6_state wsX6_isStep := goodIn_r _ [6, 7, 8, 9, 5, 10, 21, 22, 23, 24, 25, 26, 27, 28, 29, 30, 31, 32, 33] (by decide +kernel) (by decide +kernel)
set_option maxRecDepth 20000 in
theorem gX6_state_X6_isStep : GoodIn wsX6_state (wsV RX6 53 RX6 yX6_isStep wsX6_isStep) := goodIn_app (goodIn_of _ (by decide +kernel)) ggX6_state_X6_isStep
set_option maxRecDepth 20000 in
theorem ggX6_state_X6_isSound : GoodIn wsX6_state wsX6_isSound := goodIn_r _ [14, 15, 16, 17, 5, 18, 1, 7, 19, 20, 21, 22, 23, 24, 25, 26, 27, 28, 29, 30, 31, 32, 33] (by decide +kernel) (by decide +kernel)
set_option maxRecDepth 20000 in
theorem gX6_state_X6_isSound : GoodIn wsX6_state (wsV RX6 57 RX6 yX6_isSound wsX6_isSound) := goodIn_app (goodIn_of _ (by decide +kernel)) ggX6_state_X6_isSound
theorem dX6_state_0 : decode cX6_state 0 = .ok (.aload_n 0, 1) := by decide +kernel
theorem dX6_state_1 : decode cX6_state 1 = .ok (.iload_n 1, 1) := by decide +kernel
theorem dX6_state_2 : decode cX6_state 2 = .ok (.invokevirtual 53, 3) := by decide +kernel
theorem dX6_state_5 : decode cX6_state 5 = .ok (.ifCond .ne 8, 3) := by decide +kernel
theorem dX6_state_8 : decode cX6_state 8 = .ok (.bipush (-2), 2) := by decide +kernel
theorem dX6_state_10 : decode cX6_state 10 = .ok (.goto 21, 3) := by decide +kernel
theorem dX6_state_13 : decode cX6_state 13 = .ok (.aload_n 0, 1) := by decide +kernel
theorem dX6_state_14 : decode cX6_state 14 = .ok (.invokevirtual 57, 3) := by decide +kernel
theorem dX6_state_17 : decode cX6_state 17 = .ok (.ifCond .eq 12, 3) := by decide +kernel
theorem dX6_state_20 : decode cX6_state 20 = .ok (.aload_n 0, 1) := by decide +kernel
theorem dX6_state_21 : decode cX6_state 21 = .ok (.getfield 35, 3) := by decide +kernel
theorem dX6_state_24 : decode cX6_state 24 = .ok (.iload_n 1, 1) := by decide +kernel
theorem dX6_state_25 : decode cX6_state 25 = .ok (.iaload, 1) := by decide +kernel
theorem dX6_state_26 : decode cX6_state 26 = .ok (.goto 5, 3) := by decide +kernel
theorem dX6_state_29 : decode cX6_state 29 = .ok (.bipush (-3), 2) := by decide +kernel
theorem dX6_state_31 : decode cX6_state 31 = .ok (.ireturn, 1) := by decide +kernel
theorem dX6_ahead_0 : decode cX6_ahead 0 = .ok (.iload_n 1, 1) := by decide +kernel
theorem dX6_ahead_1 : decode cX6_ahead 1 = .ok (.ifCond .ne 12, 3) := by decide +kernel
theorem dX6_ahead_4 : decode cX6_ahead 4 = .ok (.aload_n 0, 1) := by decide +kernel
theorem dX6_ahead_5 : decode cX6_ahead 5 = .ok (.getfield 45, 3) := by decide +kernel
theorem dX6_ahead_8 : decode cX6_ahead 8 = .ok (.iconst 1, 1) := by decide +kernel
theorem dX6_ahead_9 : decode cX6_ahead 9 = .ok (.isub, 1) := by decide +kernel
theorem dX6_ahead_10 : decode cX6_ahead 10 = .ok (.goto 6, 3) := by decide +kernel
theorem dX6_ahead_13 : decode cX6_ahead 13 = .ok (.iload_n 1, 1) := by decide +kernel
theorem dX6_ahead_14 : decode cX6_ahead 14 = .ok (.iconst 1, 1) := by decide +kernel
theorem dX6_ahead_15 : decode cX6_ahead 15 = .ok (.isub, 1) := by decide +kernel
theorem dX6_ahead_16 : decode cX6_ahead 16 = .ok (.ireturn, 1) := by decide +kernel
set_option maxRecDepth 20000 in
theorem ggX6_isOn_X6_ahead : GoodIn wsX6_isOn wsX6_ahead := goodIn_r _ [7, 8, 9, 10, 11, 12, 13, 14, 15, 16, 17, 18, 19, 20, 21] (by decide +kernel) (by decide +kernel)
set_option maxRecDepth 20000 in
theorem gX6_isOn_X6_ahead : GoodIn wsX6_isOn (wsV RX6 61 RX6 yX6_ahead wsX6_ahead) := goodIn_app (goodIn_of _ (by decide +kernel)) ggX6_isOn_X6_ahead
theorem dX6_isOn_0 : decode cX6_isOn 0 = .ok (.aload_n 0, 1) := by decide +kernel
theorem dX6_isOn_1 : decode cX6_isOn 1 = .ok (.iload_n 1, 1) := by decide +kernel
theorem dX6_isOn_2 : decode cX6_isOn 2 = .ok (.invokevirtual 61, 3) := by decide +kernel
theorem dX6_isOn_5 : decode cX6_isOn 5 = .ok (.istore_n 3, 1) := by decide +kernel
theorem dX6_isOn_6 : decode cX6_isOn 6 = .ok (.aload_n 0, 1) := by decide +kernel
theorem dX6_isOn_7 : decode cX6_isOn 7 = .ok (.getfield 7, 3) := by decide +kernel
theorem dX6_isOn_10 : decode cX6_isOn 10 = .ok (.iload_n 3, 1) := by decide +kernel
theorem dX6_isOn_11 : decode cX6_isOn 11 = .ok (.iaload, 1) := by decide +kernel
theorem dX6_isOn_12 : decode cX6_isOn 12 = .ok (.iload_n 2, 1) := by decide +kernel
theorem dX6_isOn_13 : decode cX6_isOn 13 = .ok (.iconst (-1), 1) := by decide +kernel
theorem dX6_isOn_14 : decode cX6_isOn 14 = .ok (.ixor, 1) := by decide +kernel
theorem dX6_isOn_15 : decode cX6_isOn 15 = .ok (.iand, 1) := by decide +kernel
theorem dX6_isOn_16 : decode cX6_isOn 16 = .ok (.ifCond .ne 18, 3) := by decide +kernel
theorem dX6_isOn_19 : decode cX6_isOn 19 = .ok (.aload_n 0, 1) := by decide +kernel
theorem dX6_isOn_20 : decode cX6_isOn 20 = .ok (.getfield 13, 3) := by decide +kernel
theorem dX6_isOn_23 : decode cX6_isOn 23 = .ok (.iload_n 3, 1) := by decide +kernel
theorem dX6_isOn_24 : decode cX6_isOn 24 = .ok (.iaload, 1) := by decide +kernel
theorem dX6_isOn_25 : decode cX6_isOn 25 = .ok (.iload_n 2, 1) := by decide +kernel
theorem dX6_isOn_26 : decode cX6_isOn 26 = .ok (.iand, 1) := by decide +kernel
theorem dX6_isOn_27 : decode cX6_isOn 27 = .ok (.ifCond .ne 7, 3) := by decide +kernel
theorem dX6_isOn_30 : decode cX6_isOn 30 = .ok (.iconst 1, 1) := by decide +kernel
theorem dX6_isOn_31 : decode cX6_isOn 31 = .ok (.goto 4, 3) := by decide +kernel
theorem dX6_isOn_34 : decode cX6_isOn 34 = .ok (.iconst 0, 1) := by decide +kernel
theorem dX6_isOn_35 : decode cX6_isOn 35 = .ok (.ireturn, 1) := by decide +kernel
theorem dX6_mayCut_0 : decode cX6_mayCut 0 = .ok (.iconst 0, 1) := by decide +kernel
theorem dX6_mayCut_1 : decode cX6_mayCut 1 = .ok (.istore_n 2, 1) := by decide +kernel
theorem dX6_mayCut_2 : decode cX6_mayCut 2 = .ok (.iload_n 1, 1) := by decide +kernel
theorem dX6_mayCut_3 : decode cX6_mayCut 3 = .ok (.iload_n 2, 1) := by decide +kernel
theorem dX6_mayCut_4 : decode cX6_mayCut 4 = .ok (.ishr, 1) := by decide +kernel
theorem dX6_mayCut_5 : decode cX6_mayCut 5 = .ok (.iconst 1, 1) := by decide +kernel
theorem dX6_mayCut_6 : decode cX6_mayCut 6 = .ok (.iand, 1) := by decide +kernel
theorem dX6_mayCut_7 : decode cX6_mayCut 7 = .ok (.ifCond .ne 9, 3) := by decide +kernel
theorem dX6_mayCut_10 : decode cX6_mayCut 10 = .ok (.iinc 2 1, 3) := by decide +kernel
theorem dX6_mayCut_13 : decode cX6_mayCut 13 = .ok (.goto (-11), 3) := by decide +kernel
theorem dX6_mayCut_16 : decode cX6_mayCut 16 = .ok (.iconst 0, 1) := by decide +kernel
theorem dX6_mayCut_17 : decode cX6_mayCut 17 = .ok (.istore_n 3, 1) := by decide +kernel
theorem dX6_mayCut_18 : decode cX6_mayCut 18 = .ok (.iconst 0, 1) := by decide +kernel
theorem dX6_mayCut_19 : decode cX6_mayCut 19 = .ok (.istore 4, 2) := by decide +kernel
theorem dX6_mayCut_21 : decode cX6_mayCut 21 = .ok (.iload 4, 2) := by decide +kernel
theorem dX6_mayCut_23 : decode cX6_mayCut 23 = .ok (.aload_n 0, 1) := by decide +kernel
theorem dX6_mayCut_24 : decode cX6_mayCut 24 = .ok (.getfield 45, 3) := by decide +kernel
theorem dX6_mayCut_27 : decode cX6_mayCut 27 = .ok (.if_icmp .ge 67, 3) := by decide +kernel
theorem dX6_mayCut_30 : decode cX6_mayCut 30 = .ok (.iload_n 2, 1) := by decide +kernel
theorem dX6_mayCut_31 : decode cX6_mayCut 31 = .ok (.iload 4, 2) := by decide +kernel
theorem dX6_mayCut_33 : decode cX6_mayCut 33 = .ok (.iadd, 1) := by decide +kernel
theorem dX6_mayCut_34 : decode cX6_mayCut 34 = .ok (.aload_n 0, 1) := by decide +kernel
theorem dX6_mayCut_35 : decode cX6_mayCut 35 = .ok (.getfield 45, 3) := by decide +kernel
theorem dX6_mayCut_38 : decode cX6_mayCut 38 = .ok (.irem, 1) := by decide +kernel
theorem dX6_mayCut_39 : decode cX6_mayCut 39 = .ok (.istore 5, 2) := by decide +kernel
theorem dX6_mayCut_41 : decode cX6_mayCut 41 = .ok (.iload_n 1, 1) := by decide +kernel
theorem dX6_mayCut_42 : decode cX6_mayCut 42 = .ok (.iload 5, 2) := by decide +kernel
theorem dX6_mayCut_44 : decode cX6_mayCut 44 = .ok (.ishr, 1) := by decide +kernel
theorem dX6_mayCut_45 : decode cX6_mayCut 45 = .ok (.iconst 1, 1) := by decide +kernel
theorem dX6_mayCut_46 : decode cX6_mayCut 46 = .ok (.iand, 1) := by decide +kernel
theorem dX6_mayCut_47 : decode cX6_mayCut 47 = .ok (.iconst 1, 1) := by decide +kernel
theorem dX6_mayCut_48 : decode cX6_mayCut 48 = .ok (.if_icmp .ne 7, 3) := by decide +kernel
theorem dX6_mayCut_51 : decode cX6_mayCut 51 = .ok (.iconst 0, 1) := by decide +kernel
theorem dX6_mayCut_52 : decode cX6_mayCut 52 = .ok (.goto 4, 3) := by decide +kernel
theorem dX6_mayCut_55 : decode cX6_mayCut 55 = .ok (.iload_n 3, 1) := by decide +kernel
theorem dX6_mayCut_56 : decode cX6_mayCut 56 = .ok (.istore_n 3, 1) := by decide +kernel
theorem dX6_mayCut_57 : decode cX6_mayCut 57 = .ok (.aload_n 0, 1) := by decide +kernel
theorem dX6_mayCut_58 : decode cX6_mayCut 58 = .ok (.getfield 7, 3) := by decide +kernel
theorem dX6_mayCut_61 : decode cX6_mayCut 61 = .ok (.iload 5, 2) := by decide +kernel
theorem dX6_mayCut_63 : decode cX6_mayCut 63 = .ok (.iaload, 1) := by decide +kernel
theorem dX6_mayCut_64 : decode cX6_mayCut 64 = .ok (.aload_n 0, 1) := by decide +kernel
theorem dX6_mayCut_65 : decode cX6_mayCut 65 = .ok (.getfield 13, 3) := by decide +kernel
theorem dX6_mayCut_68 : decode cX6_mayCut 68 = .ok (.iload 5, 2) := by decide +kernel
theorem dX6_mayCut_70 : decode cX6_mayCut 70 = .ok (.iaload, 1) := by decide +kernel
theorem dX6_mayCut_71 : decode cX6_mayCut 71 = .ok (.ior, 1) := by decide +kernel
theorem dX6_mayCut_72 : decode cX6_mayCut 72 = .ok (.istore 6, 2) := by decide +kernel
theorem dX6_mayCut_74 : decode cX6_mayCut 74 = .ok (.iload_n 3, 1) := by decide +kernel
theorem dX6_mayCut_75 : decode cX6_mayCut 75 = .ok (.iload 6, 2) := by decide +kernel
theorem dX6_mayCut_77 : decode cX6_mayCut 77 = .ok (.iand, 1) := by decide +kernel
theorem dX6_mayCut_78 : decode cX6_mayCut 78 = .ok (.ifCond .eq 5, 3) := by decide +kernel
theorem dX6_mayCut_81 : decode cX6_mayCut 81 = .ok (.iconst 0, 1) := by decide +kernel
theorem dX6_mayCut_82 : decode cX6_mayCut 82 = .ok (.ireturn, 1) := by decide +kernel
theorem dX6_mayCut_83 : decode cX6_mayCut 83 = .ok (.iload_n 3, 1) := by decide +kernel
theorem dX6_mayCut_84 : decode cX6_mayCut 84 = .ok (.iload 6, 2) := by decide +kernel
theorem dX6_mayCut_86 : decode cX6_mayCut 86 = .ok (.ior, 1) := by decide +kernel
theorem dX6_mayCut_87 : decode cX6_mayCut 87 = .ok (.istore_n 3, 1) := by decide +kernel
theorem dX6_mayCut_88 : decode cX6_mayCut 88 = .ok (.iinc 4 1, 3) := by decide +kernel
theorem dX6_mayCut_91 : decode cX6_mayCut 91 = .ok (.goto (-70), 3) := by decide +kernel
theorem dX6_mayCut_94 : decode cX6_mayCut 94 = .ok (.iconst 1, 1) := by decide +kernel
theorem dX6_mayCut_95 : decode cX6_mayCut 95 = .ok (.ireturn, 1) := by decide +kernel
theorem dX6_comesFirst_0 : decode cX6_comesFirst 0 = .ok (.iload_n 0, 1) := by decide +kernel
theorem dX6_comesFirst_1 : decode cX6_comesFirst 1 = .ok (.iload_n 1, 1) := by decide +kernel
theorem dX6_comesFirst_2 : decode cX6_comesFirst 2 = .ok (.ixor, 1) := by decide +kernel
theorem dX6_comesFirst_3 : decode cX6_comesFirst 3 = .ok (.istore_n 2, 1) := by decide +kernel
theorem dX6_comesFirst_4 : decode cX6_comesFirst 4 = .ok (.iload_n 0, 1) := by decide +kernel
theorem dX6_comesFirst_5 : decode cX6_comesFirst 5 = .ok (.iload_n 2, 1) := by decide +kernel
theorem dX6_comesFirst_6 : decode cX6_comesFirst 6 = .ok (.iand, 1) := by decide +kernel
theorem dX6_comesFirst_7 : decode cX6_comesFirst 7 = .ok (.iload_n 2, 1) := by decide +kernel
theorem dX6_comesFirst_8 : decode cX6_comesFirst 8 = .ok (.ineg, 1) := by decide +kernel
theorem dX6_comesFirst_9 : decode cX6_comesFirst 9 = .ok (.iand, 1) := by decide +kernel
theorem dX6_comesFirst_10 : decode cX6_comesFirst 10 = .ok (.ifCond .eq 7, 3) := by decide +kernel
theorem dX6_comesFirst_13 : decode cX6_comesFirst 13 = .ok (.iconst 1, 1) := by decide +kernel
theorem dX6_comesFirst_14 : decode cX6_comesFirst 14 = .ok (.goto 4, 3) := by decide +kernel
theorem dX6_comesFirst_17 : decode cX6_comesFirst 17 = .ok (.iconst 0, 1) := by decide +kernel
theorem dX6_comesFirst_18 : decode cX6_comesFirst 18 = .ok (.ireturn, 1) := by decide +kernel
set_option maxRecDepth 20000 in
theorem ggX6_findCuts_X6_ones : GoodIn wsX6_findCuts wsX6_ones := goodIn_r _ [6] (by decide +kernel) (by decide +kernel)
set_option maxRecDepth 20000 in
theorem gX6_findCuts_X6_ones : GoodIn wsX6_findCuts (va_wsS RX6 68 yX6_ones wsX6_ones) := goodIn_app (goodIn_of _ (by decide +kernel)) ggX6_findCuts_X6_ones
set_option maxRecDepth 20000 in
theorem ggX6_findCuts_X6_comesFirst : GoodIn wsX6_findCuts wsX6_comesFirst := goodIn_r _ [9] (by decide +kernel) (by decide +kernel)
set_option maxRecDepth 20000 in
theorem gX6_findCuts_X6_comesFirst : GoodIn wsX6_findCuts (va_wsS RX6 71 yX6_comesFirst wsX6_comesFirst) := goodIn_app (goodIn_of _ (by decide +kernel)) ggX6_findCuts_X6_comesFirst
set_option maxRecDepth 20000 in
theorem ggX6_findCuts_X6_mayCut : GoodIn wsX6_findCuts wsX6_mayCut := goodIn_r _ [13, 1, 14, 15, 16, 17, 18, 19, 20, 21, 22, 23, 24, 25, 26, 27, 28] (by decide +kernel) (by decide +kernel)
set_option maxRecDepth 20000 in
theorem gX6_findCuts_X6_mayCut : GoodIn wsX6_findCuts (wsV RX6 75 RX6 yX6_mayCut wsX6_mayCut) := goodIn_app (goodIn_of _ (by decide +kernel)) ggX6_findCuts_X6_mayCut
theorem dX6_findCuts_0 : decode cX6_findCuts 0 = .ok (.aload_n 0, 1) := by decide +kernel
theorem dX6_findCuts_1 : decode cX6_findCuts 1 = .ok (.iconst 1, 1) := by decide +kernel
theorem dX6_findCuts_2 : decode cX6_findCuts 2 = .ok (.aload_n 0, 1) := by decide +kernel
theorem dX6_findCuts_3 : decode cX6_findCuts 3 = .ok (.getfield 45, 3) := by decide +kernel
theorem dX6_findCuts_6 : decode cX6_findCuts 6 = .ok (.ishl, 1) := by decide +kernel
theorem dX6_findCuts_7 : decode cX6_findCuts 7 = .ok (.iconst 1, 1) := by decide +kernel
theorem dX6_findCuts_8 : decode cX6_findCuts 8 = .ok (.isub, 1) := by decide +kernel
theorem dX6_findCuts_9 : decode cX6_findCuts 9 = .ok (.putfield 65, 3) := by decide +kernel
theorem dX6_findCuts_12 : decode cX6_findCuts 12 = .ok (.iconst 1, 1) := by decide +kernel
theorem dX6_findCuts_13 : decode cX6_findCuts 13 = .ok (.istore_n 1, 1) := by decide +kernel
theorem dX6_findCuts_14 : decode cX6_findCuts 14 = .ok (.iload_n 1, 1) := by decide +kernel
theorem dX6_findCuts_15 : decode cX6_findCuts 15 = .ok (.iconst 1, 1) := by decide +kernel
theorem dX6_findCuts_16 : decode cX6_findCuts 16 = .ok (.aload_n 0, 1) := by decide +kernel
theorem dX6_findCuts_17 : decode cX6_findCuts 17 = .ok (.getfield 45, 3) := by decide +kernel
theorem dX6_findCuts_20 : decode cX6_findCuts 20 = .ok (.ishl, 1) := by decide +kernel
theorem dX6_findCuts_21 : decode cX6_findCuts 21 = .ok (.if_icmp .ge 54, 3) := by decide +kernel
theorem dX6_findCuts_24 : decode cX6_findCuts 24 = .ok (.iload_n 1, 1) := by decide +kernel
theorem dX6_findCuts_25 : decode cX6_findCuts 25 = .ok (.invokestatic 68, 3) := by decide +kernel
theorem dX6_findCuts_28 : decode cX6_findCuts 28 = .ok (.aload_n 0, 1) := by decide +kernel
theorem dX6_findCuts_29 : decode cX6_findCuts 29 = .ok (.getfield 65, 3) := by decide +kernel
theorem dX6_findCuts_32 : decode cX6_findCuts 32 = .ok (.invokestatic 68, 3) := by decide +kernel
theorem dX6_findCuts_35 : decode cX6_findCuts 35 = .ok (.isub, 1) := by decide +kernel
theorem dX6_findCuts_36 : decode cX6_findCuts 36 = .ok (.istore_n 2, 1) := by decide +kernel
theorem dX6_findCuts_37 : decode cX6_findCuts 37 = .ok (.iload_n 2, 1) := by decide +kernel
theorem dX6_findCuts_38 : decode cX6_findCuts 38 = .ok (.ifCond .lt 18, 3) := by decide +kernel
theorem dX6_findCuts_41 : decode cX6_findCuts 41 = .ok (.iload_n 2, 1) := by decide +kernel
theorem dX6_findCuts_42 : decode cX6_findCuts 42 = .ok (.ifCond .ne 27, 3) := by decide +kernel
theorem dX6_findCuts_45 : decode cX6_findCuts 45 = .ok (.iload_n 1, 1) := by decide +kernel
theorem dX6_findCuts_46 : decode cX6_findCuts 46 = .ok (.aload_n 0, 1) := by decide +kernel
theorem dX6_findCuts_47 : decode cX6_findCuts 47 = .ok (.getfield 65, 3) := by decide +kernel
theorem dX6_findCuts_50 : decode cX6_findCuts 50 = .ok (.invokestatic 71, 3) := by decide +kernel
theorem dX6_findCuts_53 : decode cX6_findCuts 53 = .ok (.ifCond .eq 16, 3) := by decide +kernel
theorem dX6_findCuts_56 : decode cX6_findCuts 56 = .ok (.aload_n 0, 1) := by decide +kernel
theorem dX6_findCuts_57 : decode cX6_findCuts 57 = .ok (.iload_n 1, 1) := by decide +kernel
theorem dX6_findCuts_58 : decode cX6_findCuts 58 = .ok (.invokevirtual 75, 3) := by decide +kernel
theorem dX6_findCuts_61 : decode cX6_findCuts 61 = .ok (.ifCond .eq 8, 3) := by decide +kernel
theorem dX6_findCuts_64 : decode cX6_findCuts 64 = .ok (.aload_n 0, 1) := by decide +kernel
theorem dX6_findCuts_65 : decode cX6_findCuts 65 = .ok (.iload_n 1, 1) := by decide +kernel
theorem dX6_findCuts_66 : decode cX6_findCuts 66 = .ok (.putfield 65, 3) := by decide +kernel
theorem dX6_findCuts_69 : decode cX6_findCuts 69 = .ok (.iinc 1 1, 3) := by decide +kernel
theorem dX6_findCuts_72 : decode cX6_findCuts 72 = .ok (.goto (-58), 3) := by decide +kernel
theorem dX6_findCuts_75 : decode cX6_findCuts 75 = .ok (.return_, 1) := by decide +kernel
set_option maxRecDepth 20000 in
theorem ggX6_beginOf_X6_ahead : GoodIn wsX6_beginOf wsX6_ahead := goodIn_r _ [6, 7, 8, 9, 10, 11, 12, 13, 14, 15, 16, 17, 18, 19, 20] (by decide +kernel) (by decide +kernel)
set_option maxRecDepth 20000 in
theorem gX6_beginOf_X6_ahead : GoodIn wsX6_beginOf (wsV RX6 61 RX6 yX6_ahead wsX6_ahead) := goodIn_app (goodIn_of _ (by decide +kernel)) ggX6_beginOf_X6_ahead
theorem dX6_beginOf_0 : decode cX6_beginOf 0 = .ok (.iload_n 1, 1) := by decide +kernel
theorem dX6_beginOf_1 : decode cX6_beginOf 1 = .ok (.istore_n 2, 1) := by decide +kernel
theorem dX6_beginOf_2 : decode cX6_beginOf 2 = .ok (.aload_n 0, 1) := by decide +kernel
theorem dX6_beginOf_3 : decode cX6_beginOf 3 = .ok (.getfield 65, 3) := by decide +kernel
theorem dX6_beginOf_6 : decode cX6_beginOf 6 = .ok (.iload_n 2, 1) := by decide +kernel
theorem dX6_beginOf_7 : decode cX6_beginOf 7 = .ok (.ishr, 1) := by decide +kernel
theorem dX6_beginOf_8 : decode cX6_beginOf 8 = .ok (.iconst 1, 1) := by decide +kernel
theorem dX6_beginOf_9 : decode cX6_beginOf 9 = .ok (.iand, 1) := by decide +kernel
theorem dX6_beginOf_10 : decode cX6_beginOf 10 = .ok (.ifCond .ne 12, 3) := by decide +kernel
theorem dX6_beginOf_13 : decode cX6_beginOf 13 = .ok (.aload_n 0, 1) := by decide +kernel
theorem dX6_beginOf_14 : decode cX6_beginOf 14 = .ok (.iload_n 2, 1) := by decide +kernel
theorem dX6_beginOf_15 : decode cX6_beginOf 15 = .ok (.invokevirtual 61, 3) := by decide +kernel
theorem dX6_beginOf_18 : decode cX6_beginOf 18 = .ok (.istore_n 2, 1) := by decide +kernel
theorem dX6_beginOf_19 : decode cX6_beginOf 19 = .ok (.goto (-17), 3) := by decide +kernel
theorem dX6_beginOf_22 : decode cX6_beginOf 22 = .ok (.iload_n 2, 1) := by decide +kernel
theorem dX6_beginOf_23 : decode cX6_beginOf 23 = .ok (.ireturn, 1) := by decide +kernel
set_option maxRecDepth 20000 in
theorem ggX6_isPushed_X6_isOn : GoodIn wsX6_isPushed wsX6_isOn := goodIn_r _ [6, 7, 8, 9, 10, 11, 5, 12, 13, 19, 20, 21, 22, 23, 24, 25, 26, 27, 28, 29, 30, 31] (by decide +kernel) (by decide +kernel)
set_option maxRecDepth 20000 in
theorem gX6_isPushed_X6_isOn : GoodIn wsX6_isPushed (wsV RX6 78 RX6 yX6_isOn wsX6_isOn) := goodIn_app (goodIn_of _ (by decide +kernel)) ggX6_isPushed_X6_isOn
set_option maxRecDepth 20000 in
theorem ggX6_isPushed_X6_beginOf : GoodIn wsX6_isPushed wsX6_beginOf := goodIn_r _ [17, 18, 9, 10, 11, 5, 12, 13, 19, 20, 21, 22, 23, 24, 25, 26, 27, 28, 29, 30, 31] (by decide +kernel) (by decide +kernel)
set_option maxRecDepth 20000 in
theorem gX6_isPushed_X6_beginOf : GoodIn wsX6_isPushed (wsV RX6 81 RX6 yX6_beginOf wsX6_beginOf) := goodIn_app (goodIn_of _ (by decide +kernel)) ggX6_isPushed_X6_beginOf
theorem dX6_isPushed_0 : decode cX6_isPushed 0 = .ok (.aload_n 0, 1) := by decide +kernel
theorem dX6_isPushed_1 : decode cX6_isPushed 1 = .ok (.iload_n 1, 1) := by decide +kernel
theorem dX6_isPushed_2 : decode cX6_isPushed 2 = .ok (.aload_n 0, 1) := by decide +kernel
theorem dX6_isPushed_3 : decode cX6_isPushed 3 = .ok (.getfield 35, 3) := by decide +kernel
theorem dX6_isPushed_6 : decode cX6_isPushed 6 = .ok (.iload_n 2, 1) := by decide +kernel
theorem dX6_isPushed_7 : decode cX6_isPushed 7 = .ok (.iaload, 1) := by decide +kernel
theorem dX6_isPushed_8 : decode cX6_isPushed 8 = .ok (.invokevirtual 78, 3) := by decide +kernel
theorem dX6_isPushed_11 : decode cX6_isPushed 11 = .ok (.istore 4, 2) := by decide +kernel
theorem dX6_isPushed_13 : decode cX6_isPushed 13 = .ok (.iload_n 3, 1) := by decide +kernel
theorem dX6_isPushed_14 : decode cX6_isPushed 14 = .ok (.ifCond .ne 6, 3) := by decide +kernel
theorem dX6_isPushed_17 : decode cX6_isPushed 17 = .ok (.iload 4, 2) := by decide +kernel
theorem dX6_isPushed_19 : decode cX6_isPushed 19 = .ok (.ireturn, 1) := by decide +kernel
theorem dX6_isPushed_20 : decode cX6_isPushed 20 = .ok (.aload_n 0, 1) := by decide +kernel
theorem dX6_isPushed_21 : decode cX6_isPushed 21 = .ok (.iload_n 1, 1) := by decide +kernel
theorem dX6_isPushed_22 : decode cX6_isPushed 22 = .ok (.invokevirtual 81, 3) := by decide +kernel
theorem dX6_isPushed_25 : decode cX6_isPushed 25 = .ok (.aload_n 0, 1) := by decide +kernel
theorem dX6_isPushed_26 : decode cX6_isPushed 26 = .ok (.iload_n 2, 1) := by decide +kernel
theorem dX6_isPushed_27 : decode cX6_isPushed 27 = .ok (.invokevirtual 81, 3) := by decide +kernel
theorem dX6_isPushed_30 : decode cX6_isPushed 30 = .ok (.if_icmp .ne 21, 3) := by decide +kernel
theorem dX6_isPushed_33 : decode cX6_isPushed 33 = .ok (.aload_n 0, 1) := by decide +kernel
theorem dX6_isPushed_34 : decode cX6_isPushed 34 = .ok (.iload_n 1, 1) := by decide +kernel
theorem dX6_isPushed_35 : decode cX6_isPushed 35 = .ok (.invokevirtual 81, 3) := by decide +kernel
theorem dX6_isPushed_38 : decode cX6_isPushed 38 = .ok (.iload_n 1, 1) := by decide +kernel
theorem dX6_isPushed_39 : decode cX6_isPushed 39 = .ok (.if_icmp .eq 8, 3) := by decide +kernel
theorem dX6_isPushed_42 : decode cX6_isPushed 42 = .ok (.iload 4, 2) := by decide +kernel
theorem dX6_isPushed_44 : decode cX6_isPushed 44 = .ok (.ifCond .eq 7, 3) := by decide +kernel
theorem dX6_isPushed_47 : decode cX6_isPushed 47 = .ok (.iconst 1, 1) := by decide +kernel
theorem dX6_isPushed_48 : decode cX6_isPushed 48 = .ok (.goto 4, 3) := by decide +kernel
theorem dX6_isPushed_51 : decode cX6_isPushed 51 = .ok (.iconst 0, 1) := by decide +kernel
theorem dX6_isPushed_52 : decode cX6_isPushed 52 = .ok (.ireturn, 1) := by decide +kernel
set_option maxRecDepth 20000 in
theorem ggX6_clashAt_X6_isPushed : GoodIn wsX6_clashAt wsX6_isPushed := goodIn_r _ [8, 9, 10, 11, 12, 7, 13, 2, 3, 14, 15, 16, 17, 1, 18, 19, 20, 21, 22, 23, 24, 25, 26, 27, 28, 29, 30, 31, 32, 33, 34, 35] (by decide +kernel) (by decide +kernel)
set_option maxRecDepth 20000 in
theorem gX6_clashAt_X6_isPushed : GoodIn wsX6_clashAt (wsV RX6 84 RX6 yX6_isPushed wsX6_isPushed) := goodIn_app (goodIn_of _ (by decide +kernel)) ggX6_clashAt_X6_isPushed
theorem dX6_clashAt_0 : decode cX6_clashAt 0 = .ok (.iconst 0, 1) := by decide +kernel
theorem dX6_clashAt_1 : decode cX6_clashAt 1 = .ok (.istore_n 3, 1) := by decide +kernel
theorem dX6_clashAt_2 : decode cX6_clashAt 2 = .ok (.iconst 0, 1) := by decide +kernel
theorem dX6_clashAt_3 : decode cX6_clashAt 3 = .ok (.istore 4, 2) := by decide +kernel
theorem dX6_clashAt_5 : decode cX6_clashAt 5 = .ok (.iload 4, 2) := by decide +kernel
theorem dX6_clashAt_7 : decode cX6_clashAt 7 = .ok (.aload_n 0, 1) := by decide +kernel
theorem dX6_clashAt_8 : decode cX6_clashAt 8 = .ok (.getfield 45, 3) := by decide +kernel
theorem dX6_clashAt_11 : decode cX6_clashAt 11 = .ok (.if_icmp .ge 52, 3) := by decide +kernel
theorem dX6_clashAt_14 : decode cX6_clashAt 14 = .ok (.aload_n 0, 1) := by decide +kernel
theorem dX6_clashAt_15 : decode cX6_clashAt 15 = .ok (.iload 4, 2) := by decide +kernel
theorem dX6_clashAt_17 : decode cX6_clashAt 17 = .ok (.iload_n 1, 1) := by decide +kernel
theorem dX6_clashAt_18 : decode cX6_clashAt 18 = .ok (.iload_n 2, 1) := by decide +kernel
theorem dX6_clashAt_19 : decode cX6_clashAt 19 = .ok (.invokevirtual 84, 3) := by decide +kernel
theorem dX6_clashAt_22 : decode cX6_clashAt 22 = .ok (.ifCond .eq 35, 3) := by decide +kernel
theorem dX6_clashAt_25 : decode cX6_clashAt 25 = .ok (.iload_n 3, 1) := by decide +kernel
theorem dX6_clashAt_26 : decode cX6_clashAt 26 = .ok (.aload_n 0, 1) := by decide +kernel
theorem dX6_clashAt_27 : decode cX6_clashAt 27 = .ok (.getfield 7, 3) := by decide +kernel
theorem dX6_clashAt_30 : decode cX6_clashAt 30 = .ok (.iload_n 1, 1) := by decide +kernel
theorem dX6_clashAt_31 : decode cX6_clashAt 31 = .ok (.iaload, 1) := by decide +kernel
theorem dX6_clashAt_32 : decode cX6_clashAt 32 = .ok (.aload_n 0, 1) := by decide +kernel
theorem dX6_clashAt_33 : decode cX6_clashAt 33 = .ok (.getfield 13, 3) := by decide +kernel
theorem dX6_clashAt_36 : decode cX6_clashAt 36 = .ok (.iload 4, 2) := by decide +kernel
theorem dX6_clashAt_38 : decode cX6_clashAt 38 = .ok (.iaload, 1) := by decide +kernel
theorem dX6_clashAt_39 : decode cX6_clashAt 39 = .ok (.iand, 1) := by decide +kernel
theorem dX6_clashAt_40 : decode cX6_clashAt 40 = .ok (.aload_n 0, 1) := by decide +kernel
theorem dX6_clashAt_41 : decode cX6_clashAt 41 = .ok (.getfield 13, 3) := by decide +kernel
theorem dX6_clashAt_44 : decode cX6_clashAt 44 = .ok (.iload_n 1, 1) := by decide +kernel
theorem dX6_clashAt_45 : decode cX6_clashAt 45 = .ok (.iaload, 1) := by decide +kernel
theorem dX6_clashAt_46 : decode cX6_clashAt 46 = .ok (.aload_n 0, 1) := by decide +kernel
theorem dX6_clashAt_47 : decode cX6_clashAt 47 = .ok (.getfield 7, 3) := by decide +kernel
theorem dX6_clashAt_50 : decode cX6_clashAt 50 = .ok (.iload 4, 2) := by decide +kernel
theorem dX6_clashAt_52 : decode cX6_clashAt 52 = .ok (.iaload, 1) := by decide +kernel
theorem dX6_clashAt_53 : decode cX6_clashAt 53 = .ok (.iand, 1) := by decide +kernel
theorem dX6_clashAt_54 : decode cX6_clashAt 54 = .ok (.ior, 1) := by decide +kernel
theorem dX6_clashAt_55 : decode cX6_clashAt 55 = .ok (.ior, 1) := by decide +kernel
theorem dX6_clashAt_56 : decode cX6_clashAt 56 = .ok (.istore_n 3, 1) := by decide +kernel
theorem dX6_clashAt_57 : decode cX6_clashAt 57 = .ok (.iinc 4 1, 3) := by decide +kernel
theorem dX6_clashAt_60 : decode cX6_clashAt 60 = .ok (.goto (-55), 3) := by decide +kernel
theorem dX6_clashAt_63 : decode cX6_clashAt 63 = .ok (.iload_n 3, 1) := by decide +kernel
theorem dX6_clashAt_64 : decode cX6_clashAt 64 = .ok (.ireturn, 1) := by decide +kernel
set_option maxRecDepth 20000 in
theorem ggX6_firstClash_X6_findCuts : GoodIn wsX6_firstClash wsX6_findCuts := goodIn_r _ [6, 1, 7, 8, 9, 5, 10, 11, 12, 13, 14, 15, 16, 17, 18, 19, 41, 42, 43, 44, 45, 46, 47, 48, 49, 50, 51, 52, 53] (by decide +kernel) (by decide +kernel)
set_option maxRecDepth 20000 in
theorem gX6_firstClash_X6_findCuts : GoodIn wsX6_firstClash (wsV RX6 87 RX6 yX6_findCuts wsX6_findCuts) := goodIn_app (goodIn_of _ (by decide +kernel)) ggX6_firstClash_X6_findCuts
set_option maxRecDepth 20000 in
theorem ggX6_firstClash_X6_clashAt : GoodIn wsX6_firstClash wsX6_clashAt := goodIn_r _ [23, 1, 18, 19, 24, 25, 26, 5, 27, 28, 29, 30, 31, 32, 33, 34, 35, 36, 37, 38, 39, 40, 7, 41, 42, 43, 44, 45, 46, 47, 48, 49, 50, 51, 52, 53] (by decide +kernel) (by decide +kernel)
set_option maxRecDepth 20000 in
theorem gX6_firstClash_X6_clashAt : GoodIn wsX6_firstClash (wsV RX6 90 RX6 yX6_clashAt wsX6_clashAt) := goodIn_app (goodIn_of _ (by decide +kernel)) ggX6_firstClash_X6_clashAt
theorem dX6_firstClash_0 : decode cX6_firstClash 0 = .ok (.aload_n 0, 1) := by decide +kernel
theorem dX6_firstClash_1 : decode cX6_firstClash 1 = .ok (.invokevirtual 87, 3) := by decide +kernel
theorem dX6_firstClash_4 : decode cX6_firstClash 4 = .ok (.iconst 0, 1) := by decide +kernel
theorem dX6_firstClash_5 : decode cX6_firstClash 5 = .ok (.istore_n 2, 1) := by decide +kernel
theorem dX6_firstClash_6 : decode cX6_firstClash 6 = .ok (.iload_n 2, 1) := by decide +kernel
theorem dX6_firstClash_7 : decode cX6_firstClash 7 = .ok (.aload_n 0, 1) := by decide +kernel
theorem dX6_firstClash_8 : decode cX6_firstClash 8 = .ok (.getfield 45, 3) := by decide +kernel
theorem dX6_firstClash_11 : decode cX6_firstClash 11 = .ok (.if_icmp .ge 20, 3) := by decide +kernel
theorem dX6_firstClash_14 : decode cX6_firstClash 14 = .ok (.aload_n 0, 1) := by decide +kernel
theorem dX6_firstClash_15 : decode cX6_firstClash 15 = .ok (.iload_n 2, 1) := by decide +kernel
theorem dX6_firstClash_16 : decode cX6_firstClash 16 = .ok (.iload_n 1, 1) := by decide +kernel
theorem dX6_firstClash_17 : decode cX6_firstClash 17 = .ok (.invokevirtual 90, 3) := by decide +kernel
theorem dX6_firstClash_20 : decode cX6_firstClash 20 = .ok (.ifCond .eq 5, 3) := by decide +kernel
theorem dX6_firstClash_23 : decode cX6_firstClash 23 = .ok (.iload_n 2, 1) := by decide +kernel
theorem dX6_firstClash_24 : decode cX6_firstClash 24 = .ok (.ireturn, 1) := by decide +kernel
theorem dX6_firstClash_25 : decode cX6_firstClash 25 = .ok (.iinc 2 1, 3) := by decide +kernel
theorem dX6_firstClash_28 : decode cX6_firstClash 28 = .ok (.goto (-22), 3) := by decide +kernel
theorem dX6_firstClash_31 : decode cX6_firstClash 31 = .ok (.iconst (-1), 1) := by decide +kernel
theorem dX6_firstClash_32 : decode cX6_firstClash 32 = .ok (.ireturn, 1) := by decide +kernel
set_option maxRecDepth 20000 in
theorem ggX6_clash_X6_in : GoodIn wsX6_clash wsX6_in := goodIn_r _ [4] (by decide +kernel) (by decide +kernel)
set_option maxRecDepth 20000 in
theorem gX6_clash_X6_in : GoodIn wsX6_clash (va_wsS RX6 41 yX6_in wsX6_in) := goodIn_app (goodIn_of _ (by decide +kernel)) ggX6_clash_X6_in
set_option maxRecDepth 20000 in
theorem ggX6_clash_X6_isSound : GoodIn wsX6_clash wsX6_isSound := goodIn_r _ [8, 9, 10, 11, 3, 12, 13, 14, 15, 16, 56, 57, 58, 59, 60, 61, 62, 63, 64, 65, 66, 67, 68] (by decide +kernel) (by decide +kernel)
set_option maxRecDepth 20000 in
theorem gX6_clash_X6_isSound : GoodIn wsX6_clash (wsV RX6 57 RX6 yX6_isSound wsX6_isSound) := goodIn_app (goodIn_of _ (by decide +kernel)) ggX6_clash_X6_isSound
set_option maxRecDepth 20000 in
theorem ggX6_clash_X6_firstClash : GoodIn wsX6_clash wsX6_firstClash := goodIn_r _ [20, 14, 21, 22, 23, 3, 24, 25, 26, 27, 28, 29, 30, 31, 32, 33, 34, 35, 15, 16, 36, 37, 38, 39, 40, 41, 42, 43, 13, 44, 45, 46, 47, 48, 49, 50, 51, 52, 53, 54, 55, 56, 57, 58, 59, 60, 61, 62, 63, 64, 65, 66, 67, 68] (by decide +kernel) (by decide +kernel)
set_option maxRecDepth 20000 in
theorem gX6_clash_X6_firstClash : GoodIn wsX6_clash (wsV RX6 94 RX6 yX6_firstClash wsX6_firstClash) := goodIn_app (goodIn_of _ (by decide +kernel)) ggX6_clash_X6_firstClash
theorem dX6_clash_0 : decode cX6_clash 0 = .ok (.iload_n 1, 1) := by decide +kernel
theorem dX6_clash_1 : decode cX6_clash 1 = .ok (.iconst 0, 1) := by decide +kernel
theorem dX6_clash_2 : decode cX6_clash 2 = .ok (.iconst 1, 1) := by decide +kernel
theorem dX6_clash_3 : decode cX6_clash 3 = .ok (.invokestatic 41, 3) := by decide +kernel
theorem dX6_clash_6 : decode cX6_clash 6 = .ok (.ifCond .ne 6, 3) := by decide +kernel
theorem dX6_clash_9 : decode cX6_clash 9 = .ok (.bipush (-2), 2) := by decide +kernel
theorem dX6_clash_11 : decode cX6_clash 11 = .ok (.ireturn, 1) := by decide +kernel
theorem dX6_clash_12 : decode cX6_clash 12 = .ok (.aload_n 0, 1) := by decide +kernel
theorem dX6_clash_13 : decode cX6_clash 13 = .ok (.invokevirtual 57, 3) := by decide +kernel
theorem dX6_clash_16 : decode cX6_clash 16 = .ok (.ifCond .eq 11, 3) := by decide +kernel
theorem dX6_clash_19 : decode cX6_clash 19 = .ok (.aload_n 0, 1) := by decide +kernel
theorem dX6_clash_20 : decode cX6_clash 20 = .ok (.iload_n 1, 1) := by decide +kernel
theorem dX6_clash_21 : decode cX6_clash 21 = .ok (.invokevirtual 94, 3) := by decide +kernel
theorem dX6_clash_24 : decode cX6_clash 24 = .ok (.goto 5, 3) := by decide +kernel
theorem dX6_clash_27 : decode cX6_clash 27 = .ok (.bipush (-3), 2) := by decide +kernel
theorem dX6_clash_29 : decode cX6_clash 29 = .ok (.ireturn, 1) := by decide +kernel
set_option maxRecDepth 20000 in
theorem ggX6_clashOf_X6_in : GoodIn wsX6_clashOf wsX6_in := goodIn_r _ [4] (by decide +kernel) (by decide +kernel)
set_option maxRecDepth 20000 in
theorem gX6_clashOf_X6_in : GoodIn wsX6_clashOf (va_wsS RX6 41 yX6_in wsX6_in) := goodIn_app (goodIn_of _ (by decide +kernel)) ggX6_clashOf_X6_in
set_option maxRecDepth 20000 in
theorem ggX6_clashOf_X6_isSound : GoodIn wsX6_clashOf wsX6_isSound := goodIn_r _ [8, 9, 10, 11, 3, 12, 13, 14, 15, 16, 56, 57, 58, 59, 60, 61, 62, 63, 64, 65, 66, 67, 68] (by decide +kernel) (by decide +kernel)
set_option maxRecDepth 20000 in
theorem gX6_clashOf_X6_isSound : GoodIn wsX6_clashOf (wsV RX6 57 RX6 yX6_isSound wsX6_isSound) := goodIn_app (goodIn_of _ (by decide +kernel)) ggX6_clashOf_X6_isSound
set_option maxRecDepth 20000 in
theorem ggX6_clashOf_X6_firstClash : GoodIn wsX6_clashOf wsX6_firstClash := goodIn_r _ [20, 14, 21, 22, 23, 3, 24, 25, 26, 27, 28, 29, 30, 31, 32, 33, 34, 35, 15, 16, 36, 37, 38, 39, 40, 41, 42, 43, 13, 44, 45, 46, 47, 48, 49, 50, 51, 52, 53, 54, 55, 56, 57, 58, 59, 60, 61, 62, 63, 64, 65, 66, 67, 68] (by decide +kernel) (by decide +kernel)
set_option maxRecDepth 20000 in
theorem gX6_clashOf_X6_firstClash : GoodIn wsX6_clashOf (wsV RX6 94 RX6 yX6_firstClash wsX6_firstClash) := goodIn_app (goodIn_of _ (by decide +kernel)) ggX6_clashOf_X6_firstClash
set_option maxRecDepth 20000 in
theorem ggX6_clashOf_X6_clashAt : GoodIn wsX6_clashOf wsX6_clashAt := goodIn_r _ [39, 14, 15, 16, 40, 41, 42, 3, 43, 13, 44, 45, 46, 47, 48, 49, 50, 51, 52, 53, 54, 55, 25, 56, 57, 58, 59, 60, 61, 62, 63, 64, 65, 66, 67, 68] (by decide +kernel) (by decide +kernel)
set_option maxRecDepth 20000 in
theorem gX6_clashOf_X6_clashAt : GoodIn wsX6_clashOf (wsV RX6 90 RX6 yX6_clashAt wsX6_clashAt) := goodIn_app (goodIn_of _ (by decide +kernel)) ggX6_clashOf_X6_clashAt
theorem dX6_clashOf_0 : decode cX6_clashOf 0 = .ok (.iload_n 1, 1) := by decide +kernel
theorem dX6_clashOf_1 : decode cX6_clashOf 1 = .ok (.iconst 0, 1) := by decide +kernel
theorem dX6_clashOf_2 : decode cX6_clashOf 2 = .ok (.iconst 1, 1) := by decide +kernel
theorem dX6_clashOf_3 : decode cX6_clashOf 3 = .ok (.invokestatic 41, 3) := by decide +kernel
theorem dX6_clashOf_6 : decode cX6_clashOf 6 = .ok (.ifCond .ne 6, 3) := by decide +kernel
theorem dX6_clashOf_9 : decode cX6_clashOf 9 = .ok (.bipush (-2), 2) := by decide +kernel
theorem dX6_clashOf_11 : decode cX6_clashOf 11 = .ok (.ireturn, 1) := by decide +kernel
theorem dX6_clashOf_12 : decode cX6_clashOf 12 = .ok (.aload_n 0, 1) := by decide +kernel
theorem dX6_clashOf_13 : decode cX6_clashOf 13 = .ok (.invokevirtual 57, 3) := by decide +kernel
theorem dX6_clashOf_16 : decode cX6_clashOf 16 = .ok (.ifCond .ne 6, 3) := by decide +kernel
theorem dX6_clashOf_19 : decode cX6_clashOf 19 = .ok (.bipush (-3), 2) := by decide +kernel
theorem dX6_clashOf_21 : decode cX6_clashOf 21 = .ok (.ireturn, 1) := by decide +kernel
theorem dX6_clashOf_22 : decode cX6_clashOf 22 = .ok (.aload_n 0, 1) := by decide +kernel
theorem dX6_clashOf_23 : decode cX6_clashOf 23 = .ok (.iload_n 1, 1) := by decide +kernel
theorem dX6_clashOf_24 : decode cX6_clashOf 24 = .ok (.invokevirtual 94, 3) := by decide +kernel
theorem dX6_clashOf_27 : decode cX6_clashOf 27 = .ok (.istore_n 2, 1) := by decide +kernel
theorem dX6_clashOf_28 : decode cX6_clashOf 28 = .ok (.iconst 0, 1) := by decide +kernel
theorem dX6_clashOf_29 : decode cX6_clashOf 29 = .ok (.istore_n 3, 1) := by decide +kernel
theorem dX6_clashOf_30 : decode cX6_clashOf 30 = .ok (.iload_n 3, 1) := by decide +kernel
theorem dX6_clashOf_31 : decode cX6_clashOf 31 = .ok (.bipush 6, 2) := by decide +kernel
theorem dX6_clashOf_33 : decode cX6_clashOf 33 = .ok (.if_icmp .ge 30, 3) := by decide +kernel
theorem dX6_clashOf_36 : decode cX6_clashOf 36 = .ok (.iload_n 2, 1) := by decide +kernel
theorem dX6_clashOf_37 : decode cX6_clashOf 37 = .ok (.iconst (-1), 1) := by decide +kernel
theorem dX6_clashOf_38 : decode cX6_clashOf 38 = .ok (.if_icmp .eq 25, 3) := by decide +kernel
theorem dX6_clashOf_41 : decode cX6_clashOf 41 = .ok (.aload_n 0, 1) := by decide +kernel
theorem dX6_clashOf_42 : decode cX6_clashOf 42 = .ok (.iload_n 2, 1) := by decide +kernel
theorem dX6_clashOf_43 : decode cX6_clashOf 43 = .ok (.iload_n 1, 1) := by decide +kernel
theorem dX6_clashOf_44 : decode cX6_clashOf 44 = .ok (.invokevirtual 90, 3) := by decide +kernel
theorem dX6_clashOf_47 : decode cX6_clashOf 47 = .ok (.iload_n 3, 1) := by decide +kernel
theorem dX6_clashOf_48 : decode cX6_clashOf 48 = .ok (.ishr, 1) := by decide +kernel
theorem dX6_clashOf_49 : decode cX6_clashOf 49 = .ok (.iconst 1, 1) := by decide +kernel
theorem dX6_clashOf_50 : decode cX6_clashOf 50 = .ok (.iand, 1) := by decide +kernel
theorem dX6_clashOf_51 : decode cX6_clashOf 51 = .ok (.iconst 1, 1) := by decide +kernel
theorem dX6_clashOf_52 : decode cX6_clashOf 52 = .ok (.if_icmp .ne 5, 3) := by decide +kernel
theorem dX6_clashOf_55 : decode cX6_clashOf 55 = .ok (.iload_n 3, 1) := by decide +kernel
theorem dX6_clashOf_56 : decode cX6_clashOf 56 = .ok (.ireturn, 1) := by decide +kernel
theorem dX6_clashOf_57 : decode cX6_clashOf 57 = .ok (.iinc 3 1, 3) := by decide +kernel
theorem dX6_clashOf_60 : decode cX6_clashOf 60 = .ok (.goto (-30), 3) := by decide +kernel
theorem dX6_clashOf_63 : decode cX6_clashOf 63 = .ok (.iconst (-1), 1) := by decide +kernel
theorem dX6_clashOf_64 : decode cX6_clashOf 64 = .ok (.ireturn, 1) := by decide +kernel
set_option maxRecDepth 20000 in
theorem ggX6_groups_X6_isSound : GoodIn wsX6_groups wsX6_isSound := goodIn_r _ [6, 7, 8, 9, 5, 10, 11, 12, 13, 14, 29, 30, 31, 32, 33, 34, 35, 36, 37, 38, 39, 40, 41] (by decide +kernel) (by decide +kernel)
set_option maxRecDepth 20000 in
theorem gX6_groups_X6_isSound : GoodIn wsX6_groups (wsV RX6 57 RX6 yX6_isSound wsX6_isSound) := goodIn_app (goodIn_of _ (by decide +kernel)) ggX6_groups_X6_isSound
set_option maxRecDepth 20000 in
theorem ggX6_groups_X6_findCuts : GoodIn wsX6_groups wsX6_findCuts := goodIn_r _ [18, 12, 1, 19, 20, 5, 21, 22, 23, 24, 25, 26, 27, 28, 13, 14, 29, 30, 31, 32, 33, 34, 35, 36, 37, 38, 39, 40, 41] (by decide +kernel) (by decide +kernel)
set_option maxRecDepth 20000 in
theorem gX6_groups_X6_findCuts : GoodIn wsX6_groups (wsV RX6 87 RX6 yX6_findCuts wsX6_findCuts) := goodIn_app (goodIn_of _ (by decide +kernel)) ggX6_groups_X6_findCuts
set_option maxRecDepth 20000 in
theorem ggX6_groups_X6_ones : GoodIn wsX6_groups wsX6_ones := goodIn_r _ [21] (by decide +kernel) (by decide +kernel)
set_option maxRecDepth 20000 in
theorem gX6_groups_X6_ones : GoodIn wsX6_groups (va_wsS RX6 68 yX6_ones wsX6_ones) := goodIn_app (goodIn_of _ (by decide +kernel)) ggX6_groups_X6_ones
theorem dX6_groups_0 : decode cX6_groups 0 = .ok (.aload_n 0, 1) := by decide +kernel
theorem dX6_groups_1 : decode cX6_groups 1 = .ok (.invokevirtual 57, 3) := by decide +kernel
theorem dX6_groups_4 : decode cX6_groups 4 = .ok (.ifCond .ne 6, 3) := by decide +kernel
theorem dX6_groups_7 : decode cX6_groups 7 = .ok (.bipush (-3), 2) := by decide +kernel
theorem dX6_groups_9 : decode cX6_groups 9 = .ok (.ireturn, 1) := by decide +kernel
theorem dX6_groups_10 : decode cX6_groups 10 = .ok (.aload_n 0, 1) := by decide +kernel
theorem dX6_groups_11 : decode cX6_groups 11 = .ok (.invokevirtual 87, 3) := by decide +kernel
theorem dX6_groups_14 : decode cX6_groups 14 = .ok (.aload_n 0, 1) := by decide +kernel
theorem dX6_groups_15 : decode cX6_groups 15 = .ok (.getfield 65, 3) := by decide +kernel
theorem dX6_groups_18 : decode cX6_groups 18 = .ok (.invokestatic 68, 3) := by decide +kernel
theorem dX6_groups_21 : decode cX6_groups 21 = .ok (.ireturn, 1) := by decide +kernel
set_option maxRecDepth 20000 in
theorem ggX6_cut_X6_isSound : GoodIn wsX6_cut wsX6_isSound := goodIn_r _ [7, 8, 9, 10, 6, 11, 12, 1, 13, 14, 29, 30, 31, 32, 33, 34, 35, 36, 37, 38, 39, 40, 41] (by decide +kernel) (by decide +kernel)
set_option maxRecDepth 20000 in
theorem gX6_cut_X6_isSound : GoodIn wsX6_cut (wsV RX6 57 RX6 yX6_isSound wsX6_isSound) := goodIn_app (goodIn_of _ (by decide +kernel)) ggX6_cut_X6_isSound
set_option maxRecDepth 20000 in
theorem ggX6_cut_X6_findCuts : GoodIn wsX6_cut wsX6_findCuts := goodIn_r _ [18, 1, 2, 19, 20, 6, 21, 22, 23, 24, 25, 26, 27, 28, 13, 14, 29, 30, 31, 32, 33, 34, 35, 36, 37, 38, 39, 40, 41] (by decide +kernel) (by decide +kernel)
set_option maxRecDepth 20000 in
theorem gX6_cut_X6_findCuts : GoodIn wsX6_cut (wsV RX6 87 RX6 yX6_findCuts wsX6_findCuts) := goodIn_app (goodIn_of _ (by decide +kernel)) ggX6_cut_X6_findCuts
theorem dX6_cut_0 : decode cX6_cut 0 = .ok (.iload_n 1, 1) := by decide +kernel
theorem dX6_cut_1 : decode cX6_cut 1 = .ok (.ifCond .ge 6, 3) := by decide +kernel
theorem dX6_cut_4 : decode cX6_cut 4 = .ok (.bipush (-2), 2) := by decide +kernel
theorem dX6_cut_6 : decode cX6_cut 6 = .ok (.ireturn, 1) := by decide +kernel
theorem dX6_cut_7 : decode cX6_cut 7 = .ok (.aload_n 0, 1) := by decide +kernel
theorem dX6_cut_8 : decode cX6_cut 8 = .ok (.invokevirtual 57, 3) := by decide +kernel
theorem dX6_cut_11 : decode cX6_cut 11 = .ok (.ifCond .ne 6, 3) := by decide +kernel
theorem dX6_cut_14 : decode cX6_cut 14 = .ok (.bipush (-3), 2) := by decide +kernel
theorem dX6_cut_16 : decode cX6_cut 16 = .ok (.ireturn, 1) := by decide +kernel
theorem dX6_cut_17 : decode cX6_cut 17 = .ok (.aload_n 0, 1) := by decide +kernel
theorem dX6_cut_18 : decode cX6_cut 18 = .ok (.invokevirtual 87, 3) := by decide +kernel
theorem dX6_cut_21 : decode cX6_cut 21 = .ok (.iload_n 1, 1) := by decide +kernel
theorem dX6_cut_22 : decode cX6_cut 22 = .ok (.istore_n 2, 1) := by decide +kernel
theorem dX6_cut_23 : decode cX6_cut 23 = .ok (.iconst 0, 1) := by decide +kernel
theorem dX6_cut_24 : decode cX6_cut 24 = .ok (.istore_n 3, 1) := by decide +kernel
theorem dX6_cut_25 : decode cX6_cut 25 = .ok (.iload_n 3, 1) := by decide +kernel
theorem dX6_cut_26 : decode cX6_cut 26 = .ok (.aload_n 0, 1) := by decide +kernel
theorem dX6_cut_27 : decode cX6_cut 27 = .ok (.getfield 45, 3) := by decide +kernel
theorem dX6_cut_30 : decode cX6_cut 30 = .ok (.if_icmp .ge 30, 3) := by decide +kernel
theorem dX6_cut_33 : decode cX6_cut 33 = .ok (.aload_n 0, 1) := by decide +kernel
theorem dX6_cut_34 : decode cX6_cut 34 = .ok (.getfield 65, 3) := by decide +kernel
theorem dX6_cut_37 : decode cX6_cut 37 = .ok (.iload_n 3, 1) := by decide +kernel
theorem dX6_cut_38 : decode cX6_cut 38 = .ok (.ishr, 1) := by decide +kernel
theorem dX6_cut_39 : decode cX6_cut 39 = .ok (.iconst 1, 1) := by decide +kernel
theorem dX6_cut_40 : decode cX6_cut 40 = .ok (.iand, 1) := by decide +kernel
theorem dX6_cut_41 : decode cX6_cut 41 = .ok (.iconst 1, 1) := by decide +kernel
theorem dX6_cut_42 : decode cX6_cut 42 = .ok (.if_icmp .ne 12, 3) := by decide +kernel
theorem dX6_cut_45 : decode cX6_cut 45 = .ok (.iload_n 2, 1) := by decide +kernel
theorem dX6_cut_46 : decode cX6_cut 46 = .ok (.ifCond .ne 5, 3) := by decide +kernel
theorem dX6_cut_49 : decode cX6_cut 49 = .ok (.iload_n 3, 1) := by decide +kernel
theorem dX6_cut_50 : decode cX6_cut 50 = .ok (.ireturn, 1) := by decide +kernel
theorem dX6_cut_51 : decode cX6_cut 51 = .ok (.iinc 2 (-1), 3) := by decide +kernel
theorem dX6_cut_54 : decode cX6_cut 54 = .ok (.iinc 3 1, 3) := by decide +kernel
theorem dX6_cut_57 : decode cX6_cut 57 = .ok (.goto (-32), 3) := by decide +kernel
theorem dX6_cut_60 : decode cX6_cut 60 = .ok (.bipush (-2), 2) := by decide +kernel
theorem dX6_cut_62 : decode cX6_cut 62 = .ok (.ireturn, 1) := by decide +kernel
set_option maxRecDepth 20000 in
theorem ggX6_memories_X6_isSound : GoodIn wsX6_memories wsX6_isSound := goodIn_r _ [7, 8, 9, 10, 6, 11, 2, 1, 12, 13, 14, 15, 16, 17, 18, 19, 20, 21, 22, 23, 24, 25, 26] (by decide +kernel) (by decide +kernel)
set_option maxRecDepth 20000 in
theorem gX6_memories_X6_isSound : GoodIn wsX6_memories (wsV RX6 57 RX6 yX6_isSound wsX6_isSound) := goodIn_app (goodIn_of _ (by decide +kernel)) ggX6_memories_X6_isSound
theorem dX6_memories_0 : decode cX6_memories 0 = .ok (.aload_n 0, 1) := by decide +kernel
theorem dX6_memories_1 : decode cX6_memories 1 = .ok (.invokevirtual 57, 3) := by decide +kernel
theorem dX6_memories_4 : decode cX6_memories 4 = .ok (.ifCond .ne 6, 3) := by decide +kernel
theorem dX6_memories_7 : decode cX6_memories 7 = .ok (.bipush (-3), 2) := by decide +kernel
theorem dX6_memories_9 : decode cX6_memories 9 = .ok (.ireturn, 1) := by decide +kernel
theorem dX6_memories_10 : decode cX6_memories 10 = .ok (.iconst 0, 1) := by decide +kernel
theorem dX6_memories_11 : decode cX6_memories 11 = .ok (.istore_n 1, 1) := by decide +kernel
theorem dX6_memories_12 : decode cX6_memories 12 = .ok (.iconst 0, 1) := by decide +kernel
theorem dX6_memories_13 : decode cX6_memories 13 = .ok (.istore_n 2, 1) := by decide +kernel
theorem dX6_memories_14 : decode cX6_memories 14 = .ok (.iload_n 2, 1) := by decide +kernel
theorem dX6_memories_15 : decode cX6_memories 15 = .ok (.aload_n 0, 1) := by decide +kernel
theorem dX6_memories_16 : decode cX6_memories 16 = .ok (.getfield 45, 3) := by decide +kernel
theorem dX6_memories_19 : decode cX6_memories 19 = .ok (.if_icmp .ge 64, 3) := by decide +kernel
theorem dX6_memories_22 : decode cX6_memories 22 = .ok (.iconst 0, 1) := by decide +kernel
theorem dX6_memories_23 : decode cX6_memories 23 = .ok (.istore_n 3, 1) := by decide +kernel
theorem dX6_memories_24 : decode cX6_memories 24 = .ok (.iconst 0, 1) := by decide +kernel
theorem dX6_memories_25 : decode cX6_memories 25 = .ok (.istore 4, 2) := by decide +kernel
theorem dX6_memories_27 : decode cX6_memories 27 = .ok (.iload 4, 2) := by decide +kernel
theorem dX6_memories_29 : decode cX6_memories 29 = .ok (.aload_n 0, 1) := by decide +kernel
theorem dX6_memories_30 : decode cX6_memories 30 = .ok (.getfield 45, 3) := by decide +kernel
theorem dX6_memories_33 : decode cX6_memories 33 = .ok (.if_icmp .ge 33, 3) := by decide +kernel
theorem dX6_memories_36 : decode cX6_memories 36 = .ok (.iload_n 3, 1) := by decide +kernel
theorem dX6_memories_37 : decode cX6_memories 37 = .ok (.aload_n 0, 1) := by decide +kernel
theorem dX6_memories_38 : decode cX6_memories 38 = .ok (.getfield 35, 3) := by decide +kernel
theorem dX6_memories_41 : decode cX6_memories 41 = .ok (.iload 4, 2) := by decide +kernel
theorem dX6_memories_43 : decode cX6_memories 43 = .ok (.iaload, 1) := by decide +kernel
theorem dX6_memories_44 : decode cX6_memories 44 = .ok (.aload_n 0, 1) := by decide +kernel
theorem dX6_memories_45 : decode cX6_memories 45 = .ok (.getfield 35, 3) := by decide +kernel
theorem dX6_memories_48 : decode cX6_memories 48 = .ok (.iload_n 2, 1) := by decide +kernel
theorem dX6_memories_49 : decode cX6_memories 49 = .ok (.iaload, 1) := by decide +kernel
theorem dX6_memories_50 : decode cX6_memories 50 = .ok (.if_icmp .ne 7, 3) := by decide +kernel
theorem dX6_memories_53 : decode cX6_memories 53 = .ok (.iconst 1, 1) := by decide +kernel
theorem dX6_memories_54 : decode cX6_memories 54 = .ok (.goto 4, 3) := by decide +kernel
theorem dX6_memories_57 : decode cX6_memories 57 = .ok (.iconst 0, 1) := by decide +kernel
theorem dX6_memories_58 : decode cX6_memories 58 = .ok (.iadd, 1) := by decide +kernel
theorem dX6_memories_59 : decode cX6_memories 59 = .ok (.istore_n 3, 1) := by decide +kernel
theorem dX6_memories_60 : decode cX6_memories 60 = .ok (.iinc 4 1, 3) := by decide +kernel
theorem dX6_memories_63 : decode cX6_memories 63 = .ok (.goto (-36), 3) := by decide +kernel
theorem dX6_memories_66 : decode cX6_memories 66 = .ok (.iload_n 3, 1) := by decide +kernel
theorem dX6_memories_67 : decode cX6_memories 67 = .ok (.iload_n 1, 1) := by decide +kernel
theorem dX6_memories_68 : decode cX6_memories 68 = .ok (.if_icmp .le 7, 3) := by decide +kernel
theorem dX6_memories_71 : decode cX6_memories 71 = .ok (.iload_n 3, 1) := by decide +kernel
theorem dX6_memories_72 : decode cX6_memories 72 = .ok (.goto 4, 3) := by decide +kernel
theorem dX6_memories_75 : decode cX6_memories 75 = .ok (.iload_n 1, 1) := by decide +kernel
theorem dX6_memories_76 : decode cX6_memories 76 = .ok (.istore_n 1, 1) := by decide +kernel
theorem dX6_memories_77 : decode cX6_memories 77 = .ok (.iinc 2 1, 3) := by decide +kernel
theorem dX6_memories_80 : decode cX6_memories 80 = .ok (.goto (-66), 3) := by decide +kernel
theorem dX6_memories_83 : decode cX6_memories 83 = .ok (.iconst 0, 1) := by decide +kernel
theorem dX6_memories_84 : decode cX6_memories 84 = .ok (.istore_n 2, 1) := by decide +kernel
theorem dX6_memories_85 : decode cX6_memories 85 = .ok (.iconst 1, 1) := by decide +kernel
theorem dX6_memories_86 : decode cX6_memories 86 = .ok (.iload_n 2, 1) := by decide +kernel
theorem dX6_memories_87 : decode cX6_memories 87 = .ok (.ishl, 1) := by decide +kernel
theorem dX6_memories_88 : decode cX6_memories 88 = .ok (.iload_n 1, 1) := by decide +kernel
theorem dX6_memories_89 : decode cX6_memories 89 = .ok (.if_icmp .ge 9, 3) := by decide +kernel
theorem dX6_memories_92 : decode cX6_memories 92 = .ok (.iinc 2 1, 3) := by decide +kernel
theorem dX6_memories_95 : decode cX6_memories 95 = .ok (.goto (-10), 3) := by decide +kernel
theorem dX6_memories_98 : decode cX6_memories 98 = .ok (.iload_n 2, 1) := by decide +kernel
theorem dX6_memories_99 : decode cX6_memories 99 = .ok (.ireturn, 1) := by decide +kernel
set_option maxRecDepth 20000 in
theorem ggX6_isCylinder_X6_in : GoodIn wsX6_isCylinder wsX6_in := goodIn_r _ [4] (by decide +kernel) (by decide +kernel)
set_option maxRecDepth 20000 in
theorem gX6_isCylinder_X6_in : GoodIn wsX6_isCylinder (va_wsS RX6 41 yX6_in wsX6_in) := goodIn_app (goodIn_of _ (by decide +kernel)) ggX6_isCylinder_X6_in
theorem dX6_isCylinder_0 : decode cX6_isCylinder 0 = .ok (.iload_n 0, 1) := by decide +kernel
theorem dX6_isCylinder_1 : decode cX6_isCylinder 1 = .ok (.iconst 0, 1) := by decide +kernel
theorem dX6_isCylinder_2 : decode cX6_isCylinder 2 = .ok (.iconst 5, 1) := by decide +kernel
theorem dX6_isCylinder_3 : decode cX6_isCylinder 3 = .ok (.invokestatic 41, 3) := by decide +kernel
theorem dX6_isCylinder_6 : decode cX6_isCylinder 6 = .ok (.ireturn, 1) := by decide +kernel
set_option maxRecDepth 20000 in
theorem ggX6_pace_X6_isCylinder : GoodIn wsX6_pace wsX6_isCylinder := goodIn_r _ [6, 7, 8, 5, 9] (by decide +kernel) (by decide +kernel)
set_option maxRecDepth 20000 in
theorem gX6_pace_X6_isCylinder : GoodIn wsX6_pace (va_wsS RX6 97 yX6_isCylinder wsX6_isCylinder) := goodIn_app (goodIn_of _ (by decide +kernel)) ggX6_pace_X6_isCylinder
set_option maxRecDepth 20000 in
theorem ggX6_pace_X6_in : GoodIn wsX6_pace wsX6_in := goodIn_r _ [9] (by decide +kernel) (by decide +kernel)
set_option maxRecDepth 20000 in
theorem gX6_pace_X6_in : GoodIn wsX6_pace (va_wsS RX6 41 yX6_in wsX6_in) := goodIn_app (goodIn_of _ (by decide +kernel)) ggX6_pace_X6_in
theorem dX6_pace_0 : decode cX6_pace 0 = .ok (.iload_n 1, 1) := by decide +kernel
theorem dX6_pace_1 : decode cX6_pace 1 = .ok (.invokestatic 97, 3) := by decide +kernel
theorem dX6_pace_4 : decode cX6_pace 4 = .ok (.ifCond .eq 24, 3) := by decide +kernel
theorem dX6_pace_7 : decode cX6_pace 7 = .ok (.iload_n 3, 1) := by decide +kernel
theorem dX6_pace_8 : decode cX6_pace 8 = .ok (.iconst 1, 1) := by decide +kernel
theorem dX6_pace_9 : decode cX6_pace 9 = .ok (.bipush 100, 2) := by decide +kernel
theorem dX6_pace_11 : decode cX6_pace 11 = .ok (.invokestatic 41, 3) := by decide +kernel
theorem dX6_pace_14 : decode cX6_pace 14 = .ok (.ifCond .eq 14, 3) := by decide +kernel
theorem dX6_pace_17 : decode cX6_pace 17 = .ok (.iload 4, 2) := by decide +kernel
theorem dX6_pace_19 : decode cX6_pace 19 = .ok (.iload_n 3, 1) := by decide +kernel
theorem dX6_pace_20 : decode cX6_pace 20 = .ok (.bipush 100, 2) := by decide +kernel
theorem dX6_pace_22 : decode cX6_pace 22 = .ok (.invokestatic 41, 3) := by decide +kernel
theorem dX6_pace_25 : decode cX6_pace 25 = .ok (.ifCond .ne 6, 3) := by decide +kernel
theorem dX6_pace_28 : decode cX6_pace 28 = .ok (.bipush (-2), 2) := by decide +kernel
