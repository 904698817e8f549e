theorem dX0_init_0 : decode cX0_init 0 = .ok (.aload_n 0, 1) := by decide +kernel
theorem dX0_init_1 : decode cX0_init 1 = .ok (.invokespecial 3, 3) := by decide +kernel
theorem dX0_init_4 : decode cX0_init 4 = .ok (.aload_n 0, 1) := by decide +kernel
theorem dX0_init_5 : decode cX0_init 5 = .ok (.bipush 16, 2) := by decide +kernel
theorem dX0_init_7 : decode cX0_init 7 = .ok (.newarray .int, 2) := by decide +kernel
theorem dX0_init_9 : decode cX0_init 9 = .ok (.putfield 9, 3) := by decide +kernel
theorem dX0_init_12 : decode cX0_init 12 = .ok (.aload_n 0, 1) := by decide +kernel
theorem dX0_init_13 : decode cX0_init 13 = .ok (.bipush 16, 2) := by decide +kernel
theorem dX0_init_15 : decode cX0_init 15 = .ok (.newarray .int, 2) := by decide +kernel
theorem dX0_init_17 : decode cX0_init 17 = .ok (.putfield 15, 3) := by decide +kernel
theorem dX0_init_20 : decode cX0_init 20 = .ok (.aload_n 0, 1) := by decide +kernel
theorem dX0_init_21 : decode cX0_init 21 = .ok (.iconst 0, 1) := by decide +kernel
theorem dX0_init_22 : decode cX0_init 22 = .ok (.putfield 18, 3) := by decide +kernel
theorem dX0_init_25 : decode cX0_init 25 = .ok (.return_, 1) := by decide +kernel
theorem dX0_size_0 : decode cX0_size 0 = .ok (.aload_n 0, 1) := by decide +kernel
theorem dX0_size_1 : decode cX0_size 1 = .ok (.getfield 18, 3) := by decide +kernel
theorem dX0_size_4 : decode cX0_size 4 = .ok (.ireturn, 1) := by decide +kernel
set_option maxRecDepth 20000 in
theorem ggX0_cutAt_X5_isBelow : GoodIn wsX0_cutAt wsX5_isBelow := goodIn_r _ [5] (by decide +kernel) (by decide +kernel)
set_option maxRecDepth 20000 in
theorem gX0_cutAt_X5_isBelow_n22 : GoodIn wsX0_cutAt (wsX5_isBelow) := ggX0_cutAt_X5_isBelow
theorem dX0_cutAt_0 : decode cX0_cutAt 0 = .ok (.iload_n 1, 1) := by decide +kernel
theorem dX0_cutAt_1 : decode cX0_cutAt 1 = .ok (.aload_n 0, 1) := by decide +kernel
theorem dX0_cutAt_2 : decode cX0_cutAt 2 = .ok (.getfield 18, 3) := by decide +kernel
theorem dX0_cutAt_5 : decode cX0_cutAt 5 = .ok (.invokestatic 22, 3) := by decide +kernel
theorem dX0_cutAt_8 : decode cX0_cutAt 8 = .ok (.ifCond .eq 12, 3) := by decide +kernel
theorem dX0_cutAt_11 : decode cX0_cutAt 11 = .ok (.aload_n 0, 1) := by decide +kernel
theorem dX0_cutAt_12 : decode cX0_cutAt 12 = .ok (.getfield 9, 3) := by decide +kernel
theorem dX0_cutAt_15 : decode cX0_cutAt 15 = .ok (.iload_n 1, 1) := by decide +kernel
theorem dX0_cutAt_16 : decode cX0_cutAt 16 = .ok (.iaload, 1) := by decide +kernel
theorem dX0_cutAt_17 : decode cX0_cutAt 17 = .ok (.goto 4, 3) := by decide +kernel
theorem dX0_cutAt_20 : decode cX0_cutAt 20 = .ok (.iconst (-1), 1) := by decide +kernel
theorem dX0_cutAt_21 : decode cX0_cutAt 21 = .ok (.ireturn, 1) := by decide +kernel
set_option maxRecDepth 20000 in
theorem ggX0_find_X3_size : GoodIn wsX0_find wsX3_size := goodIn_r _ [5, 6, 43, 44, 45] (by decide +kernel) (by decide +kernel)
set_option maxRecDepth 20000 in
theorem gX0_find_X3_size : GoodIn wsX0_find (wsV RX0 26 RX3 yX3_size wsX3_size) := goodIn_app (goodIn_of _ (by decide +kernel)) ggX0_find_X3_size
set_option maxRecDepth 20000 in
theorem ggX0_find_X0_needsFrom : GoodIn wsX0_find wsX0_needsFrom := goodIn_r _ [11, 12, 1, 2, 3, 4, 5, 6, 13, 14, 15, 10, 16, 17, 18, 19, 20, 21, 22, 23, 24, 25, 26, 27, 28, 29, 30, 31, 32, 33, 34, 35, 36, 46, 47, 48, 43, 44, 45] (by decide +kernel) (by decide +kernel)
set_option maxRecDepth 20000 in
theorem gX0_find_X0_needsFrom : GoodIn wsX0_find (wsV RX0 31 RX0 yX0_needsFrom wsX0_needsFrom) := goodIn_app (goodIn_of _ (by decide +kernel)) ggX0_find_X0_needsFrom
set_option maxRecDepth 20000 in
theorem ggX0_find_X0_collect : GoodIn wsX0_find wsX0_collect := goodIn_r _ [40, 41, 12, 42, 46, 47, 48] (by decide +kernel) (by decide +kernel)
set_option maxRecDepth 20000 in
theorem gX0_find_X0_collect : GoodIn wsX0_find (wsV RX0 35 RX0 yX0_collect wsX0_collect) := goodIn_app (goodIn_of _ (by decide +kernel)) ggX0_find_X0_collect
theorem dX0_find_0 : decode cX0_find 0 = .ok (.iconst 0, 1) := by decide +kernel
theorem dX0_find_1 : decode cX0_find 1 = .ok (.istore_n 2, 1) := by decide +kernel
theorem dX0_find_2 : decode cX0_find 2 = .ok (.sipush 1000, 3) := by decide +kernel
theorem dX0_find_5 : decode cX0_find 5 = .ok (.istore_n 3, 1) := by decide +kernel
theorem dX0_find_6 : decode cX0_find 6 = .ok (.iconst 0, 1) := by decide +kernel
theorem dX0_find_7 : decode cX0_find 7 = .ok (.istore 4, 2) := by decide +kernel
theorem dX0_find_9 : decode cX0_find 9 = .ok (.iload 4, 2) := by decide +kernel
theorem dX0_find_11 : decode cX0_find 11 = .ok (.aload_n 1, 1) := by decide +kernel
theorem dX0_find_12 : decode cX0_find 12 = .ok (.invokevirtual 26, 3) := by decide +kernel
theorem dX0_find_15 : decode cX0_find 15 = .ok (.if_icmp .ge 30, 3) := by decide +kernel
theorem dX0_find_18 : decode cX0_find 18 = .ok (.aload_n 0, 1) := by decide +kernel
theorem dX0_find_19 : decode cX0_find 19 = .ok (.aload_n 1, 1) := by decide +kernel
theorem dX0_find_20 : decode cX0_find 20 = .ok (.iload 4, 2) := by decide +kernel
theorem dX0_find_22 : decode cX0_find 22 = .ok (.invokevirtual 31, 3) := by decide +kernel
theorem dX0_find_25 : decode cX0_find 25 = .ok (.istore 5, 2) := by decide +kernel
theorem dX0_find_27 : decode cX0_find 27 = .ok (.iload 5, 2) := by decide +kernel
theorem dX0_find_29 : decode cX0_find 29 = .ok (.iload_n 3, 1) := by decide +kernel
theorem dX0_find_30 : decode cX0_find 30 = .ok (.if_icmp .ge 9, 3) := by decide +kernel
theorem dX0_find_33 : decode cX0_find 33 = .ok (.iload 5, 2) := by decide +kernel
theorem dX0_find_35 : decode cX0_find 35 = .ok (.istore_n 3, 1) := by decide +kernel
theorem dX0_find_36 : decode cX0_find 36 = .ok (.iload 4, 2) := by decide +kernel
theorem dX0_find_38 : decode cX0_find 38 = .ok (.istore_n 2, 1) := by decide +kernel
theorem dX0_find_39 : decode cX0_find 39 = .ok (.iinc 4 1, 3) := by decide +kernel
theorem dX0_find_42 : decode cX0_find 42 = .ok (.goto (-33), 3) := by decide +kernel
theorem dX0_find_45 : decode cX0_find 45 = .ok (.aload_n 0, 1) := by decide +kernel
theorem dX0_find_46 : decode cX0_find 46 = .ok (.aload_n 1, 1) := by decide +kernel
theorem dX0_find_47 : decode cX0_find 47 = .ok (.iload_n 2, 1) := by decide +kernel
theorem dX0_find_48 : decode cX0_find 48 = .ok (.invokevirtual 31, 3) := by decide +kernel
theorem dX0_find_51 : decode cX0_find 51 = .ok (.pop, 1) := by decide +kernel
theorem dX0_find_52 : decode cX0_find 52 = .ok (.aload_n 0, 1) := by decide +kernel
theorem dX0_find_53 : decode cX0_find 53 = .ok (.aload_n 1, 1) := by decide +kernel
theorem dX0_find_54 : decode cX0_find 54 = .ok (.invokevirtual 26, 3) := by decide +kernel
theorem dX0_find_57 : decode cX0_find 57 = .ok (.iload_n 2, 1) := by decide +kernel
theorem dX0_find_58 : decode cX0_find 58 = .ok (.invokevirtual 35, 3) := by decide +kernel
theorem dX0_find_61 : decode cX0_find 61 = .ok (.return_, 1) := by decide +kernel
set_option maxRecDepth 20000 in
theorem ggX0_needsFrom_X3_size : GoodIn wsX0_needsFrom wsX3_size := goodIn_r _ [6, 7, 36, 37, 38] (by decide +kernel) (by decide +kernel)
set_option maxRecDepth 20000 in
theorem gX0_needsFrom_X3_size : GoodIn wsX0_needsFrom (wsV RX0 26 RX3 yX3_size wsX3_size) := goodIn_app (goodIn_of _ (by decide +kernel)) ggX0_needsFrom_X3_size
set_option maxRecDepth 20000 in
theorem ggX0_needsFrom_X0_need : GoodIn wsX0_needsFrom wsX0_need := goodIn_r _ [12, 1, 13, 14, 15, 16, 2, 3, 4, 5, 6, 7, 17, 18, 19, 20, 21, 22, 23, 24, 25, 26, 27, 28, 29, 30, 31, 32, 33, 34, 35, 36, 37, 38] (by decide +kernel) (by decide +kernel)
set_option maxRecDepth 20000 in
theorem gX0_needsFrom_X0_need : GoodIn wsX0_needsFrom (wsV RX0 39 RX0 yX0_need wsX0_need) := goodIn_app (goodIn_of _ (by decide +kernel)) ggX0_needsFrom_X0_need
theorem dX0_needsFrom_0 : decode cX0_needsFrom 0 = .ok (.aload_n 1, 1) := by decide +kernel
theorem dX0_needsFrom_1 : decode cX0_needsFrom 1 = .ok (.invokevirtual 26, 3) := by decide +kernel
theorem dX0_needsFrom_4 : decode cX0_needsFrom 4 = .ok (.iconst 1, 1) := by decide +kernel
theorem dX0_needsFrom_5 : decode cX0_needsFrom 5 = .ok (.isub, 1) := by decide +kernel
theorem dX0_needsFrom_6 : decode cX0_needsFrom 6 = .ok (.istore_n 3, 1) := by decide +kernel
theorem dX0_needsFrom_7 : decode cX0_needsFrom 7 = .ok (.iload_n 3, 1) := by decide +kernel
theorem dX0_needsFrom_8 : decode cX0_needsFrom 8 = .ok (.iload_n 2, 1) := by decide +kernel
theorem dX0_needsFrom_9 : decode cX0_needsFrom 9 = .ok (.if_icmp .lt 22, 3) := by decide +kernel
theorem dX0_needsFrom_12 : decode cX0_needsFrom 12 = .ok (.aload_n 0, 1) := by decide +kernel
theorem dX0_needsFrom_13 : decode cX0_needsFrom 13 = .ok (.getfield 15, 3) := by decide +kernel
theorem dX0_needsFrom_16 : decode cX0_needsFrom 16 = .ok (.iload_n 3, 1) := by decide +kernel
theorem dX0_needsFrom_17 : decode cX0_needsFrom 17 = .ok (.aload_n 0, 1) := by decide +kernel
theorem dX0_needsFrom_18 : decode cX0_needsFrom 18 = .ok (.aload_n 1, 1) := by decide +kernel
theorem dX0_needsFrom_19 : decode cX0_needsFrom 19 = .ok (.iload_n 2, 1) := by decide +kernel
theorem dX0_needsFrom_20 : decode cX0_needsFrom 20 = .ok (.iload_n 3, 1) := by decide +kernel
theorem dX0_needsFrom_21 : decode cX0_needsFrom 21 = .ok (.invokevirtual 39, 3) := by decide +kernel
theorem dX0_needsFrom_24 : decode cX0_needsFrom 24 = .ok (.iastore, 1) := by decide +kernel
theorem dX0_needsFrom_25 : decode cX0_needsFrom 25 = .ok (.iinc 3 (-1), 3) := by decide +kernel
theorem dX0_needsFrom_28 : decode cX0_needsFrom 28 = .ok (.goto (-21), 3) := by decide +kernel
theorem dX0_needsFrom_31 : decode cX0_needsFrom 31 = .ok (.aload_n 1, 1) := by decide +kernel
theorem dX0_needsFrom_32 : decode cX0_needsFrom 32 = .ok (.invokevirtual 26, 3) := by decide +kernel
theorem dX0_needsFrom_35 : decode cX0_needsFrom 35 = .ok (.ifCond .ne 9, 3) := by decide +kernel
theorem dX0_needsFrom_38 : decode cX0_needsFrom 38 = .ok (.sipush 1000, 3) := by decide +kernel
theorem dX0_needsFrom_41 : decode cX0_needsFrom 41 = .ok (.goto 9, 3) := by decide +kernel
theorem dX0_needsFrom_44 : decode cX0_needsFrom 44 = .ok (.aload_n 0, 1) := by decide +kernel
theorem dX0_needsFrom_45 : decode cX0_needsFrom 45 = .ok (.getfield 15, 3) := by decide +kernel
theorem dX0_needsFrom_48 : decode cX0_needsFrom 48 = .ok (.iload_n 2, 1) := by decide +kernel
theorem dX0_needsFrom_49 : decode cX0_needsFrom 49 = .ok (.iaload, 1) := by decide +kernel
theorem dX0_needsFrom_50 : decode cX0_needsFrom 50 = .ok (.ireturn, 1) := by decide +kernel
set_option maxRecDepth 20000 in
theorem ggX0_need_X3_size : GoodIn wsX0_need wsX3_size := goodIn_r _ [10, 11, 31, 32, 33] (by decide +kernel) (by decide +kernel)
set_option maxRecDepth 20000 in
theorem gX0_need_X3_size : GoodIn wsX0_need (wsV RX0 26 RX3 yX3_size wsX3_size) := goodIn_app (goodIn_of _ (by decide +kernel)) ggX0_need_X3_size
set_option maxRecDepth 20000 in
theorem ggX0_need_X3_endsOf : GoodIn wsX0_need wsX3_endsOf := goodIn_r _ [15, 11, 16, 17, 18, 19, 31, 32, 33] (by decide +kernel) (by decide +kernel)
set_option maxRecDepth 20000 in
theorem gX0_need_X3_endsOf : GoodIn wsX0_need (wsV RX0 43 RX3 yX3_endsOf wsX3_endsOf) := goodIn_app (goodIn_of _ (by decide +kernel)) ggX0_need_X3_endsOf
set_option maxRecDepth 20000 in
theorem ggX0_need_X5_cylindersOf : GoodIn wsX0_need wsX5_cylindersOf := goodIn_r _ [21, 22, 23, 18, 24, 25, 26, 27] (by decide +kernel) (by decide +kernel)
set_option maxRecDepth 20000 in
theorem gX0_need_X5_cylindersOf_n47 : GoodIn wsX0_need (wsX5_cylindersOf) := ggX0_need_X5_cylindersOf
theorem dX0_need_0 : decode cX0_need 0 = .ok (.aload_n 1, 1) := by decide +kernel
theorem dX0_need_1 : decode cX0_need 1 = .ok (.invokevirtual 26, 3) := by decide +kernel
theorem dX0_need_4 : decode cX0_need 4 = .ok (.istore 4, 2) := by decide +kernel
theorem dX0_need_6 : decode cX0_need 6 = .ok (.sipush 1000, 3) := by decide +kernel
theorem dX0_need_9 : decode cX0_need 9 = .ok (.istore 5, 2) := by decide +kernel
theorem dX0_need_11 : decode cX0_need 11 = .ok (.iconst 0, 1) := by decide +kernel
theorem dX0_need_12 : decode cX0_need 12 = .ok (.istore 6, 2) := by decide +kernel
theorem dX0_need_14 : decode cX0_need 14 = .ok (.iload_n 3, 1) := by decide +kernel
theorem dX0_need_15 : decode cX0_need 15 = .ok (.istore 7, 2) := by decide +kernel
theorem dX0_need_17 : decode cX0_need 17 = .ok (.iload 7, 2) := by decide +kernel
theorem dX0_need_19 : decode cX0_need 19 = .ok (.iload 4, 2) := by decide +kernel
theorem dX0_need_21 : decode cX0_need 21 = .ok (.iload_n 2, 1) := by decide +kernel
theorem dX0_need_22 : decode cX0_need 22 = .ok (.iadd, 1) := by decide +kernel
theorem dX0_need_23 : decode cX0_need 23 = .ok (.if_icmp .ge 80, 3) := by decide +kernel
theorem dX0_need_26 : decode cX0_need 26 = .ok (.aload_n 1, 1) := by decide +kernel
theorem dX0_need_27 : decode cX0_need 27 = .ok (.iload 7, 2) := by decide +kernel
theorem dX0_need_29 : decode cX0_need 29 = .ok (.iload 4, 2) := by decide +kernel
theorem dX0_need_31 : decode cX0_need 31 = .ok (.if_icmp .ge 8, 3) := by decide +kernel
theorem dX0_need_34 : decode cX0_need 34 = .ok (.iload 7, 2) := by decide +kernel
theorem dX0_need_36 : decode cX0_need 36 = .ok (.goto 8, 3) := by decide +kernel
theorem dX0_need_39 : decode cX0_need 39 = .ok (.iload 7, 2) := by decide +kernel
theorem dX0_need_41 : decode cX0_need 41 = .ok (.iload 4, 2) := by decide +kernel
theorem dX0_need_43 : decode cX0_need 43 = .ok (.isub, 1) := by decide +kernel
theorem dX0_need_44 : decode cX0_need 44 = .ok (.invokevirtual 43, 3) := by decide +kernel
theorem dX0_need_47 : decode cX0_need 47 = .ok (.invokestatic 47, 3) := by decide +kernel
theorem dX0_need_50 : decode cX0_need 50 = .ok (.istore 8, 2) := by decide +kernel
theorem dX0_need_52 : decode cX0_need 52 = .ok (.iload 6, 2) := by decide +kernel
theorem dX0_need_54 : decode cX0_need 54 = .ok (.iload 8, 2) := by decide +kernel
theorem dX0_need_56 : decode cX0_need 56 = .ok (.iand, 1) := by decide +kernel
theorem dX0_need_57 : decode cX0_need 57 = .ok (.ifCond .eq 6, 3) := by decide +kernel
theorem dX0_need_60 : decode cX0_need 60 = .ok (.iload 5, 2) := by decide +kernel
theorem dX0_need_62 : decode cX0_need 62 = .ok (.ireturn, 1) := by decide +kernel
theorem dX0_need_63 : decode cX0_need 63 = .ok (.iload 6, 2) := by decide +kernel
theorem dX0_need_65 : decode cX0_need 65 = .ok (.iload 8, 2) := by decide +kernel
theorem dX0_need_67 : decode cX0_need 67 = .ok (.ior, 1) := by decide +kernel
theorem dX0_need_68 : decode cX0_need 68 = .ok (.istore 6, 2) := by decide +kernel
theorem dX0_need_70 : decode cX0_need 70 = .ok (.iload 7, 2) := by decide +kernel
theorem dX0_need_72 : decode cX0_need 72 = .ok (.iconst 1, 1) := by decide +kernel
theorem dX0_need_73 : decode cX0_need 73 = .ok (.iadd, 1) := by decide +kernel
theorem dX0_need_74 : decode cX0_need 74 = .ok (.iload 4, 2) := by decide +kernel
theorem dX0_need_76 : decode cX0_need 76 = .ok (.if_icmp .ge 21, 3) := by decide +kernel
theorem dX0_need_79 : decode cX0_need 79 = .ok (.iload 5, 2) := by decide +kernel
theorem dX0_need_81 : decode cX0_need 81 = .ok (.aload_n 0, 1) := by decide +kernel
theorem dX0_need_82 : decode cX0_need 82 = .ok (.getfield 15, 3) := by decide +kernel
theorem dX0_need_85 : decode cX0_need 85 = .ok (.iload 7, 2) := by decide +kernel
theorem dX0_need_87 : decode cX0_need 87 = .ok (.iconst 1, 1) := by decide +kernel
theorem dX0_need_88 : decode cX0_need 88 = .ok (.iadd, 1) := by decide +kernel
theorem dX0_need_89 : decode cX0_need 89 = .ok (.iaload, 1) := by decide +kernel
theorem dX0_need_90 : decode cX0_need 90 = .ok (.iconst 1, 1) := by decide +kernel
theorem dX0_need_91 : decode cX0_need 91 = .ok (.iadd, 1) := by decide +kernel
theorem dX0_need_92 : decode cX0_need 92 = .ok (.invokestatic 50, 3) := by decide +kernel
theorem dX0_need_95 : decode cX0_need 95 = .ok (.istore 5, 2) := by decide +kernel
theorem dX0_need_97 : decode cX0_need 97 = .ok (.iinc 7 1, 3) := by decide +kernel
theorem dX0_need_100 : decode cX0_need 100 = .ok (.goto (-83), 3) := by decide +kernel
theorem dX0_need_103 : decode cX0_need 103 = .ok (.iconst 1, 1) := by decide +kernel
theorem dX0_need_104 : decode cX0_need 104 = .ok (.ireturn, 1) := by decide +kernel
theorem dX0_collect_0 : decode cX0_collect 0 = .ok (.aload_n 0, 1) := by decide +kernel
theorem dX0_collect_1 : decode cX0_collect 1 = .ok (.iconst 0, 1) := by decide +kernel
theorem dX0_collect_2 : decode cX0_collect 2 = .ok (.putfield 18, 3) := by decide +kernel
theorem dX0_collect_5 : decode cX0_collect 5 = .ok (.sipush 1000, 3) := by decide +kernel
theorem dX0_collect_8 : decode cX0_collect 8 = .ok (.istore_n 3, 1) := by decide +kernel
theorem dX0_collect_9 : decode cX0_collect 9 = .ok (.iload_n 2, 1) := by decide +kernel
theorem dX0_collect_10 : decode cX0_collect 10 = .ok (.istore 4, 2) := by decide +kernel
theorem dX0_collect_12 : decode cX0_collect 12 = .ok (.iload 4, 2) := by decide +kernel
theorem dX0_collect_14 : decode cX0_collect 14 = .ok (.iload_n 1, 1) := by decide +kernel
theorem dX0_collect_15 : decode cX0_collect 15 = .ok (.if_icmp .ge 57, 3) := by decide +kernel
theorem dX0_collect_18 : decode cX0_collect 18 = .ok (.iload 4, 2) := by decide +kernel
theorem dX0_collect_20 : decode cX0_collect 20 = .ok (.iload_n 2, 1) := by decide +kernel
theorem dX0_collect_21 : decode cX0_collect 21 = .ok (.if_icmp .eq 16, 3) := by decide +kernel
theorem dX0_collect_24 : decode cX0_collect 24 = .ok (.aload_n 0, 1) := by decide +kernel
theorem dX0_collect_25 : decode cX0_collect 25 = .ok (.getfield 15, 3) := by decide +kernel
theorem dX0_collect_28 : decode cX0_collect 28 = .ok (.iload 4, 2) := by decide +kernel
theorem dX0_collect_30 : decode cX0_collect 30 = .ok (.iaload, 1) := by decide +kernel
theorem dX0_collect_31 : decode cX0_collect 31 = .ok (.iload_n 3, 1) := by decide +kernel
theorem dX0_collect_32 : decode cX0_collect 32 = .ok (.iconst 1, 1) := by decide +kernel
theorem dX0_collect_33 : decode cX0_collect 33 = .ok (.isub, 1) := by decide +kernel
theorem dX0_collect_34 : decode cX0_collect 34 = .ok (.if_icmp .ne 32, 3) := by decide +kernel
theorem dX0_collect_37 : decode cX0_collect 37 = .ok (.aload_n 0, 1) := by decide +kernel
theorem dX0_collect_38 : decode cX0_collect 38 = .ok (.getfield 9, 3) := by decide +kernel
theorem dX0_collect_41 : decode cX0_collect 41 = .ok (.aload_n 0, 1) := by decide +kernel
theorem dX0_collect_42 : decode cX0_collect 42 = .ok (.getfield 18, 3) := by decide +kernel
theorem dX0_collect_45 : decode cX0_collect 45 = .ok (.iload 4, 2) := by decide +kernel
theorem dX0_collect_47 : decode cX0_collect 47 = .ok (.iastore, 1) := by decide +kernel
theorem dX0_collect_48 : decode cX0_collect 48 = .ok (.aload_n 0, 1) := by decide +kernel
theorem dX0_collect_49 : decode cX0_collect 49 = .ok (.dup, 1) := by decide +kernel
theorem dX0_collect_50 : decode cX0_collect 50 = .ok (.getfield 18, 3) := by decide +kernel
theorem dX0_collect_53 : decode cX0_collect 53 = .ok (.iconst 1, 1) := by decide +kernel
theorem dX0_collect_54 : decode cX0_collect 54 = .ok (.iadd, 1) := by decide +kernel
theorem dX0_collect_55 : decode cX0_collect 55 = .ok (.putfield 18, 3) := by decide +kernel
theorem dX0_collect_58 : decode cX0_collect 58 = .ok (.aload_n 0, 1) := by decide +kernel
theorem dX0_collect_59 : decode cX0_collect 59 = .ok (.getfield 15, 3) := by decide +kernel
theorem dX0_collect_62 : decode cX0_collect 62 = .ok (.iload 4, 2) := by decide +kernel
theorem dX0_collect_64 : decode cX0_collect 64 = .ok (.iaload, 1) := by decide +kernel
theorem dX0_collect_65 : decode cX0_collect 65 = .ok (.istore_n 3, 1) := by decide +kernel
theorem dX0_collect_66 : decode cX0_collect 66 = .ok (.iinc 4 1, 3) := by decide +kernel
theorem dX0_collect_69 : decode cX0_collect 69 = .ok (.goto (-57), 3) := by decide +kernel
theorem dX0_collect_72 : decode cX0_collect 72 = .ok (.return_, 1) := by decide +kernel
theorem dX0_groupOf_0 : decode cX0_groupOf 0 = .ok (.iconst 0, 1) := by decide +kernel
theorem dX0_groupOf_1 : decode cX0_groupOf 1 = .ok (.istore_n 2, 1) := by decide +kernel
theorem dX0_groupOf_2 : decode cX0_groupOf 2 = .ok (.iconst 0, 1) := by decide +kernel
theorem dX0_groupOf_3 : decode cX0_groupOf 3 = .ok (.istore_n 3, 1) := by decide +kernel
theorem dX0_groupOf_4 : decode cX0_groupOf 4 = .ok (.iload_n 3, 1) := by decide +kernel
theorem dX0_groupOf_5 : decode cX0_groupOf 5 = .ok (.aload_n 0, 1) := by decide +kernel
theorem dX0_groupOf_6 : decode cX0_groupOf 6 = .ok (.getfield 18, 3) := by decide +kernel
theorem dX0_groupOf_9 : decode cX0_groupOf 9 = .ok (.if_icmp .ge 22, 3) := by decide +kernel
theorem dX0_groupOf_12 : decode cX0_groupOf 12 = .ok (.aload_n 0, 1) := by decide +kernel
theorem dX0_groupOf_13 : decode cX0_groupOf 13 = .ok (.getfield 9, 3) := by decide +kernel
theorem dX0_groupOf_16 : decode cX0_groupOf 16 = .ok (.iload_n 3, 1) := by decide +kernel
theorem dX0_groupOf_17 : decode cX0_groupOf 17 = .ok (.iaload, 1) := by decide +kernel
theorem dX0_groupOf_18 : decode cX0_groupOf 18 = .ok (.iload_n 1, 1) := by decide +kernel
theorem dX0_groupOf_19 : decode cX0_groupOf 19 = .ok (.if_icmp .gt 6, 3) := by decide +kernel
theorem dX0_groupOf_22 : decode cX0_groupOf 22 = .ok (.iinc 2 1, 3) := by decide +kernel
theorem dX0_groupOf_25 : decode cX0_groupOf 25 = .ok (.iinc 3 1, 3) := by decide +kernel
theorem dX0_groupOf_28 : decode cX0_groupOf 28 = .ok (.goto (-24), 3) := by decide +kernel
theorem dX0_groupOf_31 : decode cX0_groupOf 31 = .ok (.iload_n 2, 1) := by decide +kernel
theorem dX0_groupOf_32 : decode cX0_groupOf 32 = .ok (.ifCond .ne 12, 3) := by decide +kernel
theorem dX0_groupOf_35 : decode cX0_groupOf 35 = .ok (.aload_n 0, 1) := by decide +kernel
theorem dX0_groupOf_36 : decode cX0_groupOf 36 = .ok (.getfield 18, 3) := by decide +kernel
theorem dX0_groupOf_39 : decode cX0_groupOf 39 = .ok (.iconst 1, 1) := by decide +kernel
theorem dX0_groupOf_40 : decode cX0_groupOf 40 = .ok (.isub, 1) := by decide +kernel
theorem dX0_groupOf_41 : decode cX0_groupOf 41 = .ok (.goto 6, 3) := by decide +kernel
theorem dX0_groupOf_44 : decode cX0_groupOf 44 = .ok (.iload_n 2, 1) := by decide +kernel
theorem dX0_groupOf_45 : decode cX0_groupOf 45 = .ok (.iconst 1, 1) := by decide +kernel
theorem dX0_groupOf_46 : decode cX0_groupOf 46 = .ok (.isub, 1) := by decide +kernel
theorem dX0_groupOf_47 : decode cX0_groupOf 47 = .ok (.ireturn, 1) := by decide +kernel
theorem dX0_isFirst_0 : decode cX0_isFirst 0 = .ok (.iconst 0, 1) := by decide +kernel
theorem dX0_isFirst_1 : decode cX0_isFirst 1 = .ok (.istore_n 2, 1) := by decide +kernel
theorem dX0_isFirst_2 : decode cX0_isFirst 2 = .ok (.iload_n 2, 1) := by decide +kernel
theorem dX0_isFirst_3 : decode cX0_isFirst 3 = .ok (.aload_n 0, 1) := by decide +kernel
theorem dX0_isFirst_4 : decode cX0_isFirst 4 = .ok (.getfield 18, 3) := by decide +kernel
theorem dX0_isFirst_7 : decode cX0_isFirst 7 = .ok (.if_icmp .ge 21, 3) := by decide +kernel
theorem dX0_isFirst_10 : decode cX0_isFirst 10 = .ok (.aload_n 0, 1) := by decide +kernel
theorem dX0_isFirst_11 : decode cX0_isFirst 11 = .ok (.getfield 9, 3) := by decide +kernel
theorem dX0_isFirst_14 : decode cX0_isFirst 14 = .ok (.iload_n 2, 1) := by decide +kernel
theorem dX0_isFirst_15 : decode cX0_isFirst 15 = .ok (.iaload, 1) := by decide +kernel
theorem dX0_isFirst_16 : decode cX0_isFirst 16 = .ok (.iload_n 1, 1) := by decide +kernel
theorem dX0_isFirst_17 : decode cX0_isFirst 17 = .ok (.if_icmp .ne 5, 3) := by decide +kernel
theorem dX0_isFirst_20 : decode cX0_isFirst 20 = .ok (.iconst 1, 1) := by decide +kernel
theorem dX0_isFirst_21 : decode cX0_isFirst 21 = .ok (.ireturn, 1) := by decide +kernel
theorem dX0_isFirst_22 : decode cX0_isFirst 22 = .ok (.iinc 2 1, 3) := by decide +kernel
theorem dX0_isFirst_25 : decode cX0_isFirst 25 = .ok (.goto (-23), 3) := by decide +kernel
theorem dX0_isFirst_28 : decode cX0_isFirst 28 = .ok (.iconst 0, 1) := by decide +kernel
theorem dX0_isFirst_29 : decode cX0_isFirst 29 = .ok (.ireturn, 1) := by decide +kernel
theorem dX1_init_0 : decode cX1_init 0 = .ok (.aload_n 0, 1) := by decide +kernel
theorem dX1_init_1 : decode cX1_init 1 = .ok (.invokespecial 3, 3) := by decide +kernel
theorem dX1_init_4 : decode cX1_init 4 = .ok (.aload_n 0, 1) := by decide +kernel
theorem dX1_init_5 : decode cX1_init 5 = .ok (.bipush 12, 2) := by decide +kernel
theorem dX1_init_7 : decode cX1_init 7 = .ok (.newarray .int, 2) := by decide +kernel
theorem dX1_init_9 : decode cX1_init 9 = .ok (.putfield 9, 3) := by decide +kernel
theorem dX1_init_12 : decode cX1_init 12 = .ok (.aload_n 0, 1) := by decide +kernel
theorem dX1_init_13 : decode cX1_init 13 = .ok (.bipush 12, 2) := by decide +kernel
theorem dX1_init_15 : decode cX1_init 15 = .ok (.newarray .int, 2) := by decide +kernel
theorem dX1_init_17 : decode cX1_init 17 = .ok (.putfield 15, 3) := by decide +kernel
theorem dX1_init_20 : decode cX1_init 20 = .ok (.aload_n 0, 1) := by decide +kernel
theorem dX1_init_21 : decode cX1_init 21 = .ok (.iconst 0, 1) := by decide +kernel
theorem dX1_init_22 : decode cX1_init 22 = .ok (.putfield 18, 3) := by decide +kernel
theorem dX1_init_25 : decode cX1_init 25 = .ok (.return_, 1) := by decide +kernel
theorem dX1_size_0 : decode cX1_size 0 = .ok (.aload_n 0, 1) := by decide +kernel
theorem dX1_size_1 : decode cX1_size 1 = .ok (.getfield 18, 3) := by decide +kernel
theorem dX1_size_4 : decode cX1_size 4 = .ok (.ireturn, 1) := by decide +kernel
theorem dX1_add_0 : decode cX1_add 0 = .ok (.aload_n 0, 1) := by decide +kernel
theorem dX1_add_1 : decode cX1_add 1 = .ok (.getfield 18, 3) := by decide +kernel
theorem dX1_add_4 : decode cX1_add 4 = .ok (.bipush 12, 2) := by decide +kernel
theorem dX1_add_6 : decode cX1_add 6 = .ok (.if_icmp .lt 4, 3) := by decide +kernel
theorem dX1_add_9 : decode cX1_add 9 = .ok (.return_, 1) := by decide +kernel
theorem dX1_add_10 : decode cX1_add 10 = .ok (.aload_n 0, 1) := by decide +kernel
theorem dX1_add_11 : decode cX1_add 11 = .ok (.getfield 9, 3) := by decide +kernel
theorem dX1_add_14 : decode cX1_add 14 = .ok (.aload_n 0, 1) := by decide +kernel
theorem dX1_add_15 : decode cX1_add 15 = .ok (.getfield 18, 3) := by decide +kernel
theorem dX1_add_18 : decode cX1_add 18 = .ok (.iload_n 1, 1) := by decide +kernel
theorem dX1_add_19 : decode cX1_add 19 = .ok (.iastore, 1) := by decide +kernel
theorem dX1_add_20 : decode cX1_add 20 = .ok (.aload_n 0, 1) := by decide +kernel
theorem dX1_add_21 : decode cX1_add 21 = .ok (.getfield 15, 3) := by decide +kernel
theorem dX1_add_24 : decode cX1_add 24 = .ok (.aload_n 0, 1) := by decide +kernel
theorem dX1_add_25 : decode cX1_add 25 = .ok (.getfield 18, 3) := by decide +kernel
theorem dX1_add_28 : decode cX1_add 28 = .ok (.iload_n 2, 1) := by decide +kernel
theorem dX1_add_29 : decode cX1_add 29 = .ok (.iastore, 1) := by decide +kernel
theorem dX1_add_30 : decode cX1_add 30 = .ok (.aload_n 0, 1) := by decide +kernel
theorem dX1_add_31 : decode cX1_add 31 = .ok (.dup, 1) := by decide +kernel
theorem dX1_add_32 : decode cX1_add 32 = .ok (.getfield 18, 3) := by decide +kernel
theorem dX1_add_35 : decode cX1_add 35 = .ok (.iconst 1, 1) := by decide +kernel
theorem dX1_add_36 : decode cX1_add 36 = .ok (.iadd, 1) := by decide +kernel
theorem dX1_add_37 : decode cX1_add 37 = .ok (.putfield 18, 3) := by decide +kernel
theorem dX1_add_40 : decode cX1_add 40 = .ok (.return_, 1) := by decide +kernel
set_option maxRecDepth 20000 in
theorem ggX1_remove_X5_isBelow : GoodIn wsX1_remove wsX5_isBelow := goodIn_r _ [6] (by decide +kernel) (by decide +kernel)
set_option maxRecDepth 20000 in
theorem gX1_remove_X5_isBelow_n22 : GoodIn wsX1_remove (wsX5_isBelow) := ggX1_remove_X5_isBelow
theorem dX1_remove_0 : decode cX1_remove 0 = .ok (.iload_n 1, 1) := by decide +kernel
theorem dX1_remove_1 : decode cX1_remove 1 = .ok (.aload_n 0, 1) := by decide +kernel
theorem dX1_remove_2 : decode cX1_remove 2 = .ok (.getfield 18, 3) := by decide +kernel
theorem dX1_remove_5 : decode cX1_remove 5 = .ok (.invokestatic 22, 3) := by decide +kernel
theorem dX1_remove_8 : decode cX1_remove 8 = .ok (.ifCond .ne 4, 3) := by decide +kernel
theorem dX1_remove_11 : decode cX1_remove 11 = .ok (.return_, 1) := by decide +kernel
theorem dX1_remove_12 : decode cX1_remove 12 = .ok (.iload_n 1, 1) := by decide +kernel
theorem dX1_remove_13 : decode cX1_remove 13 = .ok (.istore_n 2, 1) := by decide +kernel
theorem dX1_remove_14 : decode cX1_remove 14 = .ok (.iload_n 2, 1) := by decide +kernel
theorem dX1_remove_15 : decode cX1_remove 15 = .ok (.aload_n 0, 1) := by decide +kernel
theorem dX1_remove_16 : decode cX1_remove 16 = .ok (.getfield 18, 3) := by decide +kernel
theorem dX1_remove_19 : decode cX1_remove 19 = .ok (.iconst 1, 1) := by decide +kernel
theorem dX1_remove_20 : decode cX1_remove 20 = .ok (.isub, 1) := by decide +kernel
theorem dX1_remove_21 : decode cX1_remove 21 = .ok (.if_icmp .ge 37, 3) := by decide +kernel
theorem dX1_remove_24 : decode cX1_remove 24 = .ok (.aload_n 0, 1) := by decide +kernel
theorem dX1_remove_25 : decode cX1_remove 25 = .ok (.getfield 9, 3) := by decide +kernel
theorem dX1_remove_28 : decode cX1_remove 28 = .ok (.iload_n 2, 1) := by decide +kernel
theorem dX1_remove_29 : decode cX1_remove 29 = .ok (.aload_n 0, 1) := by decide +kernel
theorem dX1_remove_30 : decode cX1_remove 30 = .ok (.getfield 9, 3) := by decide +kernel
theorem dX1_remove_33 : decode cX1_remove 33 = .ok (.iload_n 2, 1) := by decide +kernel
theorem dX1_remove_34 : decode cX1_remove 34 = .ok (.iconst 1, 1) := by decide +kernel
theorem dX1_remove_35 : decode cX1_remove 35 = .ok (.iadd, 1) := by decide +kernel
theorem dX1_remove_36 : decode cX1_remove 36 = .ok (.iaload, 1) := by decide +kernel
theorem dX1_remove_37 : decode cX1_remove 37 = .ok (.iastore, 1) := by decide +kernel
theorem dX1_remove_38 : decode cX1_remove 38 = .ok (.aload_n 0, 1) := by decide +kernel
theorem dX1_remove_39 : decode cX1_remove 39 = .ok (.getfield 15, 3) := by decide +kernel
theorem dX1_remove_42 : decode cX1_remove 42 = .ok (.iload_n 2, 1) := by decide +kernel
theorem dX1_remove_43 : decode cX1_remove 43 = .ok (.aload_n 0, 1) := by decide +kernel
theorem dX1_remove_44 : decode cX1_remove 44 = .ok (.getfield 15, 3) := by decide +kernel
theorem dX1_remove_47 : decode cX1_remove 47 = .ok (.iload_n 2, 1) := by decide +kernel
theorem dX1_remove_48 : decode cX1_remove 48 = .ok (.iconst 1, 1) := by decide +kernel
theorem dX1_remove_49 : decode cX1_remove 49 = .ok (.iadd, 1) := by decide +kernel
theorem dX1_remove_50 : decode cX1_remove 50 = .ok (.iaload, 1) := by decide +kernel
theorem dX1_remove_51 : decode cX1_remove 51 = .ok (.iastore, 1) := by decide +kernel
theorem dX1_remove_52 : decode cX1_remove 52 = .ok (.iinc 2 1, 3) := by decide +kernel
theorem dX1_remove_55 : decode cX1_remove 55 = .ok (.goto (-41), 3) := by decide +kernel
theorem dX1_remove_58 : decode cX1_remove 58 = .ok (.aload_n 0, 1) := by decide +kernel
theorem dX1_remove_59 : decode cX1_remove 59 = .ok (.dup, 1) := by decide +kernel
theorem dX1_remove_60 : decode cX1_remove 60 = .ok (.getfield 18, 3) := by decide +kernel
theorem dX1_remove_63 : decode cX1_remove 63 = .ok (.iconst 1, 1) := by decide +kernel
theorem dX1_remove_64 : decode cX1_remove 64 = .ok (.isub, 1) := by decide +kernel
theorem dX1_remove_65 : decode cX1_remove 65 = .ok (.putfield 18, 3) := by decide +kernel
theorem dX1_remove_68 : decode cX1_remove 68 = .ok (.return_, 1) := by decide +kernel
set_option maxRecDepth 20000 in
theorem ggX1_allow_X5_sensorsOn : GoodIn wsX1_allow wsX5_sensorsOn := goodIn_r _ [6, 7, 8, 5, 9] (by decide +kernel) (by decide +kernel)
set_option maxRecDepth 20000 in
theorem gX1_allow_X5_sensorsOn_n26 : GoodIn wsX1_allow (wsX5_sensorsOn) := ggX1_allow_X5_sensorsOn
set_option maxRecDepth 20000 in
theorem ggX1_allow_X5_cylindersOf : GoodIn wsX1_allow wsX5_cylindersOf := goodIn_r _ [11, 12, 13, 5, 14, 15, 16, 17] (by decide +kernel) (by decide +kernel)
set_option maxRecDepth 20000 in
theorem gX1_allow_X5_cylindersOf_n30 : GoodIn wsX1_allow (wsX5_cylindersOf) := ggX1_allow_X5_cylindersOf
set_option maxRecDepth 20000 in
theorem ggX1_allow_X5_has : GoodIn wsX1_allow wsX5_has := goodIn_r _ [19] (by decide +kernel) (by decide +kernel)
set_option maxRecDepth 20000 in
theorem gX1_allow_X5_has_n33 : GoodIn wsX1_allow (wsX5_has) := ggX1_allow_X5_has
set_option maxRecDepth 20000 in
theorem ggX1_allow_X5_cylinderOf : GoodIn wsX1_allow wsX5_cylinderOf := goodIn_r _ [21] (by decide +kernel) (by decide +kernel)
set_option maxRecDepth 20000 in
theorem gX1_allow_X5_cylinderOf_n36 : GoodIn wsX1_allow (wsX5_cylinderOf) := ggX1_allow_X5_cylinderOf
theorem dX1_allow_0 : decode cX1_allow 0 = .ok (.iload_n 2, 1) := by decide +kernel
theorem dX1_allow_1 : decode cX1_allow 1 = .ok (.invokestatic 26, 3) := by decide +kernel
theorem dX1_allow_4 : decode cX1_allow 4 = .ok (.istore_n 3, 1) := by decide +kernel
theorem dX1_allow_5 : decode cX1_allow 5 = .ok (.iload_n 1, 1) := by decide +kernel
theorem dX1_allow_6 : decode cX1_allow 6 = .ok (.invokestatic 30, 3) := by decide +kernel
theorem dX1_allow_9 : decode cX1_allow 9 = .ok (.istore 4, 2) := by decide +kernel
theorem dX1_allow_11 : decode cX1_allow 11 = .ok (.iconst 0, 1) := by decide +kernel
theorem dX1_allow_12 : decode cX1_allow 12 = .ok (.istore 5, 2) := by decide +kernel
theorem dX1_allow_14 : decode cX1_allow 14 = .ok (.iload 5, 2) := by decide +kernel
theorem dX1_allow_16 : decode cX1_allow 16 = .ok (.aload_n 0, 1) := by decide +kernel
theorem dX1_allow_17 : decode cX1_allow 17 = .ok (.getfield 18, 3) := by decide +kernel
theorem dX1_allow_20 : decode cX1_allow 20 = .ok (.if_icmp .ge 69, 3) := by decide +kernel
theorem dX1_allow_23 : decode cX1_allow 23 = .ok (.iload_n 3, 1) := by decide +kernel
theorem dX1_allow_24 : decode cX1_allow 24 = .ok (.aload_n 0, 1) := by decide +kernel
theorem dX1_allow_25 : decode cX1_allow 25 = .ok (.getfield 15, 3) := by decide +kernel
theorem dX1_allow_28 : decode cX1_allow 28 = .ok (.iload 5, 2) := by decide +kernel
theorem dX1_allow_30 : decode cX1_allow 30 = .ok (.iaload, 1) := by decide +kernel
theorem dX1_allow_31 : decode cX1_allow 31 = .ok (.invokestatic 33, 3) := by decide +kernel
theorem dX1_allow_34 : decode cX1_allow 34 = .ok (.ifCond .ne 21, 3) := by decide +kernel
theorem dX1_allow_37 : decode cX1_allow 37 = .ok (.iload 4, 2) := by decide +kernel
theorem dX1_allow_39 : decode cX1_allow 39 = .ok (.aload_n 0, 1) := by decide +kernel
theorem dX1_allow_40 : decode cX1_allow 40 = .ok (.getfield 15, 3) := by decide +kernel
theorem dX1_allow_43 : decode cX1_allow 43 = .ok (.iload 5, 2) := by decide +kernel
theorem dX1_allow_45 : decode cX1_allow 45 = .ok (.iaload, 1) := by decide +kernel
theorem dX1_allow_46 : decode cX1_allow 46 = .ok (.invokestatic 36, 3) := by decide +kernel
theorem dX1_allow_49 : decode cX1_allow 49 = .ok (.invokestatic 33, 3) := by decide +kernel
theorem dX1_allow_52 : decode cX1_allow 52 = .ok (.ifCond .eq 7, 3) := by decide +kernel
theorem dX1_allow_55 : decode cX1_allow 55 = .ok (.iconst 1, 1) := by decide +kernel
theorem dX1_allow_56 : decode cX1_allow 56 = .ok (.goto 4, 3) := by decide +kernel
theorem dX1_allow_59 : decode cX1_allow 59 = .ok (.iconst 0, 1) := by decide +kernel
theorem dX1_allow_60 : decode cX1_allow 60 = .ok (.istore 6, 2) := by decide +kernel
theorem dX1_allow_62 : decode cX1_allow 62 = .ok (.iload_n 1, 1) := by decide +kernel
theorem dX1_allow_63 : decode cX1_allow 63 = .ok (.aload_n 0, 1) := by decide +kernel
theorem dX1_allow_64 : decode cX1_allow 64 = .ok (.getfield 9, 3) := by decide +kernel
theorem dX1_allow_67 : decode cX1_allow 67 = .ok (.iload 5, 2) := by decide +kernel
theorem dX1_allow_69 : decode cX1_allow 69 = .ok (.iaload, 1) := by decide +kernel
theorem dX1_allow_70 : decode cX1_allow 70 = .ok (.invokestatic 33, 3) := by decide +kernel
theorem dX1_allow_73 : decode cX1_allow 73 = .ok (.ifCond .eq 10, 3) := by decide +kernel
theorem dX1_allow_76 : decode cX1_allow 76 = .ok (.iload 6, 2) := by decide +kernel
theorem dX1_allow_78 : decode cX1_allow 78 = .ok (.ifCond .eq 5, 3) := by decide +kernel
theorem dX1_allow_81 : decode cX1_allow 81 = .ok (.iconst 0, 1) := by decide +kernel
theorem dX1_allow_82 : decode cX1_allow 82 = .ok (.ireturn, 1) := by decide +kernel
theorem dX1_allow_83 : decode cX1_allow 83 = .ok (.iinc 5 1, 3) := by decide +kernel
theorem dX1_allow_86 : decode cX1_allow 86 = .ok (.goto (-72), 3) := by decide +kernel
theorem dX1_allow_89 : decode cX1_allow 89 = .ok (.iconst 1, 1) := by decide +kernel
theorem dX1_allow_90 : decode cX1_allow 90 = .ok (.ireturn, 1) := by decide +kernel
set_option maxRecDepth 20000 in
theorem ggX1_allowMove_X5_endsTo : GoodIn wsX1_allowMove wsX5_endsTo := goodIn_r _ [3] (by decide +kernel) (by decide +kernel)
set_option maxRecDepth 20000 in
theorem gX1_allowMove_X5_endsTo_n39 : GoodIn wsX1_allowMove (wsX5_endsTo) := ggX1_allowMove_X5_endsTo
set_option maxRecDepth 20000 in
theorem ggX1_allowMove_X1_allow : GoodIn wsX1_allowMove wsX1_allow := goodIn_r _ [8, 9, 10, 11, 12, 2, 13, 14, 1, 3, 15, 16, 17, 18, 19, 20, 21, 22, 23, 24, 25, 26, 27, 28, 29] (by decide +kernel) (by decide +kernel)
set_option maxRecDepth 20000 in
theorem gX1_allowMove_X1_allow : GoodIn wsX1_allowMove (wsV RX1 43 RX1 yX1_allow wsX1_allow) := goodIn_app (goodIn_of _ (by decide +kernel)) ggX1_allowMove_X1_allow
theorem dX1_allowMove_0 : decode cX1_allowMove 0 = .ok (.iconst 1, 1) := by decide +kernel
theorem dX1_allowMove_1 : decode cX1_allowMove 1 = .ok (.iload_n 2, 1) := by decide +kernel
theorem dX1_allowMove_2 : decode cX1_allowMove 2 = .ok (.ishl, 1) := by decide +kernel
theorem dX1_allowMove_3 : decode cX1_allowMove 3 = .ok (.istore_n 3, 1) := by decide +kernel
theorem dX1_allowMove_4 : decode cX1_allowMove 4 = .ok (.aload_n 0, 1) := by decide +kernel
theorem dX1_allowMove_5 : decode cX1_allowMove 5 = .ok (.iload_n 3, 1) := by decide +kernel
theorem dX1_allowMove_6 : decode cX1_allowMove 6 = .ok (.iload_n 1, 1) := by decide +kernel
theorem dX1_allowMove_7 : decode cX1_allowMove 7 = .ok (.iconst (-1), 1) := by decide +kernel
theorem dX1_allowMove_8 : decode cX1_allowMove 8 = .ok (.ixor, 1) := by decide +kernel
theorem dX1_allowMove_9 : decode cX1_allowMove 9 = .ok (.iand, 1) := by decide +kernel
theorem dX1_allowMove_10 : decode cX1_allowMove 10 = .ok (.iload_n 3, 1) := by decide +kernel
theorem dX1_allowMove_11 : decode cX1_allowMove 11 = .ok (.iload_n 1, 1) := by decide +kernel
theorem dX1_allowMove_12 : decode cX1_allowMove 12 = .ok (.iand, 1) := by decide +kernel
theorem dX1_allowMove_13 : decode cX1_allowMove 13 = .ok (.invokestatic 39, 3) := by decide +kernel
theorem dX1_allowMove_16 : decode cX1_allowMove 16 = .ok (.iload_n 1, 1) := by decide +kernel
theorem dX1_allowMove_17 : decode cX1_allowMove 17 = .ok (.invokevirtual 43, 3) := by decide +kernel
theorem dX1_allowMove_20 : decode cX1_allowMove 20 = .ok (.ireturn, 1) := by decide +kernel
theorem dX2_init_0 : decode cX2_init 0 = .ok (.aload_n 0, 1) := by decide +kernel
theorem dX2_init_1 : decode cX2_init 1 = .ok (.invokespecial 3, 3) := by decide +kernel
theorem dX2_init_4 : decode cX2_init 4 = .ok (.aload_n 0, 1) := by decide +kernel
theorem dX2_init_5 : decode cX2_init 5 = .ok (.bipush 12, 2) := by decide +kernel
theorem dX2_init_7 : decode cX2_init 7 = .ok (.newarray .int, 2) := by decide +kernel
theorem dX2_init_9 : decode cX2_init 9 = .ok (.putfield 9, 3) := by decide +kernel
theorem dX2_init_12 : decode cX2_init 12 = .ok (.aload_n 0, 1) := by decide +kernel
theorem dX2_init_13 : decode cX2_init 13 = .ok (.bipush 12, 2) := by decide +kernel
theorem dX2_init_15 : decode cX2_init 15 = .ok (.newarray .int, 2) := by decide +kernel
theorem dX2_init_17 : decode cX2_init 17 = .ok (.putfield 15, 3) := by decide +kernel
theorem dX2_init_20 : decode cX2_init 20 = .ok (.iconst 0, 1) := by decide +kernel
theorem dX2_init_21 : decode cX2_init 21 = .ok (.istore_n 1, 1) := by decide +kernel
theorem dX2_init_22 : decode cX2_init 22 = .ok (.iload_n 1, 1) := by decide +kernel
theorem dX2_init_23 : decode cX2_init 23 = .ok (.bipush 12, 2) := by decide +kernel
theorem dX2_init_25 : decode cX2_init 25 = .ok (.if_icmp .ge 23, 3) := by decide +kernel
theorem dX2_init_28 : decode cX2_init 28 = .ok (.aload_n 0, 1) := by decide +kernel
theorem dX2_init_29 : decode cX2_init 29 = .ok (.getfield 9, 3) := by decide +kernel
theorem dX2_init_32 : decode cX2_init 32 = .ok (.iload_n 1, 1) := by decide +kernel
theorem dX2_init_33 : decode cX2_init 33 = .ok (.iconst 1, 1) := by decide +kernel
theorem dX2_init_34 : decode cX2_init 34 = .ok (.iastore, 1) := by decide +kernel
theorem dX2_init_35 : decode cX2_init 35 = .ok (.aload_n 0, 1) := by decide +kernel
theorem dX2_init_36 : decode cX2_init 36 = .ok (.getfield 15, 3) := by decide +kernel
theorem dX2_init_39 : decode cX2_init 39 = .ok (.iload_n 1, 1) := by decide +kernel
theorem dX2_init_40 : decode cX2_init 40 = .ok (.iconst 1, 1) := by decide +kernel
theorem dX2_init_41 : decode cX2_init 41 = .ok (.iastore, 1) := by decide +kernel
theorem dX2_init_42 : decode cX2_init 42 = .ok (.iinc 1 1, 3) := by decide +kernel
theorem dX2_init_45 : decode cX2_init 45 = .ok (.goto (-23), 3) := by decide +kernel
theorem dX2_init_48 : decode cX2_init 48 = .ok (.return_, 1) := by decide +kernel
set_option maxRecDepth 20000 in
theorem ggX2_put_X5_isBelow : GoodIn wsX2_put wsX5_isBelow := goodIn_r _ [5] (by decide +kernel) (by decide +kernel)
set_option maxRecDepth 20000 in
theorem gX2_put_X5_isBelow_n18 : GoodIn wsX2_put (wsX5_isBelow) := ggX2_put_X5_isBelow
theorem dX2_put_0 : decode cX2_put 0 = .ok (.iload_n 1, 1) := by decide +kernel
theorem dX2_put_1 : decode cX2_put 1 = .ok (.bipush 12, 2) := by decide +kernel
theorem dX2_put_3 : decode cX2_put 3 = .ok (.invokestatic 18, 3) := by decide +kernel
theorem dX2_put_6 : decode cX2_put 6 = .ok (.ifCond .ne 4, 3) := by decide +kernel
theorem dX2_put_9 : decode cX2_put 9 = .ok (.return_, 1) := by decide +kernel
theorem dX2_put_10 : decode cX2_put 10 = .ok (.aload_n 0, 1) := by decide +kernel
theorem dX2_put_11 : decode cX2_put 11 = .ok (.getfield 9, 3) := by decide +kernel
theorem dX2_put_14 : decode cX2_put 14 = .ok (.iload_n 1, 1) := by decide +kernel
theorem dX2_put_15 : decode cX2_put 15 = .ok (.iload_n 2, 1) := by decide +kernel
theorem dX2_put_16 : decode cX2_put 16 = .ok (.iastore, 1) := by decide +kernel
theorem dX2_put_17 : decode cX2_put 17 = .ok (.aload_n 0, 1) := by decide +kernel
theorem dX2_put_18 : decode cX2_put 18 = .ok (.getfield 15, 3) := by decide +kernel
theorem dX2_put_21 : decode cX2_put 21 = .ok (.iload_n 1, 1) := by decide +kernel
theorem dX2_put_22 : decode cX2_put 22 = .ok (.iload_n 3, 1) := by decide +kernel
theorem dX2_put_23 : decode cX2_put 23 = .ok (.iastore, 1) := by decide +kernel
theorem dX2_put_24 : decode cX2_put 24 = .ok (.return_, 1) := by decide +kernel
set_option maxRecDepth 20000 in
theorem ggX2_leastOfLoop_X2_sum : GoodIn wsX2_leastOfLoop wsX2_sum := goodIn_r _ [5, 6, 7, 8, 9, 10, 11, 12, 13, 14, 15, 16, 17, 18, 19, 20, 21, 4, 22, 23, 24, 25, 26, 27, 28, 31, 32, 33] (by decide +kernel) (by decide +kernel)
set_option maxRecDepth 20000 in
theorem gX2_leastOfLoop_X2_sum : GoodIn wsX2_leastOfLoop (va_wsS RX2 22 yX2_sum wsX2_sum) := goodIn_app (goodIn_of _ (by decide +kernel)) ggX2_leastOfLoop_X2_sum
theorem dX2_leastOfLoop_0 : decode cX2_leastOfLoop 0 = .ok (.aload_n 0, 1) := by decide +kernel
theorem dX2_leastOfLoop_1 : decode cX2_leastOfLoop 1 = .ok (.getfield 9, 3) := by decide +kernel
theorem dX2_leastOfLoop_4 : decode cX2_leastOfLoop 4 = .ok (.aload_n 1, 1) := by decide +kernel
theorem dX2_leastOfLoop_5 : decode cX2_leastOfLoop 5 = .ok (.invokestatic 22, 3) := by decide +kernel
theorem dX2_leastOfLoop_8 : decode cX2_leastOfLoop 8 = .ok (.ireturn, 1) := by decide +kernel
set_option maxRecDepth 20000 in
theorem ggX2_mostOfLoop_X2_sum : GoodIn wsX2_mostOfLoop wsX2_sum := goodIn_r _ [5, 6, 7, 8, 9, 10, 11, 12, 13, 14, 15, 16, 17, 18, 19, 20, 21, 4, 22, 23, 24, 25, 26, 27, 28, 31, 32, 33] (by decide +kernel) (by decide +kernel)
set_option maxRecDepth 20000 in
theorem gX2_mostOfLoop_X2_sum : GoodIn wsX2_mostOfLoop (va_wsS RX2 22 yX2_sum wsX2_sum) := goodIn_app (goodIn_of _ (by decide +kernel)) ggX2_mostOfLoop_X2_sum
theorem dX2_mostOfLoop_0 : decode cX2_mostOfLoop 0 = .ok (.aload_n 0, 1) := by decide +kernel
theorem dX2_mostOfLoop_1 : decode cX2_mostOfLoop 1 = .ok (.getfield 15, 3) := by decide +kernel
theorem dX2_mostOfLoop_4 : decode cX2_mostOfLoop 4 = .ok (.aload_n 1, 1) := by decide +kernel
theorem dX2_mostOfLoop_5 : decode cX2_mostOfLoop 5 = .ok (.invokestatic 22, 3) := by decide +kernel
theorem dX2_mostOfLoop_8 : decode cX2_mostOfLoop 8 = .ok (.ireturn, 1) := by decide +kernel
set_option maxRecDepth 20000 in
theorem ggX2_sum_X3_size : GoodIn wsX2_sum wsX3_size := goodIn_r _ [5, 6, 25, 26, 27] (by decide +kernel) (by decide +kernel)
set_option maxRecDepth 20000 in
theorem gX2_sum_X3_size : GoodIn wsX2_sum (wsV RX2 26 RX3 yX3_size wsX3_size) := goodIn_app (goodIn_of _ (by decide +kernel)) ggX2_sum_X3_size
set_option maxRecDepth 20000 in
theorem ggX2_sum_X3_endsOf : GoodIn wsX2_sum wsX3_endsOf := goodIn_r _ [10, 6, 11, 12, 13, 14, 25, 26, 27] (by decide +kernel) (by decide +kernel)
set_option maxRecDepth 20000 in
theorem gX2_sum_X3_endsOf : GoodIn wsX2_sum (wsV RX2 32 RX3 yX3_endsOf wsX3_endsOf) := goodIn_app (goodIn_of _ (by decide +kernel)) ggX2_sum_X3_endsOf
set_option maxRecDepth 20000 in
theorem ggX2_sum_X2_longest : GoodIn wsX2_sum wsX2_longest := goodIn_r _ [18, 19, 20, 21, 22, 23, 13, 24] (by decide +kernel) (by decide +kernel)
set_option maxRecDepth 20000 in
theorem gX2_sum_X2_longest : GoodIn wsX2_sum (va_wsS RX2 36 yX2_longest wsX2_longest) := goodIn_app (goodIn_of _ (by decide +kernel)) ggX2_sum_X2_longest
theorem dX2_sum_0 : decode cX2_sum 0 = .ok (.iconst 0, 1) := by decide +kernel
theorem dX2_sum_1 : decode cX2_sum 1 = .ok (.istore_n 2, 1) := by decide +kernel
theorem dX2_sum_2 : decode cX2_sum 2 = .ok (.iconst 0, 1) := by decide +kernel
theorem dX2_sum_3 : decode cX2_sum 3 = .ok (.istore_n 3, 1) := by decide +kernel
theorem dX2_sum_4 : decode cX2_sum 4 = .ok (.iload_n 3, 1) := by decide +kernel
theorem dX2_sum_5 : decode cX2_sum 5 = .ok (.aload_n 1, 1) := by decide +kernel
theorem dX2_sum_6 : decode cX2_sum 6 = .ok (.invokevirtual 26, 3) := by decide +kernel
theorem dX2_sum_9 : decode cX2_sum 9 = .ok (.if_icmp .ge 21, 3) := by decide +kernel
theorem dX2_sum_12 : decode cX2_sum 12 = .ok (.iload_n 2, 1) := by decide +kernel
theorem dX2_sum_13 : decode cX2_sum 13 = .ok (.aload_n 0, 1) := by decide +kernel
theorem dX2_sum_14 : decode cX2_sum 14 = .ok (.aload_n 1, 1) := by decide +kernel
theorem dX2_sum_15 : decode cX2_sum 15 = .ok (.iload_n 3, 1) := by decide +kernel
theorem dX2_sum_16 : decode cX2_sum 16 = .ok (.invokevirtual 32, 3) := by decide +kernel
theorem dX2_sum_19 : decode cX2_sum 19 = .ok (.invokestatic 36, 3) := by decide +kernel
theorem dX2_sum_22 : decode cX2_sum 22 = .ok (.iadd, 1) := by decide +kernel
theorem dX2_sum_23 : decode cX2_sum 23 = .ok (.istore_n 2, 1) := by decide +kernel
theorem dX2_sum_24 : decode cX2_sum 24 = .ok (.iinc 3 1, 3) := by decide +kernel
theorem dX2_sum_27 : decode cX2_sum 27 = .ok (.goto (-23), 3) := by decide +kernel
theorem dX2_sum_30 : decode cX2_sum 30 = .ok (.iload_n 2, 1) := by decide +kernel
theorem dX2_sum_31 : decode cX2_sum 31 = .ok (.ireturn, 1) := by decide +kernel
set_option maxRecDepth 20000 in
theorem ggX2_slowest_X3_size : GoodIn wsX2_slowest wsX3_size := goodIn_r _ [6, 7, 28, 29, 30] (by decide +kernel) (by decide +kernel)
set_option maxRecDepth 20000 in
theorem gX2_slowest_X3_size : GoodIn wsX2_slowest (wsV RX2 26 RX3 yX3_size wsX3_size) := goodIn_app (goodIn_of _ (by decide +kernel)) ggX2_slowest_X3_size
set_option maxRecDepth 20000 in
theorem ggX2_slowest_X3_endsOf : GoodIn wsX2_slowest wsX3_endsOf := goodIn_r _ [11, 7, 12, 13, 14, 15, 28, 29, 30] (by decide +kernel) (by decide +kernel)
set_option maxRecDepth 20000 in
theorem gX2_slowest_X3_endsOf : GoodIn wsX2_slowest (wsV RX2 32 RX3 yX3_endsOf wsX3_endsOf) := goodIn_app (goodIn_of _ (by decide +kernel)) ggX2_slowest_X3_endsOf
set_option maxRecDepth 20000 in
theorem ggX2_slowest_X2_longest : GoodIn wsX2_slowest wsX2_longest := goodIn_r _ [19, 20, 21, 22, 23, 24, 14, 25] (by decide +kernel) (by decide +kernel)
set_option maxRecDepth 20000 in
theorem gX2_slowest_X2_longest : GoodIn wsX2_slowest (va_wsS RX2 36 yX2_longest wsX2_longest) := goodIn_app (goodIn_of _ (by decide +kernel)) ggX2_slowest_X2_longest
theorem dX2_slowest_0 : decode cX2_slowest 0 = .ok (.iconst (-1), 1) := by decide +kernel
theorem dX2_slowest_1 : decode cX2_slowest 1 = .ok (.istore_n 2, 1) := by decide +kernel
theorem dX2_slowest_2 : decode cX2_slowest 2 = .ok (.iconst 0, 1) := by decide +kernel
theorem dX2_slowest_3 : decode cX2_slowest 3 = .ok (.istore_n 3, 1) := by decide +kernel
theorem dX2_slowest_4 : decode cX2_slowest 4 = .ok (.iconst 0, 1) := by decide +kernel
theorem dX2_slowest_5 : decode cX2_slowest 5 = .ok (.istore 4, 2) := by decide +kernel
theorem dX2_slowest_7 : decode cX2_slowest 7 = .ok (.iload 4, 2) := by decide +kernel
theorem dX2_slowest_9 : decode cX2_slowest 9 = .ok (.aload_n 1, 1) := by decide +kernel
theorem dX2_slowest_10 : decode cX2_slowest 10 = .ok (.invokevirtual 26, 3) := by decide +kernel
theorem dX2_slowest_13 : decode cX2_slowest 13 = .ok (.if_icmp .ge 36, 3) := by decide +kernel
theorem dX2_slowest_16 : decode cX2_slowest 16 = .ok (.aload_n 0, 1) := by decide +kernel
theorem dX2_slowest_17 : decode cX2_slowest 17 = .ok (.getfield 15, 3) := by decide +kernel
theorem dX2_slowest_20 : decode cX2_slowest 20 = .ok (.aload_n 1, 1) := by decide +kernel
theorem dX2_slowest_21 : decode cX2_slowest 21 = .ok (.iload 4, 2) := by decide +kernel
theorem dX2_slowest_23 : decode cX2_slowest 23 = .ok (.invokevirtual 32, 3) := by decide +kernel
theorem dX2_slowest_26 : decode cX2_slowest 26 = .ok (.invokestatic 36, 3) := by decide +kernel
theorem dX2_slowest_29 : decode cX2_slowest 29 = .ok (.istore 5, 2) := by decide +kernel
theorem dX2_slowest_31 : decode cX2_slowest 31 = .ok (.iload 5, 2) := by decide +kernel
theorem dX2_slowest_33 : decode cX2_slowest 33 = .ok (.iload_n 3, 1) := by decide +kernel
theorem dX2_slowest_34 : decode cX2_slowest 34 = .ok (.if_icmp .le 9, 3) := by decide +kernel
theorem dX2_slowest_37 : decode cX2_slowest 37 = .ok (.iload 5, 2) := by decide +kernel
theorem dX2_slowest_39 : decode cX2_slowest 39 = .ok (.istore_n 3, 1) := by decide +kernel
theorem dX2_slowest_40 : decode cX2_slowest 40 = .ok (.iload 4, 2) := by decide +kernel
theorem dX2_slowest_42 : decode cX2_slowest 42 = .ok (.istore_n 2, 1) := by decide +kernel
theorem dX2_slowest_43 : decode cX2_slowest 43 = .ok (.iinc 4 1, 3) := by decide +kernel
theorem dX2_slowest_46 : decode cX2_slowest 46 = .ok (.goto (-39), 3) := by decide +kernel
theorem dX2_slowest_49 : decode cX2_slowest 49 = .ok (.iload_n 2, 1) := by decide +kernel
theorem dX2_slowest_50 : decode cX2_slowest 50 = .ok (.ireturn, 1) := by decide +kernel
set_option maxRecDepth 20000 in
theorem ggX2_longest_X5_has : GoodIn wsX2_longest wsX5_has := goodIn_r _ [7] (by decide +kernel) (by decide +kernel)
set_option maxRecDepth 20000 in
theorem gX2_longest_X5_has_n40 : GoodIn wsX2_longest (wsX5_has) := ggX2_longest_X5_has
theorem dX2_longest_0 : decode cX2_longest 0 = .ok (.iconst 0, 1) := by decide +kernel
theorem dX2_longest_1 : decode cX2_longest 1 = .ok (.istore_n 2, 1) := by decide +kernel
theorem dX2_longest_2 : decode cX2_longest 2 = .ok (.iconst 0, 1) := by decide +kernel
theorem dX2_longest_3 : decode cX2_longest 3 = .ok (.istore_n 3, 1) := by decide +kernel
theorem dX2_longest_4 : decode cX2_longest 4 = .ok (.iload_n 3, 1) := by decide +kernel
theorem dX2_longest_5 : decode cX2_longest 5 = .ok (.aload_n 0, 1) := by decide +kernel
theorem dX2_longest_6 : decode cX2_longest 6 = .ok (.arraylength, 1) := by decide +kernel
theorem dX2_longest_7 : decode cX2_longest 7 = .ok (.if_icmp .ge 25, 3) := by decide +kernel
theorem dX2_longest_10 : decode cX2_longest 10 = .ok (.iload_n 1, 1) := by decide +kernel
theorem dX2_longest_11 : decode cX2_longest 11 = .ok (.iload_n 3, 1) := by decide +kernel
theorem dX2_longest_12 : decode cX2_longest 12 = .ok (.invokestatic 40, 3) := by decide +kernel
theorem dX2_longest_15 : decode cX2_longest 15 = .ok (.ifCond .eq 11, 3) := by decide +kernel
theorem dX2_longest_18 : decode cX2_longest 18 = .ok (.iload_n 2, 1) := by decide +kernel
theorem dX2_longest_19 : decode cX2_longest 19 = .ok (.aload_n 0, 1) := by decide +kernel
theorem dX2_longest_20 : decode cX2_longest 20 = .ok (.iload_n 3, 1) := by decide +kernel
theorem dX2_longest_21 : decode cX2_longest 21 = .ok (.iaload, 1) := by decide +kernel
theorem dX2_longest_22 : decode cX2_longest 22 = .ok (.invokestatic 43, 3) := by decide +kernel
theorem dX2_longest_25 : decode cX2_longest 25 = .ok (.istore_n 2, 1) := by decide +kernel
theorem dX2_longest_26 : decode cX2_longest 26 = .ok (.iinc 3 1, 3) := by decide +kernel
theorem dX2_longest_29 : decode cX2_longest 29 = .ok (.goto (-25), 3) := by decide +kernel
theorem dX2_longest_32 : decode cX2_longest 32 = .ok (.iload_n 2, 1) := by decide +kernel
theorem dX2_longest_33 : decode cX2_longest 33 = .ok (.ireturn, 1) := by decide +kernel
theorem dX3_init_0 : decode cX3_init 0 = .ok (.aload_n 0, 1) := by decide +kernel
theorem dX3_init_1 : decode cX3_init 1 = .ok (.invokespecial 3, 3) := by decide +kernel
theorem dX3_init_4 : decode cX3_init 4 = .ok (.aload_n 0, 1) := by decide +kernel
theorem dX3_init_5 : decode cX3_init 5 = .ok (.bipush 16, 2) := by decide +kernel
theorem dX3_init_7 : decode cX3_init 7 = .ok (.newarray .int, 2) := by decide +kernel
theorem dX3_init_9 : decode cX3_init 9 = .ok (.putfield 9, 3) := by decide +kernel
theorem dX3_init_12 : decode cX3_init 12 = .ok (.aload_n 0, 1) := by decide +kernel
theorem dX3_init_13 : decode cX3_init 13 = .ok (.bipush 17, 2) := by decide +kernel
theorem dX3_init_15 : decode cX3_init 15 = .ok (.newarray .int, 2) := by decide +kernel
theorem dX3_init_17 : decode cX3_init 17 = .ok (.putfield 15, 3) := by decide +kernel
theorem dX3_init_20 : decode cX3_init 20 = .ok (.aload_n 0, 1) := by decide +kernel
theorem dX3_init_21 : decode cX3_init 21 = .ok (.iconst 0, 1) := by decide +kernel
theorem dX3_init_22 : decode cX3_init 22 = .ok (.putfield 18, 3) := by decide +kernel
theorem dX3_init_25 : decode cX3_init 25 = .ok (.return_, 1) := by decide +kernel
theorem dX3_size_0 : decode cX3_size 0 = .ok (.aload_n 0, 1) := by decide +kernel
theorem dX3_size_1 : decode cX3_size 1 = .ok (.getfield 18, 3) := by decide +kernel
theorem dX3_size_4 : decode cX3_size 4 = .ok (.ireturn, 1) := by decide +kernel
set_option maxRecDepth 20000 in
theorem ggX3_add_X5_endsTo : GoodIn wsX3_add wsX5_endsTo := goodIn_r _ [6] (by decide +kernel) (by decide +kernel)
set_option maxRecDepth 20000 in
theorem gX3_add_X5_endsTo_n22 : GoodIn wsX3_add (wsX5_endsTo) := ggX3_add_X5_endsTo
theorem dX3_add_0 : decode cX3_add 0 = .ok (.aload_n 0, 1) := by decide +kernel
theorem dX3_add_1 : decode cX3_add 1 = .ok (.getfield 18, 3) := by decide +kernel
theorem dX3_add_4 : decode cX3_add 4 = .ok (.bipush 16, 2) := by decide +kernel
theorem dX3_add_6 : decode cX3_add 6 = .ok (.if_icmp .lt 4, 3) := by decide +kernel
theorem dX3_add_9 : decode cX3_add 9 = .ok (.return_, 1) := by decide +kernel
theorem dX3_add_10 : decode cX3_add 10 = .ok (.aload_n 0, 1) := by decide +kernel
theorem dX3_add_11 : decode cX3_add 11 = .ok (.getfield 9, 3) := by decide +kernel
theorem dX3_add_14 : decode cX3_add 14 = .ok (.aload_n 0, 1) := by decide +kernel
theorem dX3_add_15 : decode cX3_add 15 = .ok (.getfield 18, 3) := by decide +kernel
theorem dX3_add_18 : decode cX3_add 18 = .ok (.iload_n 1, 1) := by decide +kernel
theorem dX3_add_19 : decode cX3_add 19 = .ok (.iload_n 2, 1) := by decide +kernel
theorem dX3_add_20 : decode cX3_add 20 = .ok (.invokestatic 22, 3) := by decide +kernel
theorem dX3_add_23 : decode cX3_add 23 = .ok (.iastore, 1) := by decide +kernel
theorem dX3_add_24 : decode cX3_add 24 = .ok (.aload_n 0, 1) := by decide +kernel
theorem dX3_add_25 : decode cX3_add 25 = .ok (.getfield 15, 3) := by decide +kernel
theorem dX3_add_28 : decode cX3_add 28 = .ok (.aload_n 0, 1) := by decide +kernel
theorem dX3_add_29 : decode cX3_add 29 = .ok (.getfield 18, 3) := by decide +kernel
theorem dX3_add_32 : decode cX3_add 32 = .ok (.iconst 1, 1) := by decide +kernel
theorem dX3_add_33 : decode cX3_add 33 = .ok (.iadd, 1) := by decide +kernel
theorem dX3_add_34 : decode cX3_add 34 = .ok (.aload_n 0, 1) := by decide +kernel
theorem dX3_add_35 : decode cX3_add 35 = .ok (.getfield 15, 3) := by decide +kernel
theorem dX3_add_38 : decode cX3_add 38 = .ok (.aload_n 0, 1) := by decide +kernel
theorem dX3_add_39 : decode cX3_add 39 = .ok (.getfield 18, 3) := by decide +kernel
theorem dX3_add_42 : decode cX3_add 42 = .ok (.iaload, 1) := by decide +kernel
theorem dX3_add_43 : decode cX3_add 43 = .ok (.iload_n 1, 1) := by decide +kernel
theorem dX3_add_44 : decode cX3_add 44 = .ok (.ior, 1) := by decide +kernel
theorem dX3_add_45 : decode cX3_add 45 = .ok (.iload_n 2, 1) := by decide +kernel
theorem dX3_add_46 : decode cX3_add 46 = .ok (.iconst (-1), 1) := by decide +kernel
theorem dX3_add_47 : decode cX3_add 47 = .ok (.ixor, 1) := by decide +kernel
theorem dX3_add_48 : decode cX3_add 48 = .ok (.iand, 1) := by decide +kernel
theorem dX3_add_49 : decode cX3_add 49 = .ok (.iastore, 1) := by decide +kernel
theorem dX3_add_50 : decode cX3_add 50 = .ok (.aload_n 0, 1) := by decide +kernel
theorem dX3_add_51 : decode cX3_add 51 = .ok (.dup, 1) := by decide +kernel
theorem dX3_add_52 : decode cX3_add 52 = .ok (.getfield 18, 3) := by decide +kernel
theorem dX3_add_55 : decode cX3_add 55 = .ok (.iconst 1, 1) := by decide +kernel
theorem dX3_add_56 : decode cX3_add 56 = .ok (.iadd, 1) := by decide +kernel
theorem dX3_add_57 : decode cX3_add 57 = .ok (.putfield 18, 3) := by decide +kernel
theorem dX3_add_60 : decode cX3_add 60 = .ok (.return_, 1) := by decide +kernel
theorem dX3_removeLast_0 : decode cX3_removeLast 0 = .ok (.aload_n 0, 1) := by decide +kernel
theorem dX3_removeLast_1 : decode cX3_removeLast 1 = .ok (.getfield 18, 3) := by decide +kernel
theorem dX3_removeLast_4 : decode cX3_removeLast 4 = .ok (.ifCond .le 13, 3) := by decide +kernel
theorem dX3_removeLast_7 : decode cX3_removeLast 7 = .ok (.aload_n 0, 1) := by decide +kernel
theorem dX3_removeLast_8 : decode cX3_removeLast 8 = .ok (.dup, 1) := by decide +kernel
theorem dX3_removeLast_9 : decode cX3_removeLast 9 = .ok (.getfield 18, 3) := by decide +kernel
theorem dX3_removeLast_12 : decode cX3_removeLast 12 = .ok (.iconst 1, 1) := by decide +kernel
theorem dX3_removeLast_13 : decode cX3_removeLast 13 = .ok (.isub, 1) := by decide +kernel
theorem dX3_removeLast_14 : decode cX3_removeLast 14 = .ok (.putfield 18, 3) := by decide +kernel
theorem dX3_removeLast_17 : decode cX3_removeLast 17 = .ok (.return_, 1) := by decide +kernel
set_option maxRecDepth 20000 in
theorem ggX3_endsOf_X5_isBelow : GoodIn wsX3_endsOf wsX5_isBelow := goodIn_r _ [5] (by decide +kernel) (by decide +kernel)
set_option maxRecDepth 20000 in
theorem gX3_endsOf_X5_isBelow_n26 : GoodIn wsX3_endsOf (wsX5_isBelow) := ggX3_endsOf_X5_isBelow
theorem dX3_endsOf_0 : decode cX3_endsOf 0 = .ok (.iload_n 1, 1) := by decide +kernel
theorem dX3_endsOf_1 : decode cX3_endsOf 1 = .ok (.aload_n 0, 1) := by decide +kernel
theorem dX3_endsOf_2 : decode cX3_endsOf 2 = .ok (.getfield 18, 3) := by decide +kernel
theorem dX3_endsOf_5 : decode cX3_endsOf 5 = .ok (.invokestatic 26, 3) := by decide +kernel
theorem dX3_endsOf_8 : decode cX3_endsOf 8 = .ok (.ifCond .eq 12, 3) := by decide +kernel
theorem dX3_endsOf_11 : decode cX3_endsOf 11 = .ok (.aload_n 0, 1) := by decide +kernel
theorem dX3_endsOf_12 : decode cX3_endsOf 12 = .ok (.getfield 9, 3) := by decide +kernel
theorem dX3_endsOf_15 : decode cX3_endsOf 15 = .ok (.iload_n 1, 1) := by decide +kernel
theorem dX3_endsOf_16 : decode cX3_endsOf 16 = .ok (.iaload, 1) := by decide +kernel
theorem dX3_endsOf_17 : decode cX3_endsOf 17 = .ok (.goto 4, 3) := by decide +kernel
theorem dX3_endsOf_20 : decode cX3_endsOf 20 = .ok (.iconst 0, 1) := by decide +kernel
theorem dX3_endsOf_21 : decode cX3_endsOf 21 = .ok (.ireturn, 1) := by decide +kernel
set_option maxRecDepth 20000 in
theorem ggX3_stateAt_X5_isBelow : GoodIn wsX3_stateAt wsX5_isBelow := goodIn_r _ [5] (by decide +kernel) (by decide +kernel)
set_option maxRecDepth 20000 in
theorem gX3_stateAt_X5_isBelow_n26 : GoodIn wsX3_stateAt (wsX5_isBelow) := ggX3_stateAt_X5_isBelow
theorem dX3_stateAt_0 : decode cX3_stateAt 0 = .ok (.iload_n 1, 1) := by decide +kernel
theorem dX3_stateAt_1 : decode cX3_stateAt 1 = .ok (.aload_n 0, 1) := by decide +kernel
theorem dX3_stateAt_2 : decode cX3_stateAt 2 = .ok (.getfield 18, 3) := by decide +kernel
theorem dX3_stateAt_5 : decode cX3_stateAt 5 = .ok (.invokestatic 26, 3) := by decide +kernel
theorem dX3_stateAt_8 : decode cX3_stateAt 8 = .ok (.ifCond .eq 12, 3) := by decide +kernel
theorem dX3_stateAt_11 : decode cX3_stateAt 11 = .ok (.aload_n 0, 1) := by decide +kernel
theorem dX3_stateAt_12 : decode cX3_stateAt 12 = .ok (.getfield 15, 3) := by decide +kernel
theorem dX3_stateAt_15 : decode cX3_stateAt 15 = .ok (.iload_n 1, 1) := by decide +kernel
