theorem dX6_pace_30 : decode cX6_pace 30 = .ok (.ireturn, 1) := by decide +kernel
theorem dX6_pace_31 : decode cX6_pace 31 = .ok (.iconst 2, 1) := by decide +kernel
theorem dX6_pace_32 : decode cX6_pace 32 = .ok (.iload_n 1, 1) := by decide +kernel
theorem dX6_pace_33 : decode cX6_pace 33 = .ok (.imul, 1) := by decide +kernel
theorem dX6_pace_34 : decode cX6_pace 34 = .ok (.iload_n 2, 1) := by decide +kernel
theorem dX6_pace_35 : decode cX6_pace 35 = .ok (.ifCond .eq 7, 3) := by decide +kernel
theorem dX6_pace_38 : decode cX6_pace 38 = .ok (.iconst 1, 1) := by decide +kernel
theorem dX6_pace_39 : decode cX6_pace 39 = .ok (.goto 4, 3) := by decide +kernel
theorem dX6_pace_42 : decode cX6_pace 42 = .ok (.iconst 0, 1) := by decide +kernel
theorem dX6_pace_43 : decode cX6_pace 43 = .ok (.iadd, 1) := by decide +kernel
theorem dX6_pace_44 : decode cX6_pace 44 = .ok (.istore 5, 2) := by decide +kernel
theorem dX6_pace_46 : decode cX6_pace 46 = .ok (.aload_n 0, 1) := by decide +kernel
theorem dX6_pace_47 : decode cX6_pace 47 = .ok (.getfield 16, 3) := by decide +kernel
theorem dX6_pace_50 : decode cX6_pace 50 = .ok (.iload 5, 2) := by decide +kernel
theorem dX6_pace_52 : decode cX6_pace 52 = .ok (.iload_n 3, 1) := by decide +kernel
theorem dX6_pace_53 : decode cX6_pace 53 = .ok (.iastore, 1) := by decide +kernel
theorem dX6_pace_54 : decode cX6_pace 54 = .ok (.aload_n 0, 1) := by decide +kernel
theorem dX6_pace_55 : decode cX6_pace 55 = .ok (.getfield 19, 3) := by decide +kernel
theorem dX6_pace_58 : decode cX6_pace 58 = .ok (.iload 5, 2) := by decide +kernel
theorem dX6_pace_60 : decode cX6_pace 60 = .ok (.iload 4, 2) := by decide +kernel
theorem dX6_pace_62 : decode cX6_pace 62 = .ok (.iastore, 1) := by decide +kernel
theorem dX6_pace_63 : decode cX6_pace 63 = .ok (.iconst 1, 1) := by decide +kernel
theorem dX6_pace_64 : decode cX6_pace 64 = .ok (.ireturn, 1) := by decide +kernel
theorem dX6_greatestOf_0 : decode cX6_greatestOf 0 = .ok (.iconst 0, 1) := by decide +kernel
theorem dX6_greatestOf_1 : decode cX6_greatestOf 1 = .ok (.istore_n 3, 1) := by decide +kernel
theorem dX6_greatestOf_2 : decode cX6_greatestOf 2 = .ok (.iconst 0, 1) := by decide +kernel
theorem dX6_greatestOf_3 : decode cX6_greatestOf 3 = .ok (.istore 4, 2) := by decide +kernel
theorem dX6_greatestOf_5 : decode cX6_greatestOf 5 = .ok (.iload 4, 2) := by decide +kernel
theorem dX6_greatestOf_7 : decode cX6_greatestOf 7 = .ok (.bipush 6, 2) := by decide +kernel
theorem dX6_greatestOf_9 : decode cX6_greatestOf 9 = .ok (.if_icmp .ge 85, 3) := by decide +kernel
theorem dX6_greatestOf_12 : decode cX6_greatestOf 12 = .ok (.aload_n 0, 1) := by decide +kernel
theorem dX6_greatestOf_13 : decode cX6_greatestOf 13 = .ok (.getfield 13, 3) := by decide +kernel
theorem dX6_greatestOf_16 : decode cX6_greatestOf 16 = .ok (.iload_n 1, 1) := by decide +kernel
theorem dX6_greatestOf_17 : decode cX6_greatestOf 17 = .ok (.iaload, 1) := by decide +kernel
theorem dX6_greatestOf_18 : decode cX6_greatestOf 18 = .ok (.iload 4, 2) := by decide +kernel
theorem dX6_greatestOf_20 : decode cX6_greatestOf 20 = .ok (.ishr, 1) := by decide +kernel
theorem dX6_greatestOf_21 : decode cX6_greatestOf 21 = .ok (.iconst 1, 1) := by decide +kernel
theorem dX6_greatestOf_22 : decode cX6_greatestOf 22 = .ok (.iand, 1) := by decide +kernel
theorem dX6_greatestOf_23 : decode cX6_greatestOf 23 = .ok (.iconst 1, 1) := by decide +kernel
theorem dX6_greatestOf_24 : decode cX6_greatestOf 24 = .ok (.if_icmp .ne 22, 3) := by decide +kernel
theorem dX6_greatestOf_27 : decode cX6_greatestOf 27 = .ok (.aload_n 2, 1) := by decide +kernel
theorem dX6_greatestOf_28 : decode cX6_greatestOf 28 = .ok (.iconst 2, 1) := by decide +kernel
theorem dX6_greatestOf_29 : decode cX6_greatestOf 29 = .ok (.iload 4, 2) := by decide +kernel
theorem dX6_greatestOf_31 : decode cX6_greatestOf 31 = .ok (.imul, 1) := by decide +kernel
theorem dX6_greatestOf_32 : decode cX6_greatestOf 32 = .ok (.iaload, 1) := by decide +kernel
theorem dX6_greatestOf_33 : decode cX6_greatestOf 33 = .ok (.iload_n 3, 1) := by decide +kernel
theorem dX6_greatestOf_34 : decode cX6_greatestOf 34 = .ok (.if_icmp .le 12, 3) := by decide +kernel
theorem dX6_greatestOf_37 : decode cX6_greatestOf 37 = .ok (.aload_n 2, 1) := by decide +kernel
theorem dX6_greatestOf_38 : decode cX6_greatestOf 38 = .ok (.iconst 2, 1) := by decide +kernel
theorem dX6_greatestOf_39 : decode cX6_greatestOf 39 = .ok (.iload 4, 2) := by decide +kernel
theorem dX6_greatestOf_41 : decode cX6_greatestOf 41 = .ok (.imul, 1) := by decide +kernel
theorem dX6_greatestOf_42 : decode cX6_greatestOf 42 = .ok (.iaload, 1) := by decide +kernel
theorem dX6_greatestOf_43 : decode cX6_greatestOf 43 = .ok (.goto 4, 3) := by decide +kernel
theorem dX6_greatestOf_46 : decode cX6_greatestOf 46 = .ok (.iload_n 3, 1) := by decide +kernel
theorem dX6_greatestOf_47 : decode cX6_greatestOf 47 = .ok (.istore_n 3, 1) := by decide +kernel
theorem dX6_greatestOf_48 : decode cX6_greatestOf 48 = .ok (.aload_n 0, 1) := by decide +kernel
theorem dX6_greatestOf_49 : decode cX6_greatestOf 49 = .ok (.getfield 7, 3) := by decide +kernel
theorem dX6_greatestOf_52 : decode cX6_greatestOf 52 = .ok (.iload_n 1, 1) := by decide +kernel
theorem dX6_greatestOf_53 : decode cX6_greatestOf 53 = .ok (.iaload, 1) := by decide +kernel
theorem dX6_greatestOf_54 : decode cX6_greatestOf 54 = .ok (.iload 4, 2) := by decide +kernel
theorem dX6_greatestOf_56 : decode cX6_greatestOf 56 = .ok (.ishr, 1) := by decide +kernel
theorem dX6_greatestOf_57 : decode cX6_greatestOf 57 = .ok (.iconst 1, 1) := by decide +kernel
theorem dX6_greatestOf_58 : decode cX6_greatestOf 58 = .ok (.iand, 1) := by decide +kernel
theorem dX6_greatestOf_59 : decode cX6_greatestOf 59 = .ok (.iconst 1, 1) := by decide +kernel
theorem dX6_greatestOf_60 : decode cX6_greatestOf 60 = .ok (.if_icmp .ne 26, 3) := by decide +kernel
theorem dX6_greatestOf_63 : decode cX6_greatestOf 63 = .ok (.aload_n 2, 1) := by decide +kernel
theorem dX6_greatestOf_64 : decode cX6_greatestOf 64 = .ok (.iconst 2, 1) := by decide +kernel
theorem dX6_greatestOf_65 : decode cX6_greatestOf 65 = .ok (.iload 4, 2) := by decide +kernel
theorem dX6_greatestOf_67 : decode cX6_greatestOf 67 = .ok (.imul, 1) := by decide +kernel
theorem dX6_greatestOf_68 : decode cX6_greatestOf 68 = .ok (.iconst 1, 1) := by decide +kernel
theorem dX6_greatestOf_69 : decode cX6_greatestOf 69 = .ok (.iadd, 1) := by decide +kernel
theorem dX6_greatestOf_70 : decode cX6_greatestOf 70 = .ok (.iaload, 1) := by decide +kernel
theorem dX6_greatestOf_71 : decode cX6_greatestOf 71 = .ok (.iload_n 3, 1) := by decide +kernel
theorem dX6_greatestOf_72 : decode cX6_greatestOf 72 = .ok (.if_icmp .le 14, 3) := by decide +kernel
theorem dX6_greatestOf_75 : decode cX6_greatestOf 75 = .ok (.aload_n 2, 1) := by decide +kernel
theorem dX6_greatestOf_76 : decode cX6_greatestOf 76 = .ok (.iconst 2, 1) := by decide +kernel
theorem dX6_greatestOf_77 : decode cX6_greatestOf 77 = .ok (.iload 4, 2) := by decide +kernel
theorem dX6_greatestOf_79 : decode cX6_greatestOf 79 = .ok (.imul, 1) := by decide +kernel
theorem dX6_greatestOf_80 : decode cX6_greatestOf 80 = .ok (.iconst 1, 1) := by decide +kernel
theorem dX6_greatestOf_81 : decode cX6_greatestOf 81 = .ok (.iadd, 1) := by decide +kernel
theorem dX6_greatestOf_82 : decode cX6_greatestOf 82 = .ok (.iaload, 1) := by decide +kernel
theorem dX6_greatestOf_83 : decode cX6_greatestOf 83 = .ok (.goto 4, 3) := by decide +kernel
theorem dX6_greatestOf_86 : decode cX6_greatestOf 86 = .ok (.iload_n 3, 1) := by decide +kernel
theorem dX6_greatestOf_87 : decode cX6_greatestOf 87 = .ok (.istore_n 3, 1) := by decide +kernel
theorem dX6_greatestOf_88 : decode cX6_greatestOf 88 = .ok (.iinc 4 1, 3) := by decide +kernel
theorem dX6_greatestOf_91 : decode cX6_greatestOf 91 = .ok (.goto (-86), 3) := by decide +kernel
theorem dX6_greatestOf_94 : decode cX6_greatestOf 94 = .ok (.iload_n 3, 1) := by decide +kernel
theorem dX6_greatestOf_95 : decode cX6_greatestOf 95 = .ok (.ireturn, 1) := by decide +kernel
set_option maxRecDepth 20000 in
theorem ggX6_span_X6_in : GoodIn wsX6_span wsX6_in := goodIn_r _ [7] (by decide +kernel) (by decide +kernel)
set_option maxRecDepth 20000 in
theorem gX6_span_X6_in : GoodIn wsX6_span (va_wsS RX6 41 yX6_in wsX6_in) := goodIn_app (goodIn_of _ (by decide +kernel)) ggX6_span_X6_in
set_option maxRecDepth 20000 in
theorem ggX6_span_X6_isSound : GoodIn wsX6_span wsX6_isSound := goodIn_r _ [11, 12, 13, 14, 6, 15, 16, 1, 17, 18, 23, 24, 25, 26, 27, 28, 29, 30, 31, 32, 33, 34, 35] (by decide +kernel) (by decide +kernel)
set_option maxRecDepth 20000 in
theorem gX6_span_X6_isSound : GoodIn wsX6_span (wsV RX6 57 RX6 yX6_isSound wsX6_isSound) := goodIn_app (goodIn_of _ (by decide +kernel)) ggX6_span_X6_isSound
set_option maxRecDepth 20000 in
theorem ggX6_span_X6_greatestOf : GoodIn wsX6_span wsX6_greatestOf := goodIn_r _ [22, 18, 17, 23, 24, 25, 26, 27, 28, 29, 30, 31, 32, 33, 34, 35] (by decide +kernel) (by decide +kernel)
set_option maxRecDepth 20000 in
theorem gX6_span_X6_greatestOf : GoodIn wsX6_span (wsV RX6 100 RX6 yX6_greatestOf wsX6_greatestOf) := goodIn_app (goodIn_of _ (by decide +kernel)) ggX6_span_X6_greatestOf
theorem dX6_span_0 : decode cX6_span 0 = .ok (.iload_n 1, 1) := by decide +kernel
theorem dX6_span_1 : decode cX6_span 1 = .ok (.iconst 0, 1) := by decide +kernel
theorem dX6_span_2 : decode cX6_span 2 = .ok (.iconst 2, 1) := by decide +kernel
theorem dX6_span_3 : decode cX6_span 3 = .ok (.invokestatic 41, 3) := by decide +kernel
theorem dX6_span_6 : decode cX6_span 6 = .ok (.ifCond .ne 6, 3) := by decide +kernel
theorem dX6_span_9 : decode cX6_span 9 = .ok (.bipush (-2), 2) := by decide +kernel
theorem dX6_span_11 : decode cX6_span 11 = .ok (.ireturn, 1) := by decide +kernel
theorem dX6_span_12 : decode cX6_span 12 = .ok (.aload_n 0, 1) := by decide +kernel
theorem dX6_span_13 : decode cX6_span 13 = .ok (.invokevirtual 57, 3) := by decide +kernel
theorem dX6_span_16 : decode cX6_span 16 = .ok (.ifCond .ne 6, 3) := by decide +kernel
theorem dX6_span_19 : decode cX6_span 19 = .ok (.bipush (-3), 2) := by decide +kernel
theorem dX6_span_21 : decode cX6_span 21 = .ok (.ireturn, 1) := by decide +kernel
theorem dX6_span_22 : decode cX6_span 22 = .ok (.iconst 0, 1) := by decide +kernel
theorem dX6_span_23 : decode cX6_span 23 = .ok (.istore_n 2, 1) := by decide +kernel
theorem dX6_span_24 : decode cX6_span 24 = .ok (.iconst 0, 1) := by decide +kernel
theorem dX6_span_25 : decode cX6_span 25 = .ok (.istore_n 3, 1) := by decide +kernel
theorem dX6_span_26 : decode cX6_span 26 = .ok (.iconst 0, 1) := by decide +kernel
theorem dX6_span_27 : decode cX6_span 27 = .ok (.istore 4, 2) := by decide +kernel
theorem dX6_span_29 : decode cX6_span 29 = .ok (.iload 4, 2) := by decide +kernel
theorem dX6_span_31 : decode cX6_span 31 = .ok (.aload_n 0, 1) := by decide +kernel
theorem dX6_span_32 : decode cX6_span 32 = .ok (.getfield 45, 3) := by decide +kernel
theorem dX6_span_35 : decode cX6_span 35 = .ok (.if_icmp .ge 62, 3) := by decide +kernel
theorem dX6_span_38 : decode cX6_span 38 = .ok (.iload_n 2, 1) := by decide +kernel
theorem dX6_span_39 : decode cX6_span 39 = .ok (.aload_n 0, 1) := by decide +kernel
theorem dX6_span_40 : decode cX6_span 40 = .ok (.iload 4, 2) := by decide +kernel
theorem dX6_span_42 : decode cX6_span 42 = .ok (.iload_n 1, 1) := by decide +kernel
theorem dX6_span_43 : decode cX6_span 43 = .ok (.ifCond .ne 10, 3) := by decide +kernel
theorem dX6_span_46 : decode cX6_span 46 = .ok (.aload_n 0, 1) := by decide +kernel
theorem dX6_span_47 : decode cX6_span 47 = .ok (.getfield 16, 3) := by decide +kernel
theorem dX6_span_50 : decode cX6_span 50 = .ok (.goto 7, 3) := by decide +kernel
theorem dX6_span_53 : decode cX6_span 53 = .ok (.aload_n 0, 1) := by decide +kernel
theorem dX6_span_54 : decode cX6_span 54 = .ok (.getfield 19, 3) := by decide +kernel
theorem dX6_span_57 : decode cX6_span 57 = .ok (.invokevirtual 100, 3) := by decide +kernel
theorem dX6_span_60 : decode cX6_span 60 = .ok (.iadd, 1) := by decide +kernel
theorem dX6_span_61 : decode cX6_span 61 = .ok (.istore_n 2, 1) := by decide +kernel
theorem dX6_span_62 : decode cX6_span 62 = .ok (.aload_n 0, 1) := by decide +kernel
theorem dX6_span_63 : decode cX6_span 63 = .ok (.iload 4, 2) := by decide +kernel
theorem dX6_span_65 : decode cX6_span 65 = .ok (.aload_n 0, 1) := by decide +kernel
theorem dX6_span_66 : decode cX6_span 66 = .ok (.getfield 19, 3) := by decide +kernel
theorem dX6_span_69 : decode cX6_span 69 = .ok (.invokevirtual 100, 3) := by decide +kernel
theorem dX6_span_72 : decode cX6_span 72 = .ok (.aload_n 0, 1) := by decide +kernel
theorem dX6_span_73 : decode cX6_span 73 = .ok (.iload_n 3, 1) := by decide +kernel
theorem dX6_span_74 : decode cX6_span 74 = .ok (.aload_n 0, 1) := by decide +kernel
theorem dX6_span_75 : decode cX6_span 75 = .ok (.getfield 19, 3) := by decide +kernel
theorem dX6_span_78 : decode cX6_span 78 = .ok (.invokevirtual 100, 3) := by decide +kernel
theorem dX6_span_81 : decode cX6_span 81 = .ok (.if_icmp .le 8, 3) := by decide +kernel
theorem dX6_span_84 : decode cX6_span 84 = .ok (.iload 4, 2) := by decide +kernel
theorem dX6_span_86 : decode cX6_span 86 = .ok (.goto 4, 3) := by decide +kernel
theorem dX6_span_89 : decode cX6_span 89 = .ok (.iload_n 3, 1) := by decide +kernel
theorem dX6_span_90 : decode cX6_span 90 = .ok (.istore_n 3, 1) := by decide +kernel
theorem dX6_span_91 : decode cX6_span 91 = .ok (.iinc 4 1, 3) := by decide +kernel
theorem dX6_span_94 : decode cX6_span 94 = .ok (.goto (-65), 3) := by decide +kernel
theorem dX6_span_97 : decode cX6_span 97 = .ok (.iload_n 1, 1) := by decide +kernel
theorem dX6_span_98 : decode cX6_span 98 = .ok (.iconst 2, 1) := by decide +kernel
theorem dX6_span_99 : decode cX6_span 99 = .ok (.if_icmp .ne 7, 3) := by decide +kernel
theorem dX6_span_102 : decode cX6_span 102 = .ok (.iload_n 3, 1) := by decide +kernel
theorem dX6_span_103 : decode cX6_span 103 = .ok (.goto 4, 3) := by decide +kernel
theorem dX6_span_106 : decode cX6_span 106 = .ok (.iload_n 2, 1) := by decide +kernel
theorem dX6_span_107 : decode cX6_span 107 = .ok (.ireturn, 1) := by decide +kernel
set_option maxRecDepth 20000 in
theorem ggX6_law_X6_isCylinder : GoodIn wsX6_law wsX6_isCylinder := goodIn_r _ [9, 10, 11, 8, 12] (by decide +kernel) (by decide +kernel)
set_option maxRecDepth 20000 in
theorem gX6_law_X6_isCylinder : GoodIn wsX6_law (va_wsS RX6 97 yX6_isCylinder wsX6_isCylinder) := goodIn_app (goodIn_of _ (by decide +kernel)) ggX6_law_X6_isCylinder
theorem dX6_law_0 : decode cX6_law 0 = .ok (.iload_n 1, 1) := by decide +kernel
theorem dX6_law_1 : decode cX6_law 1 = .ok (.invokestatic 97, 3) := by decide +kernel
theorem dX6_law_4 : decode cX6_law 4 = .ok (.ifCond .eq 15, 3) := by decide +kernel
theorem dX6_law_7 : decode cX6_law 7 = .ok (.iload_n 3, 1) := by decide +kernel
theorem dX6_law_8 : decode cX6_law 8 = .ok (.invokestatic 97, 3) := by decide +kernel
theorem dX6_law_11 : decode cX6_law 11 = .ok (.ifCond .eq 8, 3) := by decide +kernel
theorem dX6_law_14 : decode cX6_law 14 = .ok (.iload_n 1, 1) := by decide +kernel
theorem dX6_law_15 : decode cX6_law 15 = .ok (.iload_n 3, 1) := by decide +kernel
theorem dX6_law_16 : decode cX6_law 16 = .ok (.if_icmp .ne 6, 3) := by decide +kernel
theorem dX6_law_19 : decode cX6_law 19 = .ok (.bipush (-2), 2) := by decide +kernel
theorem dX6_law_21 : decode cX6_law 21 = .ok (.ireturn, 1) := by decide +kernel
theorem dX6_law_22 : decode cX6_law 22 = .ok (.aload_n 0, 1) := by decide +kernel
theorem dX6_law_23 : decode cX6_law 23 = .ok (.getfield 104, 3) := by decide +kernel
theorem dX6_law_26 : decode cX6_law 26 = .ok (.bipush 12, 2) := by decide +kernel
theorem dX6_law_28 : decode cX6_law 28 = .ok (.if_icmp .ne 6, 3) := by decide +kernel
theorem dX6_law_31 : decode cX6_law 31 = .ok (.bipush (-4), 2) := by decide +kernel
theorem dX6_law_33 : decode cX6_law 33 = .ok (.ireturn, 1) := by decide +kernel
theorem dX6_law_34 : decode cX6_law 34 = .ok (.aload_n 0, 1) := by decide +kernel
theorem dX6_law_35 : decode cX6_law 35 = .ok (.getfield 22, 3) := by decide +kernel
theorem dX6_law_38 : decode cX6_law 38 = .ok (.aload_n 0, 1) := by decide +kernel
theorem dX6_law_39 : decode cX6_law 39 = .ok (.getfield 104, 3) := by decide +kernel
theorem dX6_law_42 : decode cX6_law 42 = .ok (.iload_n 1, 1) := by decide +kernel
theorem dX6_law_43 : decode cX6_law 43 = .ok (.iastore, 1) := by decide +kernel
theorem dX6_law_44 : decode cX6_law 44 = .ok (.aload_n 0, 1) := by decide +kernel
theorem dX6_law_45 : decode cX6_law 45 = .ok (.getfield 25, 3) := by decide +kernel
theorem dX6_law_48 : decode cX6_law 48 = .ok (.aload_n 0, 1) := by decide +kernel
theorem dX6_law_49 : decode cX6_law 49 = .ok (.getfield 104, 3) := by decide +kernel
theorem dX6_law_52 : decode cX6_law 52 = .ok (.iload_n 2, 1) := by decide +kernel
theorem dX6_law_53 : decode cX6_law 53 = .ok (.bastore, 1) := by decide +kernel
theorem dX6_law_54 : decode cX6_law 54 = .ok (.aload_n 0, 1) := by decide +kernel
theorem dX6_law_55 : decode cX6_law 55 = .ok (.getfield 29, 3) := by decide +kernel
theorem dX6_law_58 : decode cX6_law 58 = .ok (.aload_n 0, 1) := by decide +kernel
theorem dX6_law_59 : decode cX6_law 59 = .ok (.getfield 104, 3) := by decide +kernel
theorem dX6_law_62 : decode cX6_law 62 = .ok (.iload_n 3, 1) := by decide +kernel
theorem dX6_law_63 : decode cX6_law 63 = .ok (.iastore, 1) := by decide +kernel
theorem dX6_law_64 : decode cX6_law 64 = .ok (.aload_n 0, 1) := by decide +kernel
theorem dX6_law_65 : decode cX6_law 65 = .ok (.getfield 32, 3) := by decide +kernel
theorem dX6_law_68 : decode cX6_law 68 = .ok (.aload_n 0, 1) := by decide +kernel
theorem dX6_law_69 : decode cX6_law 69 = .ok (.getfield 104, 3) := by decide +kernel
theorem dX6_law_72 : decode cX6_law 72 = .ok (.iload 4, 2) := by decide +kernel
theorem dX6_law_74 : decode cX6_law 74 = .ok (.bastore, 1) := by decide +kernel
theorem dX6_law_75 : decode cX6_law 75 = .ok (.aload_n 0, 1) := by decide +kernel
theorem dX6_law_76 : decode cX6_law 76 = .ok (.dup, 1) := by decide +kernel
theorem dX6_law_77 : decode cX6_law 77 = .ok (.getfield 104, 3) := by decide +kernel
theorem dX6_law_80 : decode cX6_law 80 = .ok (.iconst 1, 1) := by decide +kernel
theorem dX6_law_81 : decode cX6_law 81 = .ok (.iadd, 1) := by decide +kernel
theorem dX6_law_82 : decode cX6_law 82 = .ok (.putfield 104, 3) := by decide +kernel
theorem dX6_law_85 : decode cX6_law 85 = .ok (.aload_n 0, 1) := by decide +kernel
theorem dX6_law_86 : decode cX6_law 86 = .ok (.getfield 104, 3) := by decide +kernel
theorem dX6_law_89 : decode cX6_law 89 = .ok (.iconst 1, 1) := by decide +kernel
theorem dX6_law_90 : decode cX6_law 90 = .ok (.isub, 1) := by decide +kernel
theorem dX6_law_91 : decode cX6_law 91 = .ok (.ireturn, 1) := by decide +kernel
set_option maxRecDepth 20000 in
theorem ggX6_repeal_X6_in : GoodIn wsX6_repeal wsX6_in := goodIn_r _ [9] (by decide +kernel) (by decide +kernel)
set_option maxRecDepth 20000 in
theorem gX6_repeal_X6_in : GoodIn wsX6_repeal (va_wsS RX6 41 yX6_in wsX6_in) := goodIn_app (goodIn_of _ (by decide +kernel)) ggX6_repeal_X6_in
theorem dX6_repeal_0 : decode cX6_repeal 0 = .ok (.iload_n 1, 1) := by decide +kernel
theorem dX6_repeal_1 : decode cX6_repeal 1 = .ok (.iconst 0, 1) := by decide +kernel
theorem dX6_repeal_2 : decode cX6_repeal 2 = .ok (.aload_n 0, 1) := by decide +kernel
theorem dX6_repeal_3 : decode cX6_repeal 3 = .ok (.getfield 104, 3) := by decide +kernel
theorem dX6_repeal_6 : decode cX6_repeal 6 = .ok (.iconst 1, 1) := by decide +kernel
theorem dX6_repeal_7 : decode cX6_repeal 7 = .ok (.isub, 1) := by decide +kernel
theorem dX6_repeal_8 : decode cX6_repeal 8 = .ok (.invokestatic 41, 3) := by decide +kernel
theorem dX6_repeal_11 : decode cX6_repeal 11 = .ok (.ifCond .ne 6, 3) := by decide +kernel
theorem dX6_repeal_14 : decode cX6_repeal 14 = .ok (.bipush (-2), 2) := by decide +kernel
theorem dX6_repeal_16 : decode cX6_repeal 16 = .ok (.ireturn, 1) := by decide +kernel
theorem dX6_repeal_17 : decode cX6_repeal 17 = .ok (.aload_n 0, 1) := by decide +kernel
theorem dX6_repeal_18 : decode cX6_repeal 18 = .ok (.dup, 1) := by decide +kernel
theorem dX6_repeal_19 : decode cX6_repeal 19 = .ok (.getfield 104, 3) := by decide +kernel
theorem dX6_repeal_22 : decode cX6_repeal 22 = .ok (.iconst 1, 1) := by decide +kernel
theorem dX6_repeal_23 : decode cX6_repeal 23 = .ok (.isub, 1) := by decide +kernel
theorem dX6_repeal_24 : decode cX6_repeal 24 = .ok (.putfield 104, 3) := by decide +kernel
theorem dX6_repeal_27 : decode cX6_repeal 27 = .ok (.iload_n 1, 1) := by decide +kernel
theorem dX6_repeal_28 : decode cX6_repeal 28 = .ok (.istore_n 2, 1) := by decide +kernel
theorem dX6_repeal_29 : decode cX6_repeal 29 = .ok (.iload_n 2, 1) := by decide +kernel
theorem dX6_repeal_30 : decode cX6_repeal 30 = .ok (.aload_n 0, 1) := by decide +kernel
theorem dX6_repeal_31 : decode cX6_repeal 31 = .ok (.getfield 104, 3) := by decide +kernel
theorem dX6_repeal_34 : decode cX6_repeal 34 = .ok (.if_icmp .ge 65, 3) := by decide +kernel
theorem dX6_repeal_37 : decode cX6_repeal 37 = .ok (.aload_n 0, 1) := by decide +kernel
theorem dX6_repeal_38 : decode cX6_repeal 38 = .ok (.getfield 22, 3) := by decide +kernel
theorem dX6_repeal_41 : decode cX6_repeal 41 = .ok (.iload_n 2, 1) := by decide +kernel
theorem dX6_repeal_42 : decode cX6_repeal 42 = .ok (.aload_n 0, 1) := by decide +kernel
theorem dX6_repeal_43 : decode cX6_repeal 43 = .ok (.getfield 22, 3) := by decide +kernel
theorem dX6_repeal_46 : decode cX6_repeal 46 = .ok (.iload_n 2, 1) := by decide +kernel
theorem dX6_repeal_47 : decode cX6_repeal 47 = .ok (.iconst 1, 1) := by decide +kernel
theorem dX6_repeal_48 : decode cX6_repeal 48 = .ok (.iadd, 1) := by decide +kernel
theorem dX6_repeal_49 : decode cX6_repeal 49 = .ok (.iaload, 1) := by decide +kernel
theorem dX6_repeal_50 : decode cX6_repeal 50 = .ok (.iastore, 1) := by decide +kernel
theorem dX6_repeal_51 : decode cX6_repeal 51 = .ok (.aload_n 0, 1) := by decide +kernel
theorem dX6_repeal_52 : decode cX6_repeal 52 = .ok (.getfield 25, 3) := by decide +kernel
theorem dX6_repeal_55 : decode cX6_repeal 55 = .ok (.iload_n 2, 1) := by decide +kernel
theorem dX6_repeal_56 : decode cX6_repeal 56 = .ok (.aload_n 0, 1) := by decide +kernel
theorem dX6_repeal_57 : decode cX6_repeal 57 = .ok (.getfield 25, 3) := by decide +kernel
theorem dX6_repeal_60 : decode cX6_repeal 60 = .ok (.iload_n 2, 1) := by decide +kernel
theorem dX6_repeal_61 : decode cX6_repeal 61 = .ok (.iconst 1, 1) := by decide +kernel
theorem dX6_repeal_62 : decode cX6_repeal 62 = .ok (.iadd, 1) := by decide +kernel
theorem dX6_repeal_63 : decode cX6_repeal 63 = .ok (.baload, 1) := by decide +kernel
theorem dX6_repeal_64 : decode cX6_repeal 64 = .ok (.bastore, 1) := by decide +kernel
theorem dX6_repeal_65 : decode cX6_repeal 65 = .ok (.aload_n 0, 1) := by decide +kernel
theorem dX6_repeal_66 : decode cX6_repeal 66 = .ok (.getfield 29, 3) := by decide +kernel
theorem dX6_repeal_69 : decode cX6_repeal 69 = .ok (.iload_n 2, 1) := by decide +kernel
theorem dX6_repeal_70 : decode cX6_repeal 70 = .ok (.aload_n 0, 1) := by decide +kernel
theorem dX6_repeal_71 : decode cX6_repeal 71 = .ok (.getfield 29, 3) := by decide +kernel
theorem dX6_repeal_74 : decode cX6_repeal 74 = .ok (.iload_n 2, 1) := by decide +kernel
theorem dX6_repeal_75 : decode cX6_repeal 75 = .ok (.iconst 1, 1) := by decide +kernel
theorem dX6_repeal_76 : decode cX6_repeal 76 = .ok (.iadd, 1) := by decide +kernel
theorem dX6_repeal_77 : decode cX6_repeal 77 = .ok (.iaload, 1) := by decide +kernel
theorem dX6_repeal_78 : decode cX6_repeal 78 = .ok (.iastore, 1) := by decide +kernel
theorem dX6_repeal_79 : decode cX6_repeal 79 = .ok (.aload_n 0, 1) := by decide +kernel
theorem dX6_repeal_80 : decode cX6_repeal 80 = .ok (.getfield 32, 3) := by decide +kernel
theorem dX6_repeal_83 : decode cX6_repeal 83 = .ok (.iload_n 2, 1) := by decide +kernel
theorem dX6_repeal_84 : decode cX6_repeal 84 = .ok (.aload_n 0, 1) := by decide +kernel
theorem dX6_repeal_85 : decode cX6_repeal 85 = .ok (.getfield 32, 3) := by decide +kernel
theorem dX6_repeal_88 : decode cX6_repeal 88 = .ok (.iload_n 2, 1) := by decide +kernel
theorem dX6_repeal_89 : decode cX6_repeal 89 = .ok (.iconst 1, 1) := by decide +kernel
theorem dX6_repeal_90 : decode cX6_repeal 90 = .ok (.iadd, 1) := by decide +kernel
theorem dX6_repeal_91 : decode cX6_repeal 91 = .ok (.baload, 1) := by decide +kernel
theorem dX6_repeal_92 : decode cX6_repeal 92 = .ok (.bastore, 1) := by decide +kernel
theorem dX6_repeal_93 : decode cX6_repeal 93 = .ok (.iinc 2 1, 3) := by decide +kernel
theorem dX6_repeal_96 : decode cX6_repeal 96 = .ok (.goto (-67), 3) := by decide +kernel
theorem dX6_repeal_99 : decode cX6_repeal 99 = .ok (.iconst 1, 1) := by decide +kernel
theorem dX6_repeal_100 : decode cX6_repeal 100 = .ok (.ireturn, 1) := by decide +kernel
theorem dX6_breaks_0 : decode cX6_breaks 0 = .ok (.iconst 0, 1) := by decide +kernel
theorem dX6_breaks_1 : decode cX6_breaks 1 = .ok (.istore 4, 2) := by decide +kernel
theorem dX6_breaks_3 : decode cX6_breaks 3 = .ok (.iconst 0, 1) := by decide +kernel
theorem dX6_breaks_4 : decode cX6_breaks 4 = .ok (.istore 5, 2) := by decide +kernel
theorem dX6_breaks_6 : decode cX6_breaks 6 = .ok (.iload 5, 2) := by decide +kernel
theorem dX6_breaks_8 : decode cX6_breaks 8 = .ok (.aload_n 0, 1) := by decide +kernel
theorem dX6_breaks_9 : decode cX6_breaks 9 = .ok (.getfield 104, 3) := by decide +kernel
theorem dX6_breaks_12 : decode cX6_breaks 12 = .ok (.if_icmp .ge 133, 3) := by decide +kernel
theorem dX6_breaks_15 : decode cX6_breaks 15 = .ok (.aload_n 0, 1) := by decide +kernel
theorem dX6_breaks_16 : decode cX6_breaks 16 = .ok (.getfield 25, 3) := by decide +kernel
theorem dX6_breaks_19 : decode cX6_breaks 19 = .ok (.iload 5, 2) := by decide +kernel
theorem dX6_breaks_21 : decode cX6_breaks 21 = .ok (.baload, 1) := by decide +kernel
theorem dX6_breaks_22 : decode cX6_breaks 22 = .ok (.ifCond .eq 7, 3) := by decide +kernel
theorem dX6_breaks_25 : decode cX6_breaks 25 = .ok (.iload_n 1, 1) := by decide +kernel
theorem dX6_breaks_26 : decode cX6_breaks 26 = .ok (.goto 4, 3) := by decide +kernel
theorem dX6_breaks_29 : decode cX6_breaks 29 = .ok (.iload_n 2, 1) := by decide +kernel
theorem dX6_breaks_30 : decode cX6_breaks 30 = .ok (.aload_n 0, 1) := by decide +kernel
theorem dX6_breaks_31 : decode cX6_breaks 31 = .ok (.getfield 22, 3) := by decide +kernel
theorem dX6_breaks_34 : decode cX6_breaks 34 = .ok (.iload 5, 2) := by decide +kernel
theorem dX6_breaks_36 : decode cX6_breaks 36 = .ok (.iaload, 1) := by decide +kernel
theorem dX6_breaks_37 : decode cX6_breaks 37 = .ok (.ishr, 1) := by decide +kernel
theorem dX6_breaks_38 : decode cX6_breaks 38 = .ok (.iconst 1, 1) := by decide +kernel
theorem dX6_breaks_39 : decode cX6_breaks 39 = .ok (.iand, 1) := by decide +kernel
theorem dX6_breaks_40 : decode cX6_breaks 40 = .ok (.iconst 1, 1) := by decide +kernel
theorem dX6_breaks_41 : decode cX6_breaks 41 = .ok (.if_icmp .ne 7, 3) := by decide +kernel
theorem dX6_breaks_44 : decode cX6_breaks 44 = .ok (.iconst 1, 1) := by decide +kernel
theorem dX6_breaks_45 : decode cX6_breaks 45 = .ok (.goto 4, 3) := by decide +kernel
theorem dX6_breaks_48 : decode cX6_breaks 48 = .ok (.iconst 0, 1) := by decide +kernel
theorem dX6_breaks_49 : decode cX6_breaks 49 = .ok (.istore 6, 2) := by decide +kernel
theorem dX6_breaks_51 : decode cX6_breaks 51 = .ok (.iload_n 3, 1) := by decide +kernel
theorem dX6_breaks_52 : decode cX6_breaks 52 = .ok (.aload_n 0, 1) := by decide +kernel
theorem dX6_breaks_53 : decode cX6_breaks 53 = .ok (.getfield 29, 3) := by decide +kernel
theorem dX6_breaks_56 : decode cX6_breaks 56 = .ok (.iload 5, 2) := by decide +kernel
theorem dX6_breaks_58 : decode cX6_breaks 58 = .ok (.iaload, 1) := by decide +kernel
theorem dX6_breaks_59 : decode cX6_breaks 59 = .ok (.ishr, 1) := by decide +kernel
theorem dX6_breaks_60 : decode cX6_breaks 60 = .ok (.iconst 1, 1) := by decide +kernel
theorem dX6_breaks_61 : decode cX6_breaks 61 = .ok (.iand, 1) := by decide +kernel
theorem dX6_breaks_62 : decode cX6_breaks 62 = .ok (.iconst 1, 1) := by decide +kernel
theorem dX6_breaks_63 : decode cX6_breaks 63 = .ok (.if_icmp .ne 7, 3) := by decide +kernel
theorem dX6_breaks_66 : decode cX6_breaks 66 = .ok (.iconst 1, 1) := by decide +kernel
theorem dX6_breaks_67 : decode cX6_breaks 67 = .ok (.goto 4, 3) := by decide +kernel
theorem dX6_breaks_70 : decode cX6_breaks 70 = .ok (.iconst 0, 1) := by decide +kernel
theorem dX6_breaks_71 : decode cX6_breaks 71 = .ok (.aload_n 0, 1) := by decide +kernel
theorem dX6_breaks_72 : decode cX6_breaks 72 = .ok (.getfield 32, 3) := by decide +kernel
theorem dX6_breaks_75 : decode cX6_breaks 75 = .ok (.iload 5, 2) := by decide +kernel
theorem dX6_breaks_77 : decode cX6_breaks 77 = .ok (.baload, 1) := by decide +kernel
theorem dX6_breaks_78 : decode cX6_breaks 78 = .ok (.if_icmp .ne 7, 3) := by decide +kernel
theorem dX6_breaks_81 : decode cX6_breaks 81 = .ok (.iconst 1, 1) := by decide +kernel
theorem dX6_breaks_82 : decode cX6_breaks 82 = .ok (.goto 4, 3) := by decide +kernel
theorem dX6_breaks_85 : decode cX6_breaks 85 = .ok (.iconst 0, 1) := by decide +kernel
theorem dX6_breaks_86 : decode cX6_breaks 86 = .ok (.istore 7, 2) := by decide +kernel
theorem dX6_breaks_88 : decode cX6_breaks 88 = .ok (.iload_n 1, 1) := by decide +kernel
theorem dX6_breaks_89 : decode cX6_breaks 89 = .ok (.iload_n 2, 1) := by decide +kernel
theorem dX6_breaks_90 : decode cX6_breaks 90 = .ok (.ior, 1) := by decide +kernel
theorem dX6_breaks_91 : decode cX6_breaks 91 = .ok (.aload_n 0, 1) := by decide +kernel
theorem dX6_breaks_92 : decode cX6_breaks 92 = .ok (.getfield 29, 3) := by decide +kernel
theorem dX6_breaks_95 : decode cX6_breaks 95 = .ok (.iload 5, 2) := by decide +kernel
theorem dX6_breaks_97 : decode cX6_breaks 97 = .ok (.iaload, 1) := by decide +kernel
theorem dX6_breaks_98 : decode cX6_breaks 98 = .ok (.ishr, 1) := by decide +kernel
theorem dX6_breaks_99 : decode cX6_breaks 99 = .ok (.iconst 1, 1) := by decide +kernel
theorem dX6_breaks_100 : decode cX6_breaks 100 = .ok (.iand, 1) := by decide +kernel
theorem dX6_breaks_101 : decode cX6_breaks 101 = .ok (.iconst 1, 1) := by decide +kernel
theorem dX6_breaks_102 : decode cX6_breaks 102 = .ok (.if_icmp .ne 7, 3) := by decide +kernel
theorem dX6_breaks_105 : decode cX6_breaks 105 = .ok (.iconst 1, 1) := by decide +kernel
theorem dX6_breaks_106 : decode cX6_breaks 106 = .ok (.goto 4, 3) := by decide +kernel
theorem dX6_breaks_109 : decode cX6_breaks 109 = .ok (.iconst 0, 1) := by decide +kernel
theorem dX6_breaks_110 : decode cX6_breaks 110 = .ok (.istore 8, 2) := by decide +kernel
theorem dX6_breaks_112 : decode cX6_breaks 112 = .ok (.iload 4, 2) := by decide +kernel
theorem dX6_breaks_114 : decode cX6_breaks 114 = .ok (.ifCond .ne 18, 3) := by decide +kernel
theorem dX6_breaks_117 : decode cX6_breaks 117 = .ok (.iload 6, 2) := by decide +kernel
theorem dX6_breaks_119 : decode cX6_breaks 119 = .ok (.ifCond .eq 17, 3) := by decide +kernel
theorem dX6_breaks_122 : decode cX6_breaks 122 = .ok (.iload 7, 2) := by decide +kernel
theorem dX6_breaks_124 : decode cX6_breaks 124 = .ok (.ifCond .ne 8, 3) := by decide +kernel
theorem dX6_breaks_127 : decode cX6_breaks 127 = .ok (.iload 8, 2) := by decide +kernel
theorem dX6_breaks_129 : decode cX6_breaks 129 = .ok (.ifCond .eq 7, 3) := by decide +kernel
theorem dX6_breaks_132 : decode cX6_breaks 132 = .ok (.iconst 1, 1) := by decide +kernel
theorem dX6_breaks_133 : decode cX6_breaks 133 = .ok (.goto 4, 3) := by decide +kernel
theorem dX6_breaks_136 : decode cX6_breaks 136 = .ok (.iconst 0, 1) := by decide +kernel
theorem dX6_breaks_137 : decode cX6_breaks 137 = .ok (.istore 4, 2) := by decide +kernel
theorem dX6_breaks_139 : decode cX6_breaks 139 = .ok (.iinc 5 1, 3) := by decide +kernel
theorem dX6_breaks_142 : decode cX6_breaks 142 = .ok (.goto (-136), 3) := by decide +kernel
theorem dX6_breaks_145 : decode cX6_breaks 145 = .ok (.iload 4, 2) := by decide +kernel
theorem dX6_breaks_147 : decode cX6_breaks 147 = .ok (.ireturn, 1) := by decide +kernel
set_option maxRecDepth 20000 in
theorem ggX6_breach_X6_isSound : GoodIn wsX6_breach wsX6_isSound := goodIn_r _ [9, 10, 11, 12, 8, 13, 4, 1, 2, 3, 23, 24, 25, 26, 27, 28, 29, 30, 31, 32, 33, 34, 35] (by decide +kernel) (by decide +kernel)
set_option maxRecDepth 20000 in
theorem gX6_breach_X6_isSound : GoodIn wsX6_breach (wsV RX6 57 RX6 yX6_isSound wsX6_isSound) := goodIn_app (goodIn_of _ (by decide +kernel)) ggX6_breach_X6_isSound
set_option maxRecDepth 20000 in
theorem ggX6_breach_X6_breaks : GoodIn wsX6_breach wsX6_breaks := goodIn_r _ [17, 18, 19, 20, 21, 22, 23, 24, 25, 26, 27, 28, 29, 30, 31, 32, 33, 34, 35] (by decide +kernel) (by decide +kernel)
set_option maxRecDepth 20000 in
theorem gX6_breach_X6_breaks : GoodIn wsX6_breach (wsV RX6 107 RX6 yX6_breaks wsX6_breaks) := goodIn_app (goodIn_of _ (by decide +kernel)) ggX6_breach_X6_breaks
theorem dX6_breach_0 : decode cX6_breach 0 = .ok (.aload_n 0, 1) := by decide +kernel
theorem dX6_breach_1 : decode cX6_breach 1 = .ok (.invokevirtual 57, 3) := by decide +kernel
theorem dX6_breach_4 : decode cX6_breach 4 = .ok (.ifCond .ne 6, 3) := by decide +kernel
theorem dX6_breach_7 : decode cX6_breach 7 = .ok (.bipush (-3), 2) := by decide +kernel
theorem dX6_breach_9 : decode cX6_breach 9 = .ok (.ireturn, 1) := by decide +kernel
theorem dX6_breach_10 : decode cX6_breach 10 = .ok (.iconst 0, 1) := by decide +kernel
theorem dX6_breach_11 : decode cX6_breach 11 = .ok (.istore_n 1, 1) := by decide +kernel
theorem dX6_breach_12 : decode cX6_breach 12 = .ok (.iload_n 1, 1) := by decide +kernel
theorem dX6_breach_13 : decode cX6_breach 13 = .ok (.aload_n 0, 1) := by decide +kernel
theorem dX6_breach_14 : decode cX6_breach 14 = .ok (.getfield 45, 3) := by decide +kernel
theorem dX6_breach_17 : decode cX6_breach 17 = .ok (.if_icmp .ge 36, 3) := by decide +kernel
theorem dX6_breach_20 : decode cX6_breach 20 = .ok (.aload_n 0, 1) := by decide +kernel
theorem dX6_breach_21 : decode cX6_breach 21 = .ok (.aload_n 0, 1) := by decide +kernel
theorem dX6_breach_22 : decode cX6_breach 22 = .ok (.getfield 7, 3) := by decide +kernel
theorem dX6_breach_25 : decode cX6_breach 25 = .ok (.iload_n 1, 1) := by decide +kernel
theorem dX6_breach_26 : decode cX6_breach 26 = .ok (.iaload, 1) := by decide +kernel
theorem dX6_breach_27 : decode cX6_breach 27 = .ok (.aload_n 0, 1) := by decide +kernel
theorem dX6_breach_28 : decode cX6_breach 28 = .ok (.getfield 13, 3) := by decide +kernel
theorem dX6_breach_31 : decode cX6_breach 31 = .ok (.iload_n 1, 1) := by decide +kernel
theorem dX6_breach_32 : decode cX6_breach 32 = .ok (.iaload, 1) := by decide +kernel
theorem dX6_breach_33 : decode cX6_breach 33 = .ok (.aload_n 0, 1) := by decide +kernel
theorem dX6_breach_34 : decode cX6_breach 34 = .ok (.getfield 35, 3) := by decide +kernel
theorem dX6_breach_37 : decode cX6_breach 37 = .ok (.iload_n 1, 1) := by decide +kernel
theorem dX6_breach_38 : decode cX6_breach 38 = .ok (.iaload, 1) := by decide +kernel
theorem dX6_breach_39 : decode cX6_breach 39 = .ok (.invokevirtual 107, 3) := by decide +kernel
theorem dX6_breach_42 : decode cX6_breach 42 = .ok (.ifCond .eq 5, 3) := by decide +kernel
theorem dX6_breach_45 : decode cX6_breach 45 = .ok (.iload_n 1, 1) := by decide +kernel
theorem dX6_breach_46 : decode cX6_breach 46 = .ok (.ireturn, 1) := by decide +kernel
theorem dX6_breach_47 : decode cX6_breach 47 = .ok (.iinc 1 1, 3) := by decide +kernel
theorem dX6_breach_50 : decode cX6_breach 50 = .ok (.goto (-38), 3) := by decide +kernel
theorem dX6_breach_53 : decode cX6_breach 53 = .ok (.iconst (-1), 1) := by decide +kernel
theorem dX6_breach_54 : decode cX6_breach 54 = .ok (.ireturn, 1) := by decide +kernel
set_option maxRecDepth 20000 in
theorem ggX6_mayMove_X6_breaks : GoodIn wsX6_mayMove wsX6_breaks := goodIn_r _ [5, 6, 7, 8, 9, 10, 11, 12, 13, 14, 15, 16, 17, 18, 19, 20, 21, 22, 23] (by decide +kernel) (by decide +kernel)
set_option maxRecDepth 20000 in
theorem gX6_mayMove_X6_breaks : GoodIn wsX6_mayMove (wsV RX6 107 RX6 yX6_breaks wsX6_breaks) := goodIn_app (goodIn_of _ (by decide +kernel)) ggX6_mayMove_X6_breaks
theorem dX6_mayMove_0 : decode cX6_mayMove 0 = .ok (.iload_n 1, 1) := by decide +kernel
theorem dX6_mayMove_1 : decode cX6_mayMove 1 = .ok (.iload_n 2, 1) := by decide +kernel
theorem dX6_mayMove_2 : decode cX6_mayMove 2 = .ok (.ishr, 1) := by decide +kernel
theorem dX6_mayMove_3 : decode cX6_mayMove 3 = .ok (.iconst 1, 1) := by decide +kernel
theorem dX6_mayMove_4 : decode cX6_mayMove 4 = .ok (.iand, 1) := by decide +kernel
theorem dX6_mayMove_5 : decode cX6_mayMove 5 = .ok (.ifCond .ne 7, 3) := by decide +kernel
theorem dX6_mayMove_8 : decode cX6_mayMove 8 = .ok (.iconst 1, 1) := by decide +kernel
theorem dX6_mayMove_9 : decode cX6_mayMove 9 = .ok (.goto 4, 3) := by decide +kernel
theorem dX6_mayMove_12 : decode cX6_mayMove 12 = .ok (.iconst 0, 1) := by decide +kernel
theorem dX6_mayMove_13 : decode cX6_mayMove 13 = .ok (.istore_n 3, 1) := by decide +kernel
theorem dX6_mayMove_14 : decode cX6_mayMove 14 = .ok (.aload_n 0, 1) := by decide +kernel
theorem dX6_mayMove_15 : decode cX6_mayMove 15 = .ok (.iload_n 3, 1) := by decide +kernel
theorem dX6_mayMove_16 : decode cX6_mayMove 16 = .ok (.ifCond .eq 9, 3) := by decide +kernel
theorem dX6_mayMove_19 : decode cX6_mayMove 19 = .ok (.iconst 1, 1) := by decide +kernel
theorem dX6_mayMove_20 : decode cX6_mayMove 20 = .ok (.iload_n 2, 1) := by decide +kernel
theorem dX6_mayMove_21 : decode cX6_mayMove 21 = .ok (.ishl, 1) := by decide +kernel
theorem dX6_mayMove_22 : decode cX6_mayMove 22 = .ok (.goto 4, 3) := by decide +kernel
theorem dX6_mayMove_25 : decode cX6_mayMove 25 = .ok (.iconst 0, 1) := by decide +kernel
theorem dX6_mayMove_26 : decode cX6_mayMove 26 = .ok (.iload_n 3, 1) := by decide +kernel
theorem dX6_mayMove_27 : decode cX6_mayMove 27 = .ok (.ifCond .eq 7, 3) := by decide +kernel
theorem dX6_mayMove_30 : decode cX6_mayMove 30 = .ok (.iconst 0, 1) := by decide +kernel
theorem dX6_mayMove_31 : decode cX6_mayMove 31 = .ok (.goto 6, 3) := by decide +kernel
theorem dX6_mayMove_34 : decode cX6_mayMove 34 = .ok (.iconst 1, 1) := by decide +kernel
theorem dX6_mayMove_35 : decode cX6_mayMove 35 = .ok (.iload_n 2, 1) := by decide +kernel
theorem dX6_mayMove_36 : decode cX6_mayMove 36 = .ok (.ishl, 1) := by decide +kernel
theorem dX6_mayMove_37 : decode cX6_mayMove 37 = .ok (.iload_n 1, 1) := by decide +kernel
theorem dX6_mayMove_38 : decode cX6_mayMove 38 = .ok (.invokevirtual 107, 3) := by decide +kernel
theorem dX6_mayMove_41 : decode cX6_mayMove 41 = .ok (.ifCond .ne 7, 3) := by decide +kernel
theorem dX6_mayMove_44 : decode cX6_mayMove 44 = .ok (.iconst 1, 1) := by decide +kernel
theorem dX6_mayMove_45 : decode cX6_mayMove 45 = .ok (.goto 4, 3) := by decide +kernel
theorem dX6_mayMove_48 : decode cX6_mayMove 48 = .ok (.iconst 0, 1) := by decide +kernel
theorem dX6_mayMove_49 : decode cX6_mayMove 49 = .ok (.ireturn, 1) := by decide +kernel
set_option maxRecDepth 20000 in
theorem ggX6_layWays_X6_mayMove : GoodIn wsX6_layWays wsX6_mayMove := goodIn_r _ [6, 7, 8, 9, 5, 10, 11, 12, 13, 14, 15, 16, 17, 18, 19, 20, 21, 22, 23, 24, 25, 26, 27, 28] (by decide +kernel) (by decide +kernel)
set_option maxRecDepth 20000 in
theorem gX6_layWays_X6_mayMove : GoodIn wsX6_layWays (wsV RX6 110 RX6 yX6_mayMove wsX6_mayMove) := goodIn_app (goodIn_of _ (by decide +kernel)) ggX6_layWays_X6_mayMove
theorem dX6_layWays_0 : decode cX6_layWays 0 = .ok (.iconst 0, 1) := by decide +kernel
theorem dX6_layWays_1 : decode cX6_layWays 1 = .ok (.istore_n 1, 1) := by decide +kernel
theorem dX6_layWays_2 : decode cX6_layWays 2 = .ok (.iload_n 1, 1) := by decide +kernel
theorem dX6_layWays_3 : decode cX6_layWays 3 = .ok (.bipush 63, 2) := by decide +kernel
theorem dX6_layWays_5 : decode cX6_layWays 5 = .ok (.if_icmp .gt 26, 3) := by decide +kernel
theorem dX6_layWays_8 : decode cX6_layWays 8 = .ok (.aload_n 0, 1) := by decide +kernel
theorem dX6_layWays_9 : decode cX6_layWays 9 = .ok (.getfield 38, 3) := by decide +kernel
theorem dX6_layWays_12 : decode cX6_layWays 12 = .ok (.iload_n 1, 1) := by decide +kernel
theorem dX6_layWays_13 : decode cX6_layWays 13 = .ok (.iload_n 1, 1) := by decide +kernel
theorem dX6_layWays_14 : decode cX6_layWays 14 = .ok (.ifCond .ne 7, 3) := by decide +kernel
theorem dX6_layWays_17 : decode cX6_layWays 17 = .ok (.iconst 0, 1) := by decide +kernel
theorem dX6_layWays_18 : decode cX6_layWays 18 = .ok (.goto 6, 3) := by decide +kernel
theorem dX6_layWays_21 : decode cX6_layWays 21 = .ok (.sipush 1000, 3) := by decide +kernel
theorem dX6_layWays_24 : decode cX6_layWays 24 = .ok (.iastore, 1) := by decide +kernel
theorem dX6_layWays_25 : decode cX6_layWays 25 = .ok (.iinc 1 1, 3) := by decide +kernel
theorem dX6_layWays_28 : decode cX6_layWays 28 = .ok (.goto (-26), 3) := by decide +kernel
theorem dX6_layWays_31 : decode cX6_layWays 31 = .ok (.iconst 1, 1) := by decide +kernel
theorem dX6_layWays_32 : decode cX6_layWays 32 = .ok (.istore_n 1, 1) := by decide +kernel
theorem dX6_layWays_33 : decode cX6_layWays 33 = .ok (.iload_n 1, 1) := by decide +kernel
theorem dX6_layWays_34 : decode cX6_layWays 34 = .ok (.ifCond .eq 86, 3) := by decide +kernel
theorem dX6_layWays_37 : decode cX6_layWays 37 = .ok (.iconst 0, 1) := by decide +kernel
theorem dX6_layWays_38 : decode cX6_layWays 38 = .ok (.istore_n 1, 1) := by decide +kernel
theorem dX6_layWays_39 : decode cX6_layWays 39 = .ok (.iconst 0, 1) := by decide +kernel
theorem dX6_layWays_40 : decode cX6_layWays 40 = .ok (.istore_n 2, 1) := by decide +kernel
theorem dX6_layWays_41 : decode cX6_layWays 41 = .ok (.iload_n 2, 1) := by decide +kernel
theorem dX6_layWays_42 : decode cX6_layWays 42 = .ok (.bipush 63, 2) := by decide +kernel
theorem dX6_layWays_44 : decode cX6_layWays 44 = .ok (.if_icmp .gt 73, 3) := by decide +kernel
theorem dX6_layWays_47 : decode cX6_layWays 47 = .ok (.iconst 0, 1) := by decide +kernel
theorem dX6_layWays_48 : decode cX6_layWays 48 = .ok (.istore_n 3, 1) := by decide +kernel
theorem dX6_layWays_49 : decode cX6_layWays 49 = .ok (.iload_n 3, 1) := by decide +kernel
theorem dX6_layWays_50 : decode cX6_layWays 50 = .ok (.bipush 6, 2) := by decide +kernel
theorem dX6_layWays_52 : decode cX6_layWays 52 = .ok (.if_icmp .ge 59, 3) := by decide +kernel
theorem dX6_layWays_55 : decode cX6_layWays 55 = .ok (.aload_n 0, 1) := by decide +kernel
theorem dX6_layWays_56 : decode cX6_layWays 56 = .ok (.getfield 38, 3) := by decide +kernel
theorem dX6_layWays_59 : decode cX6_layWays 59 = .ok (.iload_n 2, 1) := by decide +kernel
theorem dX6_layWays_60 : decode cX6_layWays 60 = .ok (.iconst 1, 1) := by decide +kernel
theorem dX6_layWays_61 : decode cX6_layWays 61 = .ok (.iload_n 3, 1) := by decide +kernel
theorem dX6_layWays_62 : decode cX6_layWays 62 = .ok (.ishl, 1) := by decide +kernel
theorem dX6_layWays_63 : decode cX6_layWays 63 = .ok (.ixor, 1) := by decide +kernel
theorem dX6_layWays_64 : decode cX6_layWays 64 = .ok (.iaload, 1) := by decide +kernel
theorem dX6_layWays_65 : decode cX6_layWays 65 = .ok (.iconst 1, 1) := by decide +kernel
theorem dX6_layWays_66 : decode cX6_layWays 66 = .ok (.iadd, 1) := by decide +kernel
theorem dX6_layWays_67 : decode cX6_layWays 67 = .ok (.aload_n 0, 1) := by decide +kernel
theorem dX6_layWays_68 : decode cX6_layWays 68 = .ok (.getfield 38, 3) := by decide +kernel
theorem dX6_layWays_71 : decode cX6_layWays 71 = .ok (.iload_n 2, 1) := by decide +kernel
theorem dX6_layWays_72 : decode cX6_layWays 72 = .ok (.iaload, 1) := by decide +kernel
theorem dX6_layWays_73 : decode cX6_layWays 73 = .ok (.if_icmp .ge 32, 3) := by decide +kernel
theorem dX6_layWays_76 : decode cX6_layWays 76 = .ok (.aload_n 0, 1) := by decide +kernel
theorem dX6_layWays_77 : decode cX6_layWays 77 = .ok (.iload_n 2, 1) := by decide +kernel
theorem dX6_layWays_78 : decode cX6_layWays 78 = .ok (.iload_n 3, 1) := by decide +kernel
theorem dX6_layWays_79 : decode cX6_layWays 79 = .ok (.invokevirtual 110, 3) := by decide +kernel
theorem dX6_layWays_82 : decode cX6_layWays 82 = .ok (.ifCond .eq 23, 3) := by decide +kernel
theorem dX6_layWays_85 : decode cX6_layWays 85 = .ok (.aload_n 0, 1) := by decide +kernel
theorem dX6_layWays_86 : decode cX6_layWays 86 = .ok (.getfield 38, 3) := by decide +kernel
theorem dX6_layWays_89 : decode cX6_layWays 89 = .ok (.iload_n 2, 1) := by decide +kernel
theorem dX6_layWays_90 : decode cX6_layWays 90 = .ok (.aload_n 0, 1) := by decide +kernel
theorem dX6_layWays_91 : decode cX6_layWays 91 = .ok (.getfield 38, 3) := by decide +kernel
theorem dX6_layWays_94 : decode cX6_layWays 94 = .ok (.iload_n 2, 1) := by decide +kernel
theorem dX6_layWays_95 : decode cX6_layWays 95 = .ok (.iconst 1, 1) := by decide +kernel
theorem dX6_layWays_96 : decode cX6_layWays 96 = .ok (.iload_n 3, 1) := by decide +kernel
theorem dX6_layWays_97 : decode cX6_layWays 97 = .ok (.ishl, 1) := by decide +kernel
theorem dX6_layWays_98 : decode cX6_layWays 98 = .ok (.ixor, 1) := by decide +kernel
theorem dX6_layWays_99 : decode cX6_layWays 99 = .ok (.iaload, 1) := by decide +kernel
theorem dX6_layWays_100 : decode cX6_layWays 100 = .ok (.iconst 1, 1) := by decide +kernel
theorem dX6_layWays_101 : decode cX6_layWays 101 = .ok (.iadd, 1) := by decide +kernel
theorem dX6_layWays_102 : decode cX6_layWays 102 = .ok (.iastore, 1) := by decide +kernel
theorem dX6_layWays_103 : decode cX6_layWays 103 = .ok (.iconst 1, 1) := by decide +kernel
theorem dX6_layWays_104 : decode cX6_layWays 104 = .ok (.istore_n 1, 1) := by decide +kernel
theorem dX6_layWays_105 : decode cX6_layWays 105 = .ok (.iinc 3 1, 3) := by decide +kernel
theorem dX6_layWays_108 : decode cX6_layWays 108 = .ok (.goto (-59), 3) := by decide +kernel
theorem dX6_layWays_111 : decode cX6_layWays 111 = .ok (.iinc 2 1, 3) := by decide +kernel
theorem dX6_layWays_114 : decode cX6_layWays 114 = .ok (.goto (-73), 3) := by decide +kernel
theorem dX6_layWays_117 : decode cX6_layWays 117 = .ok (.goto (-84), 3) := by decide +kernel
theorem dX6_layWays_120 : decode cX6_layWays 120 = .ok (.return_, 1) := by decide +kernel
set_option maxRecDepth 20000 in
theorem ggX6_home_X6_in : GoodIn wsX6_home wsX6_in := goodIn_r _ [5] (by decide +kernel) (by decide +kernel)
set_option maxRecDepth 20000 in
theorem gX6_home_X6_in : GoodIn wsX6_home (va_wsS RX6 41 yX6_in wsX6_in) := goodIn_app (goodIn_of _ (by decide +kernel)) ggX6_home_X6_in
set_option maxRecDepth 20000 in
theorem ggX6_home_X6_layWays : GoodIn wsX6_home wsX6_layWays := goodIn_r _ [9, 1, 10, 11, 12, 4, 13, 14, 15, 16, 17, 18, 19, 20, 21, 22, 23, 24, 25, 26, 27, 28, 29, 30, 31, 32, 33, 34, 35] (by decide +kernel) (by decide +kernel)
set_option maxRecDepth 20000 in
theorem gX6_home_X6_layWays : GoodIn wsX6_home (wsV RX6 113 RX6 yX6_layWays wsX6_layWays) := goodIn_app (goodIn_of _ (by decide +kernel)) ggX6_home_X6_layWays
theorem dX6_home_0 : decode cX6_home 0 = .ok (.iload_n 1, 1) := by decide +kernel
theorem dX6_home_1 : decode cX6_home 1 = .ok (.iconst 0, 1) := by decide +kernel
theorem dX6_home_2 : decode cX6_home 2 = .ok (.bipush 63, 2) := by decide +kernel
theorem dX6_home_4 : decode cX6_home 4 = .ok (.invokestatic 41, 3) := by decide +kernel
theorem dX6_home_7 : decode cX6_home 7 = .ok (.ifCond .ne 6, 3) := by decide +kernel
theorem dX6_home_10 : decode cX6_home 10 = .ok (.bipush (-2), 2) := by decide +kernel
theorem dX6_home_12 : decode cX6_home 12 = .ok (.ireturn, 1) := by decide +kernel
theorem dX6_home_13 : decode cX6_home 13 = .ok (.aload_n 0, 1) := by decide +kernel
theorem dX6_home_14 : decode cX6_home 14 = .ok (.invokevirtual 113, 3) := by decide +kernel
theorem dX6_home_17 : decode cX6_home 17 = .ok (.aload_n 0, 1) := by decide +kernel
theorem dX6_home_18 : decode cX6_home 18 = .ok (.getfield 38, 3) := by decide +kernel
theorem dX6_home_21 : decode cX6_home 21 = .ok (.iload_n 1, 1) := by decide +kernel
theorem dX6_home_22 : decode cX6_home 22 = .ok (.iaload, 1) := by decide +kernel
theorem dX6_home_23 : decode cX6_home 23 = .ok (.sipush 1000, 3) := by decide +kernel
theorem dX6_home_26 : decode cX6_home 26 = .ok (.if_icmp .ne 7, 3) := by decide +kernel
theorem dX6_home_29 : decode cX6_home 29 = .ok (.iconst (-1), 1) := by decide +kernel
theorem dX6_home_30 : decode cX6_home 30 = .ok (.goto 9, 3) := by decide +kernel
theorem dX6_home_33 : decode cX6_home 33 = .ok (.aload_n 0, 1) := by decide +kernel
theorem dX6_home_34 : decode cX6_home 34 = .ok (.getfield 38, 3) := by decide +kernel
theorem dX6_home_37 : decode cX6_home 37 = .ok (.iload_n 1, 1) := by decide +kernel
theorem dX6_home_38 : decode cX6_home 38 = .ok (.iaload, 1) := by decide +kernel
theorem dX6_home_39 : decode cX6_home 39 = .ok (.ireturn, 1) := by decide +kernel
set_option maxRecDepth 20000 in
theorem ggX6_way_X6_in : GoodIn wsX6_way wsX6_in := goodIn_r _ [5] (by decide +kernel) (by decide +kernel)
set_option maxRecDepth 20000 in
theorem gX6_way_X6_in : GoodIn wsX6_way (va_wsS RX6 41 yX6_in wsX6_in) := goodIn_app (goodIn_of _ (by decide +kernel)) ggX6_way_X6_in
set_option maxRecDepth 20000 in
theorem ggX6_way_X6_layWays : GoodIn wsX6_way wsX6_layWays := goodIn_r _ [9, 1, 10, 11, 12, 4, 13, 14, 15, 16, 17, 18, 19, 20, 21, 22, 23, 24, 25, 26, 27, 28, 29, 30, 31, 32, 33, 34, 35] (by decide +kernel) (by decide +kernel)
set_option maxRecDepth 20000 in
theorem gX6_way_X6_layWays : GoodIn wsX6_way (wsV RX6 113 RX6 yX6_layWays wsX6_layWays) := goodIn_app (goodIn_of _ (by decide +kernel)) ggX6_way_X6_layWays
set_option maxRecDepth 20000 in
theorem ggX6_way_X6_mayMove : GoodIn wsX6_way wsX6_mayMove := goodIn_r _ [13, 14, 15, 16, 4, 17, 18, 19, 20, 21, 22, 23, 24, 25, 26, 27, 28, 29, 30, 31, 32, 33, 34, 35] (by decide +kernel) (by decide +kernel)
set_option maxRecDepth 20000 in
theorem gX6_way_X6_mayMove : GoodIn wsX6_way (wsV RX6 110 RX6 yX6_mayMove wsX6_mayMove) := goodIn_app (goodIn_of _ (by decide +kernel)) ggX6_way_X6_mayMove
theorem dX6_way_0 : decode cX6_way 0 = .ok (.iload_n 1, 1) := by decide +kernel
theorem dX6_way_1 : decode cX6_way 1 = .ok (.iconst 0, 1) := by decide +kernel
theorem dX6_way_2 : decode cX6_way 2 = .ok (.bipush 63, 2) := by decide +kernel
theorem dX6_way_4 : decode cX6_way 4 = .ok (.invokestatic 41, 3) := by decide +kernel
theorem dX6_way_7 : decode cX6_way 7 = .ok (.ifCond .eq 7, 3) := by decide +kernel
theorem dX6_way_10 : decode cX6_way 10 = .ok (.iload_n 2, 1) := by decide +kernel
theorem dX6_way_11 : decode cX6_way 11 = .ok (.ifCond .ge 6, 3) := by decide +kernel
theorem dX6_way_14 : decode cX6_way 14 = .ok (.bipush (-2), 2) := by decide +kernel
theorem dX6_way_16 : decode cX6_way 16 = .ok (.ireturn, 1) := by decide +kernel
theorem dX6_way_17 : decode cX6_way 17 = .ok (.aload_n 0, 1) := by decide +kernel
theorem dX6_way_18 : decode cX6_way 18 = .ok (.invokevirtual 113, 3) := by decide +kernel
theorem dX6_way_21 : decode cX6_way 21 = .ok (.iload_n 1, 1) := by decide +kernel
theorem dX6_way_22 : decode cX6_way 22 = .ok (.istore_n 3, 1) := by decide +kernel
theorem dX6_way_23 : decode cX6_way 23 = .ok (.iconst (-1), 1) := by decide +kernel
theorem dX6_way_24 : decode cX6_way 24 = .ok (.istore 4, 2) := by decide +kernel
theorem dX6_way_26 : decode cX6_way 26 = .ok (.iconst 0, 1) := by decide +kernel
theorem dX6_way_27 : decode cX6_way 27 = .ok (.istore 5, 2) := by decide +kernel
theorem dX6_way_29 : decode cX6_way 29 = .ok (.iload 5, 2) := by decide +kernel
theorem dX6_way_31 : decode cX6_way 31 = .ok (.iload_n 2, 1) := by decide +kernel
theorem dX6_way_32 : decode cX6_way 32 = .ok (.if_icmp .gt 100, 3) := by decide +kernel
theorem dX6_way_35 : decode cX6_way 35 = .ok (.aload_n 0, 1) := by decide +kernel
theorem dX6_way_36 : decode cX6_way 36 = .ok (.getfield 38, 3) := by decide +kernel
theorem dX6_way_39 : decode cX6_way 39 = .ok (.iload_n 3, 1) := by decide +kernel
theorem dX6_way_40 : decode cX6_way 40 = .ok (.iaload, 1) := by decide +kernel
theorem dX6_way_41 : decode cX6_way 41 = .ok (.ifCond .eq 15, 3) := by decide +kernel
theorem dX6_way_44 : decode cX6_way 44 = .ok (.aload_n 0, 1) := by decide +kernel
theorem dX6_way_45 : decode cX6_way 45 = .ok (.getfield 38, 3) := by decide +kernel
theorem dX6_way_48 : decode cX6_way 48 = .ok (.iload_n 3, 1) := by decide +kernel
theorem dX6_way_49 : decode cX6_way 49 = .ok (.iaload, 1) := by decide +kernel
theorem dX6_way_50 : decode cX6_way 50 = .ok (.sipush 1000, 3) := by decide +kernel
theorem dX6_way_53 : decode cX6_way 53 = .ok (.if_icmp .ne 5, 3) := by decide +kernel
theorem dX6_way_56 : decode cX6_way 56 = .ok (.iconst (-1), 1) := by decide +kernel
theorem dX6_way_57 : decode cX6_way 57 = .ok (.ireturn, 1) := by decide +kernel
theorem dX6_way_58 : decode cX6_way 58 = .ok (.iconst 0, 1) := by decide +kernel
theorem dX6_way_59 : decode cX6_way 59 = .ok (.istore 6, 2) := by decide +kernel
theorem dX6_way_61 : decode cX6_way 61 = .ok (.aload_n 0, 1) := by decide +kernel
theorem dX6_way_62 : decode cX6_way 62 = .ok (.getfield 38, 3) := by decide +kernel
theorem dX6_way_65 : decode cX6_way 65 = .ok (.iload_n 3, 1) := by decide +kernel
theorem dX6_way_66 : decode cX6_way 66 = .ok (.iconst 1, 1) := by decide +kernel
theorem dX6_way_67 : decode cX6_way 67 = .ok (.iload 6, 2) := by decide +kernel
theorem dX6_way_69 : decode cX6_way 69 = .ok (.ishl, 1) := by decide +kernel
theorem dX6_way_70 : decode cX6_way 70 = .ok (.ixor, 1) := by decide +kernel
theorem dX6_way_71 : decode cX6_way 71 = .ok (.iaload, 1) := by decide +kernel
theorem dX6_way_72 : decode cX6_way 72 = .ok (.iconst 1, 1) := by decide +kernel
theorem dX6_way_73 : decode cX6_way 73 = .ok (.iadd, 1) := by decide +kernel
theorem dX6_way_74 : decode cX6_way 74 = .ok (.aload_n 0, 1) := by decide +kernel
theorem dX6_way_75 : decode cX6_way 75 = .ok (.getfield 38, 3) := by decide +kernel
theorem dX6_way_78 : decode cX6_way 78 = .ok (.iload_n 3, 1) := by decide +kernel
theorem dX6_way_79 : decode cX6_way 79 = .ok (.iaload, 1) := by decide +kernel
theorem dX6_way_80 : decode cX6_way 80 = .ok (.if_icmp .ne 13, 3) := by decide +kernel
theorem dX6_way_83 : decode cX6_way 83 = .ok (.aload_n 0, 1) := by decide +kernel
theorem dX6_way_84 : decode cX6_way 84 = .ok (.iload_n 3, 1) := by decide +kernel
theorem dX6_way_85 : decode cX6_way 85 = .ok (.iload 6, 2) := by decide +kernel
theorem dX6_way_87 : decode cX6_way 87 = .ok (.invokevirtual 110, 3) := by decide +kernel
theorem dX6_way_90 : decode cX6_way 90 = .ok (.ifCond .ne 9, 3) := by decide +kernel
theorem dX6_way_93 : decode cX6_way 93 = .ok (.iinc 6 1, 3) := by decide +kernel
theorem dX6_way_96 : decode cX6_way 96 = .ok (.goto (-35), 3) := by decide +kernel
theorem dX6_way_99 : decode cX6_way 99 = .ok (.iload 6, 2) := by decide +kernel
theorem dX6_way_101 : decode cX6_way 101 = .ok (.iload_n 3, 1) := by decide +kernel
theorem dX6_way_102 : decode cX6_way 102 = .ok (.iload 6, 2) := by decide +kernel
theorem dX6_way_104 : decode cX6_way 104 = .ok (.ishr, 1) := by decide +kernel
theorem dX6_way_105 : decode cX6_way 105 = .ok (.iconst 1, 1) := by decide +kernel
theorem dX6_way_106 : decode cX6_way 106 = .ok (.iand, 1) := by decide +kernel
theorem dX6_way_107 : decode cX6_way 107 = .ok (.ifCond .ne 8, 3) := by decide +kernel
theorem dX6_way_110 : decode cX6_way 110 = .ok (.bipush 10, 2) := by decide +kernel
theorem dX6_way_112 : decode cX6_way 112 = .ok (.goto 4, 3) := by decide +kernel
theorem dX6_way_115 : decode cX6_way 115 = .ok (.iconst 0, 1) := by decide +kernel
theorem dX6_way_116 : decode cX6_way 116 = .ok (.iadd, 1) := by decide +kernel
theorem dX6_way_117 : decode cX6_way 117 = .ok (.istore 4, 2) := by decide +kernel
theorem dX6_way_119 : decode cX6_way 119 = .ok (.iload_n 3, 1) := by decide +kernel
theorem dX6_way_120 : decode cX6_way 120 = .ok (.iconst 1, 1) := by decide +kernel
theorem dX6_way_121 : decode cX6_way 121 = .ok (.iload 6, 2) := by decide +kernel
theorem dX6_way_123 : decode cX6_way 123 = .ok (.ishl, 1) := by decide +kernel
theorem dX6_way_124 : decode cX6_way 124 = .ok (.ixor, 1) := by decide +kernel
theorem dX6_way_125 : decode cX6_way 125 = .ok (.istore_n 3, 1) := by decide +kernel
theorem dX6_way_126 : decode cX6_way 126 = .ok (.iinc 5 1, 3) := by decide +kernel
theorem dX6_way_129 : decode cX6_way 129 = .ok (.goto (-100), 3) := by decide +kernel
theorem dX6_way_132 : decode cX6_way 132 = .ok (.iload 4, 2) := by decide +kernel
theorem dX6_way_134 : decode cX6_way 134 = .ok (.ireturn, 1) := by decide +kernel
set_option maxRecDepth 20000 in
theorem ggX6_has_X6_ahead : GoodIn wsX6_has wsX6_ahead := goodIn_r _ [7, 8, 9, 10, 11, 12, 13, 14, 15, 16, 17, 18, 19, 20, 21] (by decide +kernel) (by decide +kernel)
set_option maxRecDepth 20000 in
theorem gX6_has_X6_ahead : GoodIn wsX6_has (wsV RX6 61 RX6 yX6_ahead wsX6_ahead) := goodIn_app (goodIn_of _ (by decide +kernel)) ggX6_has_X6_ahead
theorem dX6_has_0 : decode cX6_has 0 = .ok (.aload_n 0, 1) := by decide +kernel
theorem dX6_has_1 : decode cX6_has 1 = .ok (.iload_n 1, 1) := by decide +kernel
theorem dX6_has_2 : decode cX6_has 2 = .ok (.invokevirtual 61, 3) := by decide +kernel
theorem dX6_has_5 : decode cX6_has 5 = .ok (.istore_n 3, 1) := by decide +kernel
theorem dX6_has_6 : decode cX6_has 6 = .ok (.iload_n 2, 1) := by decide +kernel
theorem dX6_has_7 : decode cX6_has 7 = .ok (.bipush 6, 2) := by decide +kernel
theorem dX6_has_9 : decode cX6_has 9 = .ok (.if_icmp .ge 12, 3) := by decide +kernel
theorem dX6_has_12 : decode cX6_has 12 = .ok (.aload_n 0, 1) := by decide +kernel
theorem dX6_has_13 : decode cX6_has 13 = .ok (.getfield 13, 3) := by decide +kernel
theorem dX6_has_16 : decode cX6_has 16 = .ok (.iload_n 3, 1) := by decide +kernel
theorem dX6_has_17 : decode cX6_has 17 = .ok (.iaload, 1) := by decide +kernel
theorem dX6_has_18 : decode cX6_has 18 = .ok (.goto 9, 3) := by decide +kernel
theorem dX6_has_21 : decode cX6_has 21 = .ok (.aload_n 0, 1) := by decide +kernel
theorem dX6_has_22 : decode cX6_has 22 = .ok (.getfield 7, 3) := by decide +kernel
theorem dX6_has_25 : decode cX6_has 25 = .ok (.iload_n 3, 1) := by decide +kernel
theorem dX6_has_26 : decode cX6_has 26 = .ok (.iaload, 1) := by decide +kernel
theorem dX6_has_27 : decode cX6_has 27 = .ok (.iload_n 2, 1) := by decide +kernel
theorem dX6_has_28 : decode cX6_has 28 = .ok (.bipush 6, 2) := by decide +kernel
theorem dX6_has_30 : decode cX6_has 30 = .ok (.irem, 1) := by decide +kernel
theorem dX6_has_31 : decode cX6_has 31 = .ok (.ishr, 1) := by decide +kernel
theorem dX6_has_32 : decode cX6_has 32 = .ok (.iconst 1, 1) := by decide +kernel
theorem dX6_has_33 : decode cX6_has 33 = .ok (.iand, 1) := by decide +kernel
theorem dX6_has_34 : decode cX6_has 34 = .ok (.iconst 1, 1) := by decide +kernel
theorem dX6_has_35 : decode cX6_has 35 = .ok (.if_icmp .ne 7, 3) := by decide +kernel
theorem dX6_has_38 : decode cX6_has 38 = .ok (.iconst 1, 1) := by decide +kernel
theorem dX6_has_39 : decode cX6_has 39 = .ok (.goto 4, 3) := by decide +kernel
theorem dX6_has_42 : decode cX6_has 42 = .ok (.iconst 0, 1) := by decide +kernel
theorem dX6_has_43 : decode cX6_has 43 = .ok (.ireturn, 1) := by decide +kernel
set_option maxRecDepth 20000 in
theorem ggX6_stopOf_X6_has : GoodIn wsX6_stopOf wsX6_has := goodIn_r _ [6, 7, 8, 9, 10, 11, 5, 12, 1, 13, 14, 15, 16, 17, 18, 19, 20, 21, 22, 23, 24, 25] (by decide +kernel) (by decide +kernel)
set_option maxRecDepth 20000 in
theorem gX6_stopOf_X6_has : GoodIn wsX6_stopOf (wsV RX6 116 RX6 yX6_has wsX6_has) := goodIn_app (goodIn_of _ (by decide +kernel)) ggX6_stopOf_X6_has
theorem dX6_stopOf_0 : decode cX6_stopOf 0 = .ok (.iconst 0, 1) := by decide +kernel
theorem dX6_stopOf_1 : decode cX6_stopOf 1 = .ok (.istore_n 2, 1) := by decide +kernel
theorem dX6_stopOf_2 : decode cX6_stopOf 2 = .ok (.iload_n 2, 1) := by decide +kernel
