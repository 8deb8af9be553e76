theorem dX1_tell_11 : decode cX1_tell 11 = .ok (.getfield 19, 3) := by decide +kernel
theorem dX1_tell_14 : decode cX1_tell 14 = .ok (.iload_n 1, 1) := by decide +kernel
theorem dX1_tell_15 : decode cX1_tell 15 = .ok (.iconst 0, 1) := by decide +kernel
theorem dX1_tell_16 : decode cX1_tell 16 = .ok (.iastore, 1) := by decide +kernel
theorem dX1_tell_17 : decode cX1_tell 17 = .ok (.iinc 1 1, 3) := by decide +kernel
theorem dX1_tell_20 : decode cX1_tell 20 = .ok (.goto (-18), 3) := by decide +kernel
theorem dX1_tell_23 : decode cX1_tell 23 = .ok (.iconst 0, 1) := by decide +kernel
theorem dX1_tell_24 : decode cX1_tell 24 = .ok (.istore_n 1, 1) := by decide +kernel
theorem dX1_tell_25 : decode cX1_tell 25 = .ok (.iload_n 1, 1) := by decide +kernel
theorem dX1_tell_26 : decode cX1_tell 26 = .ok (.aload_n 0, 1) := by decide +kernel
theorem dX1_tell_27 : decode cX1_tell 27 = .ok (.getfield 7, 3) := by decide +kernel
theorem dX1_tell_30 : decode cX1_tell 30 = .ok (.if_icmp .ge 25, 3) := by decide +kernel
theorem dX1_tell_33 : decode cX1_tell 33 = .ok (.aload_n 0, 1) := by decide +kernel
theorem dX1_tell_34 : decode cX1_tell 34 = .ok (.getfield 19, 3) := by decide +kernel
theorem dX1_tell_37 : decode cX1_tell 37 = .ok (.aload_n 0, 1) := by decide +kernel
theorem dX1_tell_38 : decode cX1_tell 38 = .ok (.iload_n 1, 1) := by decide +kernel
theorem dX1_tell_39 : decode cX1_tell 39 = .ok (.iload_n 1, 1) := by decide +kernel
theorem dX1_tell_40 : decode cX1_tell 40 = .ok (.imul, 1) := by decide +kernel
theorem dX1_tell_41 : decode cX1_tell 41 = .ok (.invokevirtual 26, 3) := by decide +kernel
theorem dX1_tell_44 : decode cX1_tell 44 = .ok (.dup2, 1) := by decide +kernel
theorem dX1_tell_45 : decode cX1_tell 45 = .ok (.iaload, 1) := by decide +kernel
theorem dX1_tell_46 : decode cX1_tell 46 = .ok (.iconst 1, 1) := by decide +kernel
theorem dX1_tell_47 : decode cX1_tell 47 = .ok (.iadd, 1) := by decide +kernel
theorem dX1_tell_48 : decode cX1_tell 48 = .ok (.iastore, 1) := by decide +kernel
theorem dX1_tell_49 : decode cX1_tell 49 = .ok (.iinc 1 1, 3) := by decide +kernel
theorem dX1_tell_52 : decode cX1_tell 52 = .ok (.goto (-27), 3) := by decide +kernel
theorem dX1_tell_55 : decode cX1_tell 55 = .ok (.return_, 1) := by decide +kernel
set_option maxRecDepth 20000 in
theorem ggX1_count_X1_tell : GoodIn wsX1_count wsX1_tell := goodIn_r _ [7, 1, 2, 8, 9, 10, 6, 11, 18, 19, 20, 21, 22] (by decide +kernel) (by decide +kernel)
set_option maxRecDepth 20000 in
theorem gX1_count_X1_tell : GoodIn wsX1_count (wsV RX1 30 RX1 yX1_tell wsX1_tell) := goodIn_app (goodIn_of _ (by decide +kernel)) ggX1_count_X1_tell
set_option maxRecDepth 20000 in
theorem ggX1_count_X1_right : GoodIn wsX1_count wsX1_right := goodIn_r _ [15, 16, 17, 8, 9, 10, 6, 11, 1, 18, 19, 20, 21, 22] (by decide +kernel) (by decide +kernel)
set_option maxRecDepth 20000 in
theorem gX1_count_X1_right : GoodIn wsX1_count (wsV RX1 33 RX1 yX1_right wsX1_right) := goodIn_app (goodIn_of _ (by decide +kernel)) ggX1_count_X1_right
theorem dX1_count_0 : decode cX1_count 0 = .ok (.aload_n 0, 1) := by decide +kernel
theorem dX1_count_1 : decode cX1_count 1 = .ok (.invokevirtual 30, 3) := by decide +kernel
theorem dX1_count_4 : decode cX1_count 4 = .ok (.iconst 1, 1) := by decide +kernel
theorem dX1_count_5 : decode cX1_count 5 = .ok (.istore_n 1, 1) := by decide +kernel
theorem dX1_count_6 : decode cX1_count 6 = .ok (.iconst 0, 1) := by decide +kernel
theorem dX1_count_7 : decode cX1_count 7 = .ok (.istore_n 2, 1) := by decide +kernel
theorem dX1_count_8 : decode cX1_count 8 = .ok (.iload_n 2, 1) := by decide +kernel
theorem dX1_count_9 : decode cX1_count 9 = .ok (.aload_n 0, 1) := by decide +kernel
theorem dX1_count_10 : decode cX1_count 10 = .ok (.getfield 7, 3) := by decide +kernel
theorem dX1_count_13 : decode cX1_count 13 = .ok (.if_icmp .ge 22, 3) := by decide +kernel
theorem dX1_count_16 : decode cX1_count 16 = .ok (.iload_n 1, 1) := by decide +kernel
theorem dX1_count_17 : decode cX1_count 17 = .ok (.aload_n 0, 1) := by decide +kernel
theorem dX1_count_18 : decode cX1_count 18 = .ok (.getfield 19, 3) := by decide +kernel
theorem dX1_count_21 : decode cX1_count 21 = .ok (.aload_n 0, 1) := by decide +kernel
theorem dX1_count_22 : decode cX1_count 22 = .ok (.iload_n 2, 1) := by decide +kernel
theorem dX1_count_23 : decode cX1_count 23 = .ok (.invokevirtual 33, 3) := by decide +kernel
theorem dX1_count_26 : decode cX1_count 26 = .ok (.iaload, 1) := by decide +kernel
theorem dX1_count_27 : decode cX1_count 27 = .ok (.iadd, 1) := by decide +kernel
theorem dX1_count_28 : decode cX1_count 28 = .ok (.istore_n 1, 1) := by decide +kernel
theorem dX1_count_29 : decode cX1_count 29 = .ok (.iinc 2 1, 3) := by decide +kernel
theorem dX1_count_32 : decode cX1_count 32 = .ok (.goto (-24), 3) := by decide +kernel
theorem dX1_count_35 : decode cX1_count 35 = .ok (.iload_n 1, 1) := by decide +kernel
theorem dX1_count_36 : decode cX1_count 36 = .ok (.ireturn, 1) := by decide +kernel
set_option maxRecDepth 20000 in
theorem ggX1_trace_X1_count : GoodIn wsX1_trace wsX1_count := goodIn_r _ [6, 1, 7, 8, 9, 10, 5, 11, 12, 13, 14, 15, 16, 17, 18, 19, 20, 21, 22, 23, 24, 25, 26] (by decide +kernel) (by decide +kernel)
set_option maxRecDepth 20000 in
theorem gX1_trace_X1_count : GoodIn wsX1_trace (wsV RX1 36 RX1 yX1_count wsX1_count) := goodIn_app (goodIn_of _ (by decide +kernel)) ggX1_trace_X1_count
theorem dX1_trace_0 : decode cX1_trace 0 = .ok (.iload_n 1, 1) := by decide +kernel
theorem dX1_trace_1 : decode cX1_trace 1 = .ok (.iconst 2, 1) := by decide +kernel
theorem dX1_trace_2 : decode cX1_trace 2 = .ok (.if_icmp .lt 10, 3) := by decide +kernel
theorem dX1_trace_5 : decode cX1_trace 5 = .ok (.iload_n 1, 1) := by decide +kernel
theorem dX1_trace_6 : decode cX1_trace 6 = .ok (.sipush 1000, 3) := by decide +kernel
theorem dX1_trace_9 : decode cX1_trace 9 = .ok (.if_icmp .le 5, 3) := by decide +kernel
theorem dX1_trace_12 : decode cX1_trace 12 = .ok (.iconst (-1), 1) := by decide +kernel
theorem dX1_trace_13 : decode cX1_trace 13 = .ok (.ireturn, 1) := by decide +kernel
theorem dX1_trace_14 : decode cX1_trace 14 = .ok (.aload_n 0, 1) := by decide +kernel
theorem dX1_trace_15 : decode cX1_trace 15 = .ok (.getfield 7, 3) := by decide +kernel
theorem dX1_trace_18 : decode cX1_trace 18 = .ok (.iconst 1, 1) := by decide +kernel
theorem dX1_trace_19 : decode cX1_trace 19 = .ok (.iadd, 1) := by decide +kernel
theorem dX1_trace_20 : decode cX1_trace 20 = .ok (.aload_n 0, 1) := by decide +kernel
theorem dX1_trace_21 : decode cX1_trace 21 = .ok (.invokevirtual 36, 3) := by decide +kernel
theorem dX1_trace_24 : decode cX1_trace 24 = .ok (.isub, 1) := by decide +kernel
theorem dX1_trace_25 : decode cX1_trace 25 = .ok (.iload_n 1, 1) := by decide +kernel
theorem dX1_trace_26 : decode cX1_trace 26 = .ok (.irem, 1) := by decide +kernel
theorem dX1_trace_27 : decode cX1_trace 27 = .ok (.istore_n 2, 1) := by decide +kernel
theorem dX1_trace_28 : decode cX1_trace 28 = .ok (.iload_n 2, 1) := by decide +kernel
theorem dX1_trace_29 : decode cX1_trace 29 = .ok (.ifCond .ge 9, 3) := by decide +kernel
theorem dX1_trace_32 : decode cX1_trace 32 = .ok (.iload_n 2, 1) := by decide +kernel
theorem dX1_trace_33 : decode cX1_trace 33 = .ok (.iload_n 1, 1) := by decide +kernel
theorem dX1_trace_34 : decode cX1_trace 34 = .ok (.iadd, 1) := by decide +kernel
theorem dX1_trace_35 : decode cX1_trace 35 = .ok (.goto 4, 3) := by decide +kernel
theorem dX1_trace_38 : decode cX1_trace 38 = .ok (.iload_n 2, 1) := by decide +kernel
theorem dX1_trace_39 : decode cX1_trace 39 = .ok (.ireturn, 1) := by decide +kernel
set_option maxRecDepth 20000 in
theorem ggX1_roots_X1_mod : GoodIn wsX1_roots wsX1_mod := goodIn_r _ [6, 1, 13, 14, 15, 16, 17] (by decide +kernel) (by decide +kernel)
set_option maxRecDepth 20000 in
theorem gX1_roots_X1_mod : GoodIn wsX1_roots (wsV RX1 26 RX1 yX1_mod wsX1_mod) := goodIn_app (goodIn_of _ (by decide +kernel)) ggX1_roots_X1_mod
set_option maxRecDepth 20000 in
theorem ggX1_roots_X1_right : GoodIn wsX1_roots wsX1_right := goodIn_r _ [10, 11, 12, 2, 3, 4, 5, 6, 1, 13, 14, 15, 16, 17] (by decide +kernel) (by decide +kernel)
set_option maxRecDepth 20000 in
theorem gX1_roots_X1_right : GoodIn wsX1_roots (wsV RX1 33 RX1 yX1_right wsX1_right) := goodIn_app (goodIn_of _ (by decide +kernel)) ggX1_roots_X1_right
theorem dX1_roots_0 : decode cX1_roots 0 = .ok (.iload_n 1, 1) := by decide +kernel
theorem dX1_roots_1 : decode cX1_roots 1 = .ok (.ifCond .lt 11, 3) := by decide +kernel
theorem dX1_roots_4 : decode cX1_roots 4 = .ok (.iload_n 1, 1) := by decide +kernel
theorem dX1_roots_5 : decode cX1_roots 5 = .ok (.aload_n 0, 1) := by decide +kernel
theorem dX1_roots_6 : decode cX1_roots 6 = .ok (.getfield 7, 3) := by decide +kernel
theorem dX1_roots_9 : decode cX1_roots 9 = .ok (.if_icmp .lt 5, 3) := by decide +kernel
theorem dX1_roots_12 : decode cX1_roots 12 = .ok (.iconst (-1), 1) := by decide +kernel
theorem dX1_roots_13 : decode cX1_roots 13 = .ok (.ireturn, 1) := by decide +kernel
theorem dX1_roots_14 : decode cX1_roots 14 = .ok (.iconst 0, 1) := by decide +kernel
theorem dX1_roots_15 : decode cX1_roots 15 = .ok (.istore_n 2, 1) := by decide +kernel
theorem dX1_roots_16 : decode cX1_roots 16 = .ok (.iconst 0, 1) := by decide +kernel
theorem dX1_roots_17 : decode cX1_roots 17 = .ok (.istore_n 3, 1) := by decide +kernel
theorem dX1_roots_18 : decode cX1_roots 18 = .ok (.iload_n 3, 1) := by decide +kernel
theorem dX1_roots_19 : decode cX1_roots 19 = .ok (.aload_n 0, 1) := by decide +kernel
theorem dX1_roots_20 : decode cX1_roots 20 = .ok (.getfield 7, 3) := by decide +kernel
theorem dX1_roots_23 : decode cX1_roots 23 = .ok (.if_icmp .ge 27, 3) := by decide +kernel
theorem dX1_roots_26 : decode cX1_roots 26 = .ok (.aload_n 0, 1) := by decide +kernel
theorem dX1_roots_27 : decode cX1_roots 27 = .ok (.iload_n 3, 1) := by decide +kernel
theorem dX1_roots_28 : decode cX1_roots 28 = .ok (.iload_n 3, 1) := by decide +kernel
theorem dX1_roots_29 : decode cX1_roots 29 = .ok (.imul, 1) := by decide +kernel
theorem dX1_roots_30 : decode cX1_roots 30 = .ok (.invokevirtual 26, 3) := by decide +kernel
theorem dX1_roots_33 : decode cX1_roots 33 = .ok (.aload_n 0, 1) := by decide +kernel
theorem dX1_roots_34 : decode cX1_roots 34 = .ok (.iload_n 1, 1) := by decide +kernel
theorem dX1_roots_35 : decode cX1_roots 35 = .ok (.invokevirtual 33, 3) := by decide +kernel
theorem dX1_roots_38 : decode cX1_roots 38 = .ok (.if_icmp .ne 6, 3) := by decide +kernel
theorem dX1_roots_41 : decode cX1_roots 41 = .ok (.iinc 2 1, 3) := by decide +kernel
theorem dX1_roots_44 : decode cX1_roots 44 = .ok (.iinc 3 1, 3) := by decide +kernel
theorem dX1_roots_47 : decode cX1_roots 47 = .ok (.goto (-29), 3) := by decide +kernel
theorem dX1_roots_50 : decode cX1_roots 50 = .ok (.iload_n 2, 1) := by decide +kernel
theorem dX1_roots_51 : decode cX1_roots 51 = .ok (.ireturn, 1) := by decide +kernel
set_option maxRecDepth 20000 in
theorem ggX1_point_X1_tell : GoodIn wsX1_point wsX1_tell := goodIn_r _ [7, 1, 2, 8, 9, 10, 6, 11, 18, 19, 20, 21, 22] (by decide +kernel) (by decide +kernel)
set_option maxRecDepth 20000 in
theorem gX1_point_X1_tell : GoodIn wsX1_point (wsV RX1 30 RX1 yX1_tell wsX1_tell) := goodIn_app (goodIn_of _ (by decide +kernel)) ggX1_point_X1_tell
set_option maxRecDepth 20000 in
theorem ggX1_point_X1_right : GoodIn wsX1_point wsX1_right := goodIn_r _ [15, 16, 17, 8, 9, 10, 6, 11, 1, 18, 19, 20, 21, 22] (by decide +kernel) (by decide +kernel)
set_option maxRecDepth 20000 in
theorem gX1_point_X1_right : GoodIn wsX1_point (wsV RX1 33 RX1 yX1_right wsX1_right) := goodIn_app (goodIn_of _ (by decide +kernel)) ggX1_point_X1_right
set_option maxRecDepth 20000 in
theorem ggX1_point_X1_mod : GoodIn wsX1_point wsX1_mod := goodIn_r _ [11, 1, 18, 19, 20, 21, 22] (by decide +kernel) (by decide +kernel)
set_option maxRecDepth 20000 in
theorem gX1_point_X1_mod : GoodIn wsX1_point (wsV RX1 26 RX1 yX1_mod wsX1_mod) := goodIn_app (goodIn_of _ (by decide +kernel)) ggX1_point_X1_mod
theorem dX1_point_0 : decode cX1_point 0 = .ok (.iload_n 1, 1) := by decide +kernel
theorem dX1_point_1 : decode cX1_point 1 = .ok (.ifCond .ge 6, 3) := by decide +kernel
theorem dX1_point_4 : decode cX1_point 4 = .ok (.bipush (-2), 2) := by decide +kernel
theorem dX1_point_6 : decode cX1_point 6 = .ok (.ireturn, 1) := by decide +kernel
theorem dX1_point_7 : decode cX1_point 7 = .ok (.aload_n 0, 1) := by decide +kernel
theorem dX1_point_8 : decode cX1_point 8 = .ok (.invokevirtual 30, 3) := by decide +kernel
theorem dX1_point_11 : decode cX1_point 11 = .ok (.iload_n 1, 1) := by decide +kernel
theorem dX1_point_12 : decode cX1_point 12 = .ok (.istore_n 2, 1) := by decide +kernel
theorem dX1_point_13 : decode cX1_point 13 = .ok (.iconst 0, 1) := by decide +kernel
theorem dX1_point_14 : decode cX1_point 14 = .ok (.istore_n 3, 1) := by decide +kernel
theorem dX1_point_15 : decode cX1_point 15 = .ok (.iload_n 3, 1) := by decide +kernel
theorem dX1_point_16 : decode cX1_point 16 = .ok (.aload_n 0, 1) := by decide +kernel
theorem dX1_point_17 : decode cX1_point 17 = .ok (.getfield 7, 3) := by decide +kernel
theorem dX1_point_20 : decode cX1_point 20 = .ok (.if_icmp .ge 91, 3) := by decide +kernel
theorem dX1_point_23 : decode cX1_point 23 = .ok (.aload_n 0, 1) := by decide +kernel
theorem dX1_point_24 : decode cX1_point 24 = .ok (.iload_n 3, 1) := by decide +kernel
theorem dX1_point_25 : decode cX1_point 25 = .ok (.invokevirtual 33, 3) := by decide +kernel
theorem dX1_point_28 : decode cX1_point 28 = .ok (.istore 4, 2) := by decide +kernel
theorem dX1_point_30 : decode cX1_point 30 = .ok (.iload_n 2, 1) := by decide +kernel
theorem dX1_point_31 : decode cX1_point 31 = .ok (.aload_n 0, 1) := by decide +kernel
theorem dX1_point_32 : decode cX1_point 32 = .ok (.getfield 19, 3) := by decide +kernel
theorem dX1_point_35 : decode cX1_point 35 = .ok (.iload 4, 2) := by decide +kernel
theorem dX1_point_37 : decode cX1_point 37 = .ok (.iaload, 1) := by decide +kernel
theorem dX1_point_38 : decode cX1_point 38 = .ok (.if_icmp .lt 16, 3) := by decide +kernel
theorem dX1_point_41 : decode cX1_point 41 = .ok (.iload_n 2, 1) := by decide +kernel
theorem dX1_point_42 : decode cX1_point 42 = .ok (.aload_n 0, 1) := by decide +kernel
theorem dX1_point_43 : decode cX1_point 43 = .ok (.getfield 19, 3) := by decide +kernel
theorem dX1_point_46 : decode cX1_point 46 = .ok (.iload 4, 2) := by decide +kernel
theorem dX1_point_48 : decode cX1_point 48 = .ok (.iaload, 1) := by decide +kernel
theorem dX1_point_49 : decode cX1_point 49 = .ok (.isub, 1) := by decide +kernel
theorem dX1_point_50 : decode cX1_point 50 = .ok (.istore_n 2, 1) := by decide +kernel
theorem dX1_point_51 : decode cX1_point 51 = .ok (.goto 54, 3) := by decide +kernel
theorem dX1_point_54 : decode cX1_point 54 = .ok (.iconst 0, 1) := by decide +kernel
theorem dX1_point_55 : decode cX1_point 55 = .ok (.istore 5, 2) := by decide +kernel
theorem dX1_point_57 : decode cX1_point 57 = .ok (.iload 5, 2) := by decide +kernel
theorem dX1_point_59 : decode cX1_point 59 = .ok (.aload_n 0, 1) := by decide +kernel
theorem dX1_point_60 : decode cX1_point 60 = .ok (.getfield 7, 3) := by decide +kernel
theorem dX1_point_63 : decode cX1_point 63 = .ok (.if_icmp .ge 42, 3) := by decide +kernel
theorem dX1_point_66 : decode cX1_point 66 = .ok (.aload_n 0, 1) := by decide +kernel
theorem dX1_point_67 : decode cX1_point 67 = .ok (.iload 5, 2) := by decide +kernel
theorem dX1_point_69 : decode cX1_point 69 = .ok (.iload 5, 2) := by decide +kernel
theorem dX1_point_71 : decode cX1_point 71 = .ok (.imul, 1) := by decide +kernel
theorem dX1_point_72 : decode cX1_point 72 = .ok (.invokevirtual 26, 3) := by decide +kernel
theorem dX1_point_75 : decode cX1_point 75 = .ok (.iload 4, 2) := by decide +kernel
theorem dX1_point_77 : decode cX1_point 77 = .ok (.if_icmp .eq 6, 3) := by decide +kernel
theorem dX1_point_80 : decode cX1_point 80 = .ok (.goto 19, 3) := by decide +kernel
theorem dX1_point_83 : decode cX1_point 83 = .ok (.iload_n 2, 1) := by decide +kernel
theorem dX1_point_84 : decode cX1_point 84 = .ok (.ifCond .ne 12, 3) := by decide +kernel
theorem dX1_point_87 : decode cX1_point 87 = .ok (.sipush 4096, 3) := by decide +kernel
theorem dX1_point_90 : decode cX1_point 90 = .ok (.iload_n 3, 1) := by decide +kernel
theorem dX1_point_91 : decode cX1_point 91 = .ok (.imul, 1) := by decide +kernel
theorem dX1_point_92 : decode cX1_point 92 = .ok (.iload 5, 2) := by decide +kernel
theorem dX1_point_94 : decode cX1_point 94 = .ok (.iadd, 1) := by decide +kernel
theorem dX1_point_95 : decode cX1_point 95 = .ok (.ireturn, 1) := by decide +kernel
theorem dX1_point_96 : decode cX1_point 96 = .ok (.iinc 2 (-1), 3) := by decide +kernel
theorem dX1_point_99 : decode cX1_point 99 = .ok (.iinc 5 1, 3) := by decide +kernel
theorem dX1_point_102 : decode cX1_point 102 = .ok (.goto (-45), 3) := by decide +kernel
theorem dX1_point_105 : decode cX1_point 105 = .ok (.iinc 3 1, 3) := by decide +kernel
theorem dX1_point_108 : decode cX1_point 108 = .ok (.goto (-93), 3) := by decide +kernel
theorem dX1_point_111 : decode cX1_point 111 = .ok (.iload_n 2, 1) := by decide +kernel
theorem dX1_point_112 : decode cX1_point 112 = .ok (.ifCond .ne 7, 3) := by decide +kernel
theorem dX1_point_115 : decode cX1_point 115 = .ok (.iconst (-1), 1) := by decide +kernel
theorem dX1_point_116 : decode cX1_point 116 = .ok (.goto 5, 3) := by decide +kernel
theorem dX1_point_119 : decode cX1_point 119 = .ok (.bipush (-2), 2) := by decide +kernel
theorem dX1_point_121 : decode cX1_point 121 = .ok (.ireturn, 1) := by decide +kernel
set_option maxRecDepth 20000 in
theorem ggX1_on_X1_mod : GoodIn wsX1_on wsX1_mod := goodIn_r _ [6, 1, 13, 14, 15, 16, 17] (by decide +kernel) (by decide +kernel)
set_option maxRecDepth 20000 in
theorem gX1_on_X1_mod : GoodIn wsX1_on (wsV RX1 26 RX1 yX1_mod wsX1_mod) := goodIn_app (goodIn_of _ (by decide +kernel)) ggX1_on_X1_mod
set_option maxRecDepth 20000 in
theorem ggX1_on_X1_right : GoodIn wsX1_on wsX1_right := goodIn_r _ [10, 11, 12, 2, 3, 4, 5, 6, 1, 13, 14, 15, 16, 17] (by decide +kernel) (by decide +kernel)
set_option maxRecDepth 20000 in
theorem gX1_on_X1_right : GoodIn wsX1_on (wsV RX1 33 RX1 yX1_right wsX1_right) := goodIn_app (goodIn_of _ (by decide +kernel)) ggX1_on_X1_right
theorem dX1_on_0 : decode cX1_on 0 = .ok (.iload_n 1, 1) := by decide +kernel
theorem dX1_on_1 : decode cX1_on 1 = .ok (.ifCond .ge 14, 3) := by decide +kernel
theorem dX1_on_4 : decode cX1_on 4 = .ok (.iload_n 1, 1) := by decide +kernel
theorem dX1_on_5 : decode cX1_on 5 = .ok (.iconst (-1), 1) := by decide +kernel
theorem dX1_on_6 : decode cX1_on 6 = .ok (.if_icmp .ne 7, 3) := by decide +kernel
theorem dX1_on_9 : decode cX1_on 9 = .ok (.iconst 1, 1) := by decide +kernel
theorem dX1_on_10 : decode cX1_on 10 = .ok (.goto 4, 3) := by decide +kernel
theorem dX1_on_13 : decode cX1_on 13 = .ok (.iconst 0, 1) := by decide +kernel
theorem dX1_on_14 : decode cX1_on 14 = .ok (.ireturn, 1) := by decide +kernel
theorem dX1_on_15 : decode cX1_on 15 = .ok (.iload_n 1, 1) := by decide +kernel
theorem dX1_on_16 : decode cX1_on 16 = .ok (.sipush 4096, 3) := by decide +kernel
theorem dX1_on_19 : decode cX1_on 19 = .ok (.idiv, 1) := by decide +kernel
theorem dX1_on_20 : decode cX1_on 20 = .ok (.istore_n 2, 1) := by decide +kernel
theorem dX1_on_21 : decode cX1_on 21 = .ok (.iload_n 1, 1) := by decide +kernel
theorem dX1_on_22 : decode cX1_on 22 = .ok (.sipush 4096, 3) := by decide +kernel
theorem dX1_on_25 : decode cX1_on 25 = .ok (.irem, 1) := by decide +kernel
theorem dX1_on_26 : decode cX1_on 26 = .ok (.istore_n 3, 1) := by decide +kernel
theorem dX1_on_27 : decode cX1_on 27 = .ok (.iload_n 2, 1) := by decide +kernel
theorem dX1_on_28 : decode cX1_on 28 = .ok (.aload_n 0, 1) := by decide +kernel
theorem dX1_on_29 : decode cX1_on 29 = .ok (.getfield 7, 3) := by decide +kernel
theorem dX1_on_32 : decode cX1_on 32 = .ok (.if_icmp .ge 30, 3) := by decide +kernel
theorem dX1_on_35 : decode cX1_on 35 = .ok (.iload_n 3, 1) := by decide +kernel
theorem dX1_on_36 : decode cX1_on 36 = .ok (.aload_n 0, 1) := by decide +kernel
theorem dX1_on_37 : decode cX1_on 37 = .ok (.getfield 7, 3) := by decide +kernel
theorem dX1_on_40 : decode cX1_on 40 = .ok (.if_icmp .ge 22, 3) := by decide +kernel
theorem dX1_on_43 : decode cX1_on 43 = .ok (.aload_n 0, 1) := by decide +kernel
theorem dX1_on_44 : decode cX1_on 44 = .ok (.iload_n 3, 1) := by decide +kernel
theorem dX1_on_45 : decode cX1_on 45 = .ok (.iload_n 3, 1) := by decide +kernel
theorem dX1_on_46 : decode cX1_on 46 = .ok (.imul, 1) := by decide +kernel
theorem dX1_on_47 : decode cX1_on 47 = .ok (.invokevirtual 26, 3) := by decide +kernel
theorem dX1_on_50 : decode cX1_on 50 = .ok (.aload_n 0, 1) := by decide +kernel
theorem dX1_on_51 : decode cX1_on 51 = .ok (.iload_n 2, 1) := by decide +kernel
theorem dX1_on_52 : decode cX1_on 52 = .ok (.invokevirtual 33, 3) := by decide +kernel
theorem dX1_on_55 : decode cX1_on 55 = .ok (.if_icmp .ne 7, 3) := by decide +kernel
theorem dX1_on_58 : decode cX1_on 58 = .ok (.iconst 1, 1) := by decide +kernel
theorem dX1_on_59 : decode cX1_on 59 = .ok (.goto 4, 3) := by decide +kernel
theorem dX1_on_62 : decode cX1_on 62 = .ok (.iconst 0, 1) := by decide +kernel
theorem dX1_on_63 : decode cX1_on 63 = .ok (.ireturn, 1) := by decide +kernel
set_option maxRecDepth 20000 in
theorem ggX1_over_X1_mod : GoodIn wsX1_over wsX1_mod := goodIn_r _ [6, 1, 7, 8, 9, 10, 11] (by decide +kernel) (by decide +kernel)
set_option maxRecDepth 20000 in
theorem gX1_over_X1_mod : GoodIn wsX1_over (wsV RX1 26 RX1 yX1_mod wsX1_mod) := goodIn_app (goodIn_of _ (by decide +kernel)) ggX1_over_X1_mod
theorem dX1_over_0 : decode cX1_over 0 = .ok (.iload_n 1, 1) := by decide +kernel
theorem dX1_over_1 : decode cX1_over 1 = .ok (.istore_n 3, 1) := by decide +kernel
theorem dX1_over_2 : decode cX1_over 2 = .ok (.aload_n 0, 1) := by decide +kernel
theorem dX1_over_3 : decode cX1_over 3 = .ok (.getfield 7, 3) := by decide +kernel
theorem dX1_over_6 : decode cX1_over 6 = .ok (.iconst 2, 1) := by decide +kernel
theorem dX1_over_7 : decode cX1_over 7 = .ok (.isub, 1) := by decide +kernel
theorem dX1_over_8 : decode cX1_over 8 = .ok (.istore 4, 2) := by decide +kernel
theorem dX1_over_10 : decode cX1_over 10 = .ok (.iload_n 2, 1) := by decide +kernel
theorem dX1_over_11 : decode cX1_over 11 = .ok (.istore 5, 2) := by decide +kernel
theorem dX1_over_13 : decode cX1_over 13 = .ok (.iload 4, 2) := by decide +kernel
theorem dX1_over_15 : decode cX1_over 15 = .ok (.ifCond .le 40, 3) := by decide +kernel
theorem dX1_over_18 : decode cX1_over 18 = .ok (.iload 4, 2) := by decide +kernel
theorem dX1_over_20 : decode cX1_over 20 = .ok (.iconst 2, 1) := by decide +kernel
theorem dX1_over_21 : decode cX1_over 21 = .ok (.irem, 1) := by decide +kernel
theorem dX1_over_22 : decode cX1_over 22 = .ok (.iconst 1, 1) := by decide +kernel
theorem dX1_over_23 : decode cX1_over 23 = .ok (.if_icmp .ne 12, 3) := by decide +kernel
theorem dX1_over_26 : decode cX1_over 26 = .ok (.aload_n 0, 1) := by decide +kernel
theorem dX1_over_27 : decode cX1_over 27 = .ok (.iload_n 3, 1) := by decide +kernel
theorem dX1_over_28 : decode cX1_over 28 = .ok (.iload 5, 2) := by decide +kernel
theorem dX1_over_30 : decode cX1_over 30 = .ok (.imul, 1) := by decide +kernel
theorem dX1_over_31 : decode cX1_over 31 = .ok (.invokevirtual 26, 3) := by decide +kernel
theorem dX1_over_34 : decode cX1_over 34 = .ok (.istore_n 3, 1) := by decide +kernel
theorem dX1_over_35 : decode cX1_over 35 = .ok (.aload_n 0, 1) := by decide +kernel
theorem dX1_over_36 : decode cX1_over 36 = .ok (.iload 5, 2) := by decide +kernel
theorem dX1_over_38 : decode cX1_over 38 = .ok (.iload 5, 2) := by decide +kernel
theorem dX1_over_40 : decode cX1_over 40 = .ok (.imul, 1) := by decide +kernel
theorem dX1_over_41 : decode cX1_over 41 = .ok (.invokevirtual 26, 3) := by decide +kernel
theorem dX1_over_44 : decode cX1_over 44 = .ok (.istore 5, 2) := by decide +kernel
theorem dX1_over_46 : decode cX1_over 46 = .ok (.iload 4, 2) := by decide +kernel
theorem dX1_over_48 : decode cX1_over 48 = .ok (.iconst 2, 1) := by decide +kernel
theorem dX1_over_49 : decode cX1_over 49 = .ok (.idiv, 1) := by decide +kernel
theorem dX1_over_50 : decode cX1_over 50 = .ok (.istore 4, 2) := by decide +kernel
theorem dX1_over_52 : decode cX1_over 52 = .ok (.goto (-39), 3) := by decide +kernel
theorem dX1_over_55 : decode cX1_over 55 = .ok (.iload_n 3, 1) := by decide +kernel
theorem dX1_over_56 : decode cX1_over 56 = .ok (.ireturn, 1) := by decide +kernel
set_option maxRecDepth 20000 in
theorem ggX1_sum_X1_mod : GoodIn wsX1_sum wsX1_mod := goodIn_r _ [6, 7, 12, 13, 14, 15, 16] (by decide +kernel) (by decide +kernel)
set_option maxRecDepth 20000 in
theorem gX1_sum_X1_mod : GoodIn wsX1_sum (wsV RX1 26 RX1 yX1_mod wsX1_mod) := goodIn_app (goodIn_of _ (by decide +kernel)) ggX1_sum_X1_mod
set_option maxRecDepth 20000 in
theorem ggX1_sum_X1_over : GoodIn wsX1_sum wsX1_over := goodIn_r _ [11, 7, 2, 3, 4, 5, 6, 12, 13, 14, 15, 16] (by decide +kernel) (by decide +kernel)
set_option maxRecDepth 20000 in
theorem gX1_sum_X1_over : GoodIn wsX1_sum (wsV RX1 40 RX1 yX1_over wsX1_over) := goodIn_app (goodIn_of _ (by decide +kernel)) ggX1_sum_X1_over
theorem dX1_sum_0 : decode cX1_sum 0 = .ok (.iload_n 1, 1) := by decide +kernel
theorem dX1_sum_1 : decode cX1_sum 1 = .ok (.iconst (-1), 1) := by decide +kernel
theorem dX1_sum_2 : decode cX1_sum 2 = .ok (.if_icmp .ne 5, 3) := by decide +kernel
theorem dX1_sum_5 : decode cX1_sum 5 = .ok (.iload_n 2, 1) := by decide +kernel
theorem dX1_sum_6 : decode cX1_sum 6 = .ok (.ireturn, 1) := by decide +kernel
theorem dX1_sum_7 : decode cX1_sum 7 = .ok (.iload_n 2, 1) := by decide +kernel
theorem dX1_sum_8 : decode cX1_sum 8 = .ok (.iconst (-1), 1) := by decide +kernel
theorem dX1_sum_9 : decode cX1_sum 9 = .ok (.if_icmp .ne 5, 3) := by decide +kernel
theorem dX1_sum_12 : decode cX1_sum 12 = .ok (.iload_n 1, 1) := by decide +kernel
theorem dX1_sum_13 : decode cX1_sum 13 = .ok (.ireturn, 1) := by decide +kernel
theorem dX1_sum_14 : decode cX1_sum 14 = .ok (.iload_n 1, 1) := by decide +kernel
theorem dX1_sum_15 : decode cX1_sum 15 = .ok (.sipush 4096, 3) := by decide +kernel
theorem dX1_sum_18 : decode cX1_sum 18 = .ok (.idiv, 1) := by decide +kernel
theorem dX1_sum_19 : decode cX1_sum 19 = .ok (.istore_n 3, 1) := by decide +kernel
theorem dX1_sum_20 : decode cX1_sum 20 = .ok (.iload_n 1, 1) := by decide +kernel
theorem dX1_sum_21 : decode cX1_sum 21 = .ok (.sipush 4096, 3) := by decide +kernel
theorem dX1_sum_24 : decode cX1_sum 24 = .ok (.irem, 1) := by decide +kernel
theorem dX1_sum_25 : decode cX1_sum 25 = .ok (.istore 4, 2) := by decide +kernel
theorem dX1_sum_27 : decode cX1_sum 27 = .ok (.iload_n 2, 1) := by decide +kernel
theorem dX1_sum_28 : decode cX1_sum 28 = .ok (.sipush 4096, 3) := by decide +kernel
theorem dX1_sum_31 : decode cX1_sum 31 = .ok (.idiv, 1) := by decide +kernel
theorem dX1_sum_32 : decode cX1_sum 32 = .ok (.istore 5, 2) := by decide +kernel
theorem dX1_sum_34 : decode cX1_sum 34 = .ok (.iload_n 2, 1) := by decide +kernel
theorem dX1_sum_35 : decode cX1_sum 35 = .ok (.sipush 4096, 3) := by decide +kernel
theorem dX1_sum_38 : decode cX1_sum 38 = .ok (.irem, 1) := by decide +kernel
theorem dX1_sum_39 : decode cX1_sum 39 = .ok (.istore 6, 2) := by decide +kernel
theorem dX1_sum_41 : decode cX1_sum 41 = .ok (.iload_n 3, 1) := by decide +kernel
theorem dX1_sum_42 : decode cX1_sum 42 = .ok (.iload 5, 2) := by decide +kernel
theorem dX1_sum_44 : decode cX1_sum 44 = .ok (.if_icmp .ne 17, 3) := by decide +kernel
theorem dX1_sum_47 : decode cX1_sum 47 = .ok (.aload_n 0, 1) := by decide +kernel
theorem dX1_sum_48 : decode cX1_sum 48 = .ok (.iload 4, 2) := by decide +kernel
theorem dX1_sum_50 : decode cX1_sum 50 = .ok (.iload 6, 2) := by decide +kernel
theorem dX1_sum_52 : decode cX1_sum 52 = .ok (.iadd, 1) := by decide +kernel
theorem dX1_sum_53 : decode cX1_sum 53 = .ok (.invokevirtual 26, 3) := by decide +kernel
theorem dX1_sum_56 : decode cX1_sum 56 = .ok (.ifCond .ne 5, 3) := by decide +kernel
theorem dX1_sum_59 : decode cX1_sum 59 = .ok (.iconst (-1), 1) := by decide +kernel
theorem dX1_sum_60 : decode cX1_sum 60 = .ok (.ireturn, 1) := by decide +kernel
theorem dX1_sum_61 : decode cX1_sum 61 = .ok (.iload_n 3, 1) := by decide +kernel
theorem dX1_sum_62 : decode cX1_sum 62 = .ok (.iload 5, 2) := by decide +kernel
theorem dX1_sum_64 : decode cX1_sum 64 = .ok (.if_icmp .ne 36, 3) := by decide +kernel
theorem dX1_sum_67 : decode cX1_sum 67 = .ok (.aload_n 0, 1) := by decide +kernel
theorem dX1_sum_68 : decode cX1_sum 68 = .ok (.aload_n 0, 1) := by decide +kernel
theorem dX1_sum_69 : decode cX1_sum 69 = .ok (.iconst 3, 1) := by decide +kernel
theorem dX1_sum_70 : decode cX1_sum 70 = .ok (.aload_n 0, 1) := by decide +kernel
theorem dX1_sum_71 : decode cX1_sum 71 = .ok (.iload_n 3, 1) := by decide +kernel
theorem dX1_sum_72 : decode cX1_sum 72 = .ok (.iload_n 3, 1) := by decide +kernel
theorem dX1_sum_73 : decode cX1_sum 73 = .ok (.imul, 1) := by decide +kernel
theorem dX1_sum_74 : decode cX1_sum 74 = .ok (.invokevirtual 26, 3) := by decide +kernel
theorem dX1_sum_77 : decode cX1_sum 77 = .ok (.imul, 1) := by decide +kernel
theorem dX1_sum_78 : decode cX1_sum 78 = .ok (.aload_n 0, 1) := by decide +kernel
theorem dX1_sum_79 : decode cX1_sum 79 = .ok (.getfield 13, 3) := by decide +kernel
theorem dX1_sum_82 : decode cX1_sum 82 = .ok (.iadd, 1) := by decide +kernel
theorem dX1_sum_83 : decode cX1_sum 83 = .ok (.invokevirtual 26, 3) := by decide +kernel
theorem dX1_sum_86 : decode cX1_sum 86 = .ok (.aload_n 0, 1) := by decide +kernel
theorem dX1_sum_87 : decode cX1_sum 87 = .ok (.iconst 2, 1) := by decide +kernel
theorem dX1_sum_88 : decode cX1_sum 88 = .ok (.iload 4, 2) := by decide +kernel
theorem dX1_sum_90 : decode cX1_sum 90 = .ok (.imul, 1) := by decide +kernel
theorem dX1_sum_91 : decode cX1_sum 91 = .ok (.invokevirtual 26, 3) := by decide +kernel
theorem dX1_sum_94 : decode cX1_sum 94 = .ok (.invokevirtual 40, 3) := by decide +kernel
theorem dX1_sum_97 : decode cX1_sum 97 = .ok (.goto 24, 3) := by decide +kernel
theorem dX1_sum_100 : decode cX1_sum 100 = .ok (.aload_n 0, 1) := by decide +kernel
theorem dX1_sum_101 : decode cX1_sum 101 = .ok (.aload_n 0, 1) := by decide +kernel
theorem dX1_sum_102 : decode cX1_sum 102 = .ok (.iload 6, 2) := by decide +kernel
theorem dX1_sum_104 : decode cX1_sum 104 = .ok (.iload 4, 2) := by decide +kernel
theorem dX1_sum_106 : decode cX1_sum 106 = .ok (.isub, 1) := by decide +kernel
theorem dX1_sum_107 : decode cX1_sum 107 = .ok (.invokevirtual 26, 3) := by decide +kernel
theorem dX1_sum_110 : decode cX1_sum 110 = .ok (.aload_n 0, 1) := by decide +kernel
theorem dX1_sum_111 : decode cX1_sum 111 = .ok (.iload 5, 2) := by decide +kernel
theorem dX1_sum_113 : decode cX1_sum 113 = .ok (.iload_n 3, 1) := by decide +kernel
theorem dX1_sum_114 : decode cX1_sum 114 = .ok (.isub, 1) := by decide +kernel
theorem dX1_sum_115 : decode cX1_sum 115 = .ok (.invokevirtual 26, 3) := by decide +kernel
theorem dX1_sum_118 : decode cX1_sum 118 = .ok (.invokevirtual 40, 3) := by decide +kernel
theorem dX1_sum_121 : decode cX1_sum 121 = .ok (.istore 7, 2) := by decide +kernel
theorem dX1_sum_123 : decode cX1_sum 123 = .ok (.aload_n 0, 1) := by decide +kernel
theorem dX1_sum_124 : decode cX1_sum 124 = .ok (.iload 7, 2) := by decide +kernel
theorem dX1_sum_126 : decode cX1_sum 126 = .ok (.iload 7, 2) := by decide +kernel
theorem dX1_sum_128 : decode cX1_sum 128 = .ok (.imul, 1) := by decide +kernel
theorem dX1_sum_129 : decode cX1_sum 129 = .ok (.iload_n 3, 1) := by decide +kernel
theorem dX1_sum_130 : decode cX1_sum 130 = .ok (.isub, 1) := by decide +kernel
theorem dX1_sum_131 : decode cX1_sum 131 = .ok (.iload 5, 2) := by decide +kernel
theorem dX1_sum_133 : decode cX1_sum 133 = .ok (.isub, 1) := by decide +kernel
theorem dX1_sum_134 : decode cX1_sum 134 = .ok (.invokevirtual 26, 3) := by decide +kernel
theorem dX1_sum_137 : decode cX1_sum 137 = .ok (.istore 8, 2) := by decide +kernel
theorem dX1_sum_139 : decode cX1_sum 139 = .ok (.aload_n 0, 1) := by decide +kernel
theorem dX1_sum_140 : decode cX1_sum 140 = .ok (.iload 7, 2) := by decide +kernel
theorem dX1_sum_142 : decode cX1_sum 142 = .ok (.aload_n 0, 1) := by decide +kernel
theorem dX1_sum_143 : decode cX1_sum 143 = .ok (.iload_n 3, 1) := by decide +kernel
theorem dX1_sum_144 : decode cX1_sum 144 = .ok (.iload 8, 2) := by decide +kernel
theorem dX1_sum_146 : decode cX1_sum 146 = .ok (.isub, 1) := by decide +kernel
theorem dX1_sum_147 : decode cX1_sum 147 = .ok (.invokevirtual 26, 3) := by decide +kernel
theorem dX1_sum_150 : decode cX1_sum 150 = .ok (.imul, 1) := by decide +kernel
theorem dX1_sum_151 : decode cX1_sum 151 = .ok (.iload 4, 2) := by decide +kernel
theorem dX1_sum_153 : decode cX1_sum 153 = .ok (.isub, 1) := by decide +kernel
theorem dX1_sum_154 : decode cX1_sum 154 = .ok (.invokevirtual 26, 3) := by decide +kernel
theorem dX1_sum_157 : decode cX1_sum 157 = .ok (.istore 9, 2) := by decide +kernel
theorem dX1_sum_159 : decode cX1_sum 159 = .ok (.sipush 4096, 3) := by decide +kernel
theorem dX1_sum_162 : decode cX1_sum 162 = .ok (.iload 8, 2) := by decide +kernel
theorem dX1_sum_164 : decode cX1_sum 164 = .ok (.imul, 1) := by decide +kernel
theorem dX1_sum_165 : decode cX1_sum 165 = .ok (.iload 9, 2) := by decide +kernel
theorem dX1_sum_167 : decode cX1_sum 167 = .ok (.iadd, 1) := by decide +kernel
theorem dX1_sum_168 : decode cX1_sum 168 = .ok (.ireturn, 1) := by decide +kernel
set_option maxRecDepth 20000 in
theorem ggX1_add_X1_on : GoodIn wsX1_add wsX1_on := goodIn_r _ [5, 6, 7, 8, 9, 4, 10, 11, 12, 13, 14, 15, 16, 25, 26, 27, 28, 29] (by decide +kernel) (by decide +kernel)
set_option maxRecDepth 20000 in
theorem gX1_add_X1_on : GoodIn wsX1_add (wsV RX1 44 RX1 yX1_on wsX1_on) := goodIn_app (goodIn_of _ (by decide +kernel)) ggX1_add_X1_on
set_option maxRecDepth 20000 in
theorem ggX1_add_X1_sum : GoodIn wsX1_add wsX1_sum := goodIn_r _ [20, 15, 7, 8, 9, 4, 10, 6, 21, 22, 23, 24, 25, 26, 27, 28, 29] (by decide +kernel) (by decide +kernel)
set_option maxRecDepth 20000 in
theorem gX1_add_X1_sum : GoodIn wsX1_add (wsV RX1 48 RX1 yX1_sum wsX1_sum) := goodIn_app (goodIn_of _ (by decide +kernel)) ggX1_add_X1_sum
theorem dX1_add_0 : decode cX1_add 0 = .ok (.aload_n 0, 1) := by decide +kernel
theorem dX1_add_1 : decode cX1_add 1 = .ok (.iload_n 1, 1) := by decide +kernel
theorem dX1_add_2 : decode cX1_add 2 = .ok (.invokevirtual 44, 3) := by decide +kernel
theorem dX1_add_5 : decode cX1_add 5 = .ok (.ifCond .eq 20, 3) := by decide +kernel
theorem dX1_add_8 : decode cX1_add 8 = .ok (.aload_n 0, 1) := by decide +kernel
theorem dX1_add_9 : decode cX1_add 9 = .ok (.iload_n 2, 1) := by decide +kernel
theorem dX1_add_10 : decode cX1_add 10 = .ok (.invokevirtual 44, 3) := by decide +kernel
theorem dX1_add_13 : decode cX1_add 13 = .ok (.ifCond .eq 12, 3) := by decide +kernel
theorem dX1_add_16 : decode cX1_add 16 = .ok (.aload_n 0, 1) := by decide +kernel
theorem dX1_add_17 : decode cX1_add 17 = .ok (.iload_n 1, 1) := by decide +kernel
theorem dX1_add_18 : decode cX1_add 18 = .ok (.iload_n 2, 1) := by decide +kernel
theorem dX1_add_19 : decode cX1_add 19 = .ok (.invokevirtual 48, 3) := by decide +kernel
theorem dX1_add_22 : decode cX1_add 22 = .ok (.goto 5, 3) := by decide +kernel
theorem dX1_add_25 : decode cX1_add 25 = .ok (.bipush (-2), 2) := by decide +kernel
theorem dX1_add_27 : decode cX1_add 27 = .ok (.ireturn, 1) := by decide +kernel
set_option maxRecDepth 20000 in
theorem ggX1_minus_X1_mod : GoodIn wsX1_minus wsX1_mod := goodIn_r _ [5, 6, 7, 8, 9, 10, 11] (by decide +kernel) (by decide +kernel)
set_option maxRecDepth 20000 in
theorem gX1_minus_X1_mod : GoodIn wsX1_minus (wsV RX1 26 RX1 yX1_mod wsX1_mod) := goodIn_app (goodIn_of _ (by decide +kernel)) ggX1_minus_X1_mod
theorem dX1_minus_0 : decode cX1_minus 0 = .ok (.iload_n 1, 1) := by decide +kernel
theorem dX1_minus_1 : decode cX1_minus 1 = .ok (.iconst (-1), 1) := by decide +kernel
theorem dX1_minus_2 : decode cX1_minus 2 = .ok (.if_icmp .ne 7, 3) := by decide +kernel
theorem dX1_minus_5 : decode cX1_minus 5 = .ok (.iconst (-1), 1) := by decide +kernel
theorem dX1_minus_6 : decode cX1_minus 6 = .ok (.goto 23, 3) := by decide +kernel
theorem dX1_minus_9 : decode cX1_minus 9 = .ok (.iload_n 1, 1) := by decide +kernel
theorem dX1_minus_10 : decode cX1_minus 10 = .ok (.sipush 4096, 3) := by decide +kernel
theorem dX1_minus_13 : decode cX1_minus 13 = .ok (.idiv, 1) := by decide +kernel
theorem dX1_minus_14 : decode cX1_minus 14 = .ok (.sipush 4096, 3) := by decide +kernel
theorem dX1_minus_17 : decode cX1_minus 17 = .ok (.imul, 1) := by decide +kernel
theorem dX1_minus_18 : decode cX1_minus 18 = .ok (.aload_n 0, 1) := by decide +kernel
theorem dX1_minus_19 : decode cX1_minus 19 = .ok (.iload_n 1, 1) := by decide +kernel
theorem dX1_minus_20 : decode cX1_minus 20 = .ok (.sipush 4096, 3) := by decide +kernel
theorem dX1_minus_23 : decode cX1_minus 23 = .ok (.irem, 1) := by decide +kernel
theorem dX1_minus_24 : decode cX1_minus 24 = .ok (.ineg, 1) := by decide +kernel
theorem dX1_minus_25 : decode cX1_minus 25 = .ok (.invokevirtual 26, 3) := by decide +kernel
theorem dX1_minus_28 : decode cX1_minus 28 = .ok (.iadd, 1) := by decide +kernel
theorem dX1_minus_29 : decode cX1_minus 29 = .ok (.ireturn, 1) := by decide +kernel
set_option maxRecDepth 20000 in
theorem ggX1_negative_X1_on : GoodIn wsX1_negative wsX1_on := goodIn_r _ [5, 6, 7, 8, 9, 4, 10, 11, 12, 13, 14, 15, 16, 21, 22, 23, 24, 25] (by decide +kernel) (by decide +kernel)
set_option maxRecDepth 20000 in
theorem gX1_negative_X1_on : GoodIn wsX1_negative (wsV RX1 44 RX1 yX1_on wsX1_on) := goodIn_app (goodIn_of _ (by decide +kernel)) ggX1_negative_X1_on
set_option maxRecDepth 20000 in
theorem ggX1_negative_X1_minus : GoodIn wsX1_negative wsX1_minus := goodIn_r _ [20, 7, 8, 9, 4, 10, 6, 21, 22, 23, 24, 25] (by decide +kernel) (by decide +kernel)
set_option maxRecDepth 20000 in
theorem gX1_negative_X1_minus : GoodIn wsX1_negative (wsV RX1 51 RX1 yX1_minus wsX1_minus) := goodIn_app (goodIn_of _ (by decide +kernel)) ggX1_negative_X1_minus
theorem dX1_negative_0 : decode cX1_negative 0 = .ok (.aload_n 0, 1) := by decide +kernel
theorem dX1_negative_1 : decode cX1_negative 1 = .ok (.iload_n 1, 1) := by decide +kernel
theorem dX1_negative_2 : decode cX1_negative 2 = .ok (.invokevirtual 44, 3) := by decide +kernel
theorem dX1_negative_5 : decode cX1_negative 5 = .ok (.ifCond .eq 11, 3) := by decide +kernel
theorem dX1_negative_8 : decode cX1_negative 8 = .ok (.aload_n 0, 1) := by decide +kernel
theorem dX1_negative_9 : decode cX1_negative 9 = .ok (.iload_n 1, 1) := by decide +kernel
theorem dX1_negative_10 : decode cX1_negative 10 = .ok (.invokevirtual 51, 3) := by decide +kernel
theorem dX1_negative_13 : decode cX1_negative 13 = .ok (.goto 5, 3) := by decide +kernel
theorem dX1_negative_16 : decode cX1_negative 16 = .ok (.bipush (-2), 2) := by decide +kernel
theorem dX1_negative_18 : decode cX1_negative 18 = .ok (.ireturn, 1) := by decide +kernel
set_option maxRecDepth 20000 in
theorem ggX1_order_X1_on : GoodIn wsX1_order wsX1_on := goodIn_r _ [5, 6, 7, 8, 9, 4, 10, 11, 12, 13, 14, 15, 16, 25, 26, 27, 28, 29] (by decide +kernel) (by decide +kernel)
set_option maxRecDepth 20000 in
theorem gX1_order_X1_on : GoodIn wsX1_order (wsV RX1 44 RX1 yX1_on wsX1_on) := goodIn_app (goodIn_of _ (by decide +kernel)) ggX1_order_X1_on
set_option maxRecDepth 20000 in
theorem ggX1_order_X1_sum : GoodIn wsX1_order wsX1_sum := goodIn_r _ [20, 15, 7, 8, 9, 4, 10, 6, 21, 22, 23, 24, 25, 26, 27, 28, 29] (by decide +kernel) (by decide +kernel)
set_option maxRecDepth 20000 in
theorem gX1_order_X1_sum : GoodIn wsX1_order (wsV RX1 48 RX1 yX1_sum wsX1_sum) := goodIn_app (goodIn_of _ (by decide +kernel)) ggX1_order_X1_sum
theorem dX1_order_0 : decode cX1_order 0 = .ok (.aload_n 0, 1) := by decide +kernel
theorem dX1_order_1 : decode cX1_order 1 = .ok (.iload_n 1, 1) := by decide +kernel
theorem dX1_order_2 : decode cX1_order 2 = .ok (.invokevirtual 44, 3) := by decide +kernel
theorem dX1_order_5 : decode cX1_order 5 = .ok (.ifCond .ne 6, 3) := by decide +kernel
theorem dX1_order_8 : decode cX1_order 8 = .ok (.bipush (-2), 2) := by decide +kernel
theorem dX1_order_10 : decode cX1_order 10 = .ok (.ireturn, 1) := by decide +kernel
theorem dX1_order_11 : decode cX1_order 11 = .ok (.iload_n 1, 1) := by decide +kernel
theorem dX1_order_12 : decode cX1_order 12 = .ok (.istore_n 2, 1) := by decide +kernel
theorem dX1_order_13 : decode cX1_order 13 = .ok (.iconst 1, 1) := by decide +kernel
theorem dX1_order_14 : decode cX1_order 14 = .ok (.istore_n 3, 1) := by decide +kernel
theorem dX1_order_15 : decode cX1_order 15 = .ok (.iload_n 2, 1) := by decide +kernel
theorem dX1_order_16 : decode cX1_order 16 = .ok (.iconst (-1), 1) := by decide +kernel
theorem dX1_order_17 : decode cX1_order 17 = .ok (.if_icmp .eq 23, 3) := by decide +kernel
theorem dX1_order_20 : decode cX1_order 20 = .ok (.iload_n 3, 1) := by decide +kernel
theorem dX1_order_21 : decode cX1_order 21 = .ok (.sipush 10000, 3) := by decide +kernel
theorem dX1_order_24 : decode cX1_order 24 = .ok (.if_icmp .ge 16, 3) := by decide +kernel
theorem dX1_order_27 : decode cX1_order 27 = .ok (.aload_n 0, 1) := by decide +kernel
theorem dX1_order_28 : decode cX1_order 28 = .ok (.iload_n 2, 1) := by decide +kernel
theorem dX1_order_29 : decode cX1_order 29 = .ok (.iload_n 1, 1) := by decide +kernel
theorem dX1_order_30 : decode cX1_order 30 = .ok (.invokevirtual 48, 3) := by decide +kernel
theorem dX1_order_33 : decode cX1_order 33 = .ok (.istore_n 2, 1) := by decide +kernel
theorem dX1_order_34 : decode cX1_order 34 = .ok (.iinc 3 1, 3) := by decide +kernel
theorem dX1_order_37 : decode cX1_order 37 = .ok (.goto (-22), 3) := by decide +kernel
theorem dX1_order_40 : decode cX1_order 40 = .ok (.iload_n 3, 1) := by decide +kernel
theorem dX1_order_41 : decode cX1_order 41 = .ok (.ireturn, 1) := by decide +kernel
set_option maxRecDepth 20000 in
theorem ggX1_times_X1_on : GoodIn wsX1_times wsX1_on := goodIn_r _ [5, 6, 7, 8, 9, 4, 10, 11, 12, 13, 14, 15, 16, 33, 34, 35, 36, 37] (by decide +kernel) (by decide +kernel)
set_option maxRecDepth 20000 in
theorem gX1_times_X1_on : GoodIn wsX1_times (wsV RX1 44 RX1 yX1_on wsX1_on) := goodIn_app (goodIn_of _ (by decide +kernel)) ggX1_times_X1_on
set_option maxRecDepth 20000 in
theorem ggX1_times_X1_order : GoodIn wsX1_times wsX1_order := goodIn_r _ [20, 1, 2, 3, 4, 5, 6, 7, 8, 9, 10, 11, 12, 13, 14, 15, 16, 21, 22, 23, 24, 25, 26, 27, 28, 33, 34, 35, 36, 37] (by decide +kernel) (by decide +kernel)
set_option maxRecDepth 20000 in
theorem gX1_times_X1_order : GoodIn wsX1_times (wsV RX1 54 RX1 yX1_order wsX1_order) := goodIn_app (goodIn_of _ (by decide +kernel)) ggX1_times_X1_order
set_option maxRecDepth 20000 in
theorem ggX1_times_X1_minus : GoodIn wsX1_times wsX1_minus := goodIn_r _ [32, 7, 8, 9, 4, 10, 6, 33, 34, 35, 36, 37] (by decide +kernel) (by decide +kernel)
set_option maxRecDepth 20000 in
theorem gX1_times_X1_minus : GoodIn wsX1_times (wsV RX1 51 RX1 yX1_minus wsX1_minus) := goodIn_app (goodIn_of _ (by decide +kernel)) ggX1_times_X1_minus
set_option maxRecDepth 20000 in
theorem ggX1_times_X1_sum : GoodIn wsX1_times wsX1_sum := goodIn_r _ [24, 15, 7, 8, 9, 4, 10, 6, 25, 26, 27, 28, 33, 34, 35, 36, 37] (by decide +kernel) (by decide +kernel)
set_option maxRecDepth 20000 in
theorem gX1_times_X1_sum : GoodIn wsX1_times (wsV RX1 48 RX1 yX1_sum wsX1_sum) := goodIn_app (goodIn_of _ (by decide +kernel)) ggX1_times_X1_sum
theorem dX1_times_0 : decode cX1_times 0 = .ok (.aload_n 0, 1) := by decide +kernel
theorem dX1_times_1 : decode cX1_times 1 = .ok (.iload_n 2, 1) := by decide +kernel
theorem dX1_times_2 : decode cX1_times 2 = .ok (.invokevirtual 44, 3) := by decide +kernel
theorem dX1_times_5 : decode cX1_times 5 = .ok (.ifCond .ne 6, 3) := by decide +kernel
theorem dX1_times_8 : decode cX1_times 8 = .ok (.bipush (-2), 2) := by decide +kernel
theorem dX1_times_10 : decode cX1_times 10 = .ok (.ireturn, 1) := by decide +kernel
theorem dX1_times_11 : decode cX1_times 11 = .ok (.aload_n 0, 1) := by decide +kernel
theorem dX1_times_12 : decode cX1_times 12 = .ok (.iload_n 2, 1) := by decide +kernel
theorem dX1_times_13 : decode cX1_times 13 = .ok (.invokevirtual 54, 3) := by decide +kernel
theorem dX1_times_16 : decode cX1_times 16 = .ok (.istore_n 3, 1) := by decide +kernel
theorem dX1_times_17 : decode cX1_times 17 = .ok (.iload_n 1, 1) := by decide +kernel
theorem dX1_times_18 : decode cX1_times 18 = .ok (.iload_n 3, 1) := by decide +kernel
theorem dX1_times_19 : decode cX1_times 19 = .ok (.irem, 1) := by decide +kernel
theorem dX1_times_20 : decode cX1_times 20 = .ok (.istore 4, 2) := by decide +kernel
theorem dX1_times_22 : decode cX1_times 22 = .ok (.iload 4, 2) := by decide +kernel
theorem dX1_times_24 : decode cX1_times 24 = .ok (.ifCond .ge 11, 3) := by decide +kernel
theorem dX1_times_27 : decode cX1_times 27 = .ok (.aload_n 0, 1) := by decide +kernel
theorem dX1_times_28 : decode cX1_times 28 = .ok (.iload_n 2, 1) := by decide +kernel
theorem dX1_times_29 : decode cX1_times 29 = .ok (.invokevirtual 51, 3) := by decide +kernel
theorem dX1_times_32 : decode cX1_times 32 = .ok (.goto 4, 3) := by decide +kernel
theorem dX1_times_35 : decode cX1_times 35 = .ok (.iload_n 2, 1) := by decide +kernel
theorem dX1_times_36 : decode cX1_times 36 = .ok (.istore 5, 2) := by decide +kernel
theorem dX1_times_38 : decode cX1_times 38 = .ok (.iload 4, 2) := by decide +kernel
theorem dX1_times_40 : decode cX1_times 40 = .ok (.ifCond .ge 8, 3) := by decide +kernel
theorem dX1_times_43 : decode cX1_times 43 = .ok (.iload 4, 2) := by decide +kernel
theorem dX1_times_45 : decode cX1_times 45 = .ok (.ineg, 1) := by decide +kernel
theorem dX1_times_46 : decode cX1_times 46 = .ok (.istore 4, 2) := by decide +kernel
theorem dX1_times_48 : decode cX1_times 48 = .ok (.iconst (-1), 1) := by decide +kernel
theorem dX1_times_49 : decode cX1_times 49 = .ok (.istore 6, 2) := by decide +kernel
theorem dX1_times_51 : decode cX1_times 51 = .ok (.iconst 0, 1) := by decide +kernel
theorem dX1_times_52 : decode cX1_times 52 = .ok (.istore 7, 2) := by decide +kernel
theorem dX1_times_54 : decode cX1_times 54 = .ok (.iload 7, 2) := by decide +kernel
theorem dX1_times_56 : decode cX1_times 56 = .ok (.iload 4, 2) := by decide +kernel
theorem dX1_times_58 : decode cX1_times 58 = .ok (.if_icmp .ge 19, 3) := by decide +kernel
theorem dX1_times_61 : decode cX1_times 61 = .ok (.aload_n 0, 1) := by decide +kernel
theorem dX1_times_62 : decode cX1_times 62 = .ok (.iload 6, 2) := by decide +kernel
theorem dX1_times_64 : decode cX1_times 64 = .ok (.iload 5, 2) := by decide +kernel
theorem dX1_times_66 : decode cX1_times 66 = .ok (.invokevirtual 48, 3) := by decide +kernel
theorem dX1_times_69 : decode cX1_times 69 = .ok (.istore 6, 2) := by decide +kernel
theorem dX1_times_71 : decode cX1_times 71 = .ok (.iinc 7 1, 3) := by decide +kernel
theorem dX1_times_74 : decode cX1_times 74 = .ok (.goto (-20), 3) := by decide +kernel
theorem dX1_times_77 : decode cX1_times 77 = .ok (.iload 6, 2) := by decide +kernel
theorem dX1_times_79 : decode cX1_times 79 = .ok (.ireturn, 1) := by decide +kernel
set_option maxRecDepth 20000 in
theorem ggX1_cube_X1_mod : GoodIn wsX1_cube wsX1_mod := goodIn_r _ [6, 7, 8, 9, 10, 11, 12] (by decide +kernel) (by decide +kernel)
set_option maxRecDepth 20000 in
theorem gX1_cube_X1_mod : GoodIn wsX1_cube (wsV RX1 26 RX1 yX1_mod wsX1_mod) := goodIn_app (goodIn_of _ (by decide +kernel)) ggX1_cube_X1_mod
theorem dX1_cube_0 : decode cX1_cube 0 = .ok (.aload_n 0, 1) := by decide +kernel
theorem dX1_cube_1 : decode cX1_cube 1 = .ok (.aload_n 0, 1) := by decide +kernel
theorem dX1_cube_2 : decode cX1_cube 2 = .ok (.aload_n 0, 1) := by decide +kernel
theorem dX1_cube_3 : decode cX1_cube 3 = .ok (.getfield 23, 3) := by decide +kernel
theorem dX1_cube_6 : decode cX1_cube 6 = .ok (.iload_n 1, 1) := by decide +kernel
theorem dX1_cube_7 : decode cX1_cube 7 = .ok (.iaload, 1) := by decide +kernel
theorem dX1_cube_8 : decode cX1_cube 8 = .ok (.aload_n 0, 1) := by decide +kernel
theorem dX1_cube_9 : decode cX1_cube 9 = .ok (.getfield 23, 3) := by decide +kernel
theorem dX1_cube_12 : decode cX1_cube 12 = .ok (.iload_n 1, 1) := by decide +kernel
theorem dX1_cube_13 : decode cX1_cube 13 = .ok (.iaload, 1) := by decide +kernel
theorem dX1_cube_14 : decode cX1_cube 14 = .ok (.imul, 1) := by decide +kernel
theorem dX1_cube_15 : decode cX1_cube 15 = .ok (.invokevirtual 26, 3) := by decide +kernel
theorem dX1_cube_18 : decode cX1_cube 18 = .ok (.aload_n 0, 1) := by decide +kernel
theorem dX1_cube_19 : decode cX1_cube 19 = .ok (.getfield 23, 3) := by decide +kernel
theorem dX1_cube_22 : decode cX1_cube 22 = .ok (.iload_n 1, 1) := by decide +kernel
theorem dX1_cube_23 : decode cX1_cube 23 = .ok (.iaload, 1) := by decide +kernel
theorem dX1_cube_24 : decode cX1_cube 24 = .ok (.imul, 1) := by decide +kernel
theorem dX1_cube_25 : decode cX1_cube 25 = .ok (.invokevirtual 26, 3) := by decide +kernel
theorem dX1_cube_28 : decode cX1_cube 28 = .ok (.ireturn, 1) := by decide +kernel
set_option maxRecDepth 20000 in
theorem ggX1_square_X1_mod : GoodIn wsX1_square wsX1_mod := goodIn_r _ [6, 7, 8, 9, 10, 11, 12] (by decide +kernel) (by decide +kernel)
set_option maxRecDepth 20000 in
theorem gX1_square_X1_mod : GoodIn wsX1_square (wsV RX1 26 RX1 yX1_mod wsX1_mod) := goodIn_app (goodIn_of _ (by decide +kernel)) ggX1_square_X1_mod
theorem dX1_square_0 : decode cX1_square 0 = .ok (.aload_n 0, 1) := by decide +kernel
theorem dX1_square_1 : decode cX1_square 1 = .ok (.aload_n 0, 1) := by decide +kernel
theorem dX1_square_2 : decode cX1_square 2 = .ok (.getfield 23, 3) := by decide +kernel
theorem dX1_square_5 : decode cX1_square 5 = .ok (.iload_n 1, 1) := by decide +kernel
theorem dX1_square_6 : decode cX1_square 6 = .ok (.iaload, 1) := by decide +kernel
theorem dX1_square_7 : decode cX1_square 7 = .ok (.aload_n 0, 1) := by decide +kernel
theorem dX1_square_8 : decode cX1_square 8 = .ok (.getfield 23, 3) := by decide +kernel
theorem dX1_square_11 : decode cX1_square 11 = .ok (.iload_n 1, 1) := by decide +kernel
theorem dX1_square_12 : decode cX1_square 12 = .ok (.iaload, 1) := by decide +kernel
theorem dX1_square_13 : decode cX1_square 13 = .ok (.imul, 1) := by decide +kernel
theorem dX1_square_14 : decode cX1_square 14 = .ok (.invokevirtual 26, 3) := by decide +kernel
theorem dX1_square_17 : decode cX1_square 17 = .ok (.ireturn, 1) := by decide +kernel
set_option maxRecDepth 20000 in
theorem ggX1_division_X1_mod : GoodIn wsX1_division wsX1_mod := goodIn_r _ [9, 1, 22, 23, 24, 25, 26] (by decide +kernel) (by decide +kernel)
set_option maxRecDepth 20000 in
theorem gX1_division_X1_mod : GoodIn wsX1_division (wsV RX1 26 RX1 yX1_mod wsX1_mod) := goodIn_app (goodIn_of _ (by decide +kernel)) ggX1_division_X1_mod
set_option maxRecDepth 20000 in
theorem ggX1_division_X1_right : GoodIn wsX1_division wsX1_right := goodIn_r _ [13, 2, 4, 5, 6, 7, 8, 9, 1, 22, 23, 24, 25, 26] (by decide +kernel) (by decide +kernel)
set_option maxRecDepth 20000 in
theorem gX1_division_X1_right : GoodIn wsX1_division (wsV RX1 33 RX1 yX1_right wsX1_right) := goodIn_app (goodIn_of _ (by decide +kernel)) ggX1_division_X1_right
set_option maxRecDepth 20000 in
theorem ggX1_division_X1_cube : GoodIn wsX1_division wsX1_cube := goodIn_r _ [17, 3, 5, 6, 7, 8, 9, 1, 22, 23, 24, 25, 26] (by decide +kernel) (by decide +kernel)
set_option maxRecDepth 20000 in
theorem gX1_division_X1_cube : GoodIn wsX1_division (wsV RX1 57 RX1 yX1_cube wsX1_cube) := goodIn_app (goodIn_of _ (by decide +kernel)) ggX1_division_X1_cube
set_option maxRecDepth 20000 in
theorem ggX1_division_X1_square : GoodIn wsX1_division wsX1_square := goodIn_r _ [21, 3, 5, 6, 7, 8, 9, 1, 22, 23, 24, 25, 26] (by decide +kernel) (by decide +kernel)
set_option maxRecDepth 20000 in
theorem gX1_division_X1_square : GoodIn wsX1_division (wsV RX1 60 RX1 yX1_square wsX1_square) := goodIn_app (goodIn_of _ (by decide +kernel)) ggX1_division_X1_square
theorem dX1_division_0 : decode cX1_division 0 = .ok (.iload_n 1, 1) := by decide +kernel
theorem dX1_division_1 : decode cX1_division 1 = .ok (.ifCond .lt 21, 3) := by decide +kernel
theorem dX1_division_4 : decode cX1_division 4 = .ok (.iload_n 1, 1) := by decide +kernel
theorem dX1_division_5 : decode cX1_division 5 = .ok (.bipush 40, 2) := by decide +kernel
theorem dX1_division_7 : decode cX1_division 7 = .ok (.if_icmp .gt 15, 3) := by decide +kernel
theorem dX1_division_10 : decode cX1_division 10 = .ok (.iload_n 2, 1) := by decide +kernel
theorem dX1_division_11 : decode cX1_division 11 = .ok (.ifCond .lt 11, 3) := by decide +kernel
theorem dX1_division_14 : decode cX1_division 14 = .ok (.iload_n 2, 1) := by decide +kernel
theorem dX1_division_15 : decode cX1_division 15 = .ok (.aload_n 0, 1) := by decide +kernel
theorem dX1_division_16 : decode cX1_division 16 = .ok (.getfield 7, 3) := by decide +kernel
theorem dX1_division_19 : decode cX1_division 19 = .ok (.if_icmp .lt 5, 3) := by decide +kernel
theorem dX1_division_22 : decode cX1_division 22 = .ok (.iconst (-1), 1) := by decide +kernel
theorem dX1_division_23 : decode cX1_division 23 = .ok (.ireturn, 1) := by decide +kernel
theorem dX1_division_24 : decode cX1_division 24 = .ok (.aload_n 0, 1) := by decide +kernel
theorem dX1_division_25 : decode cX1_division 25 = .ok (.iload_n 2, 1) := by decide +kernel
theorem dX1_division_26 : decode cX1_division 26 = .ok (.iload_n 2, 1) := by decide +kernel
theorem dX1_division_27 : decode cX1_division 27 = .ok (.imul, 1) := by decide +kernel
theorem dX1_division_28 : decode cX1_division 28 = .ok (.invokevirtual 26, 3) := by decide +kernel
theorem dX1_division_31 : decode cX1_division 31 = .ok (.istore_n 3, 1) := by decide +kernel
theorem dX1_division_32 : decode cX1_division 32 = .ok (.aload_n 0, 1) := by decide +kernel
theorem dX1_division_33 : decode cX1_division 33 = .ok (.iload_n 3, 1) := by decide +kernel
theorem dX1_division_34 : decode cX1_division 34 = .ok (.iload_n 2, 1) := by decide +kernel
theorem dX1_division_35 : decode cX1_division 35 = .ok (.imul, 1) := by decide +kernel
theorem dX1_division_36 : decode cX1_division 36 = .ok (.invokevirtual 26, 3) := by decide +kernel
theorem dX1_division_39 : decode cX1_division 39 = .ok (.istore 4, 2) := by decide +kernel
theorem dX1_division_41 : decode cX1_division 41 = .ok (.aload_n 0, 1) := by decide +kernel
theorem dX1_division_42 : decode cX1_division 42 = .ok (.iconst 4, 1) := by decide +kernel
theorem dX1_division_43 : decode cX1_division 43 = .ok (.aload_n 0, 1) := by decide +kernel
theorem dX1_division_44 : decode cX1_division 44 = .ok (.iload_n 2, 1) := by decide +kernel
theorem dX1_division_45 : decode cX1_division 45 = .ok (.invokevirtual 33, 3) := by decide +kernel
theorem dX1_division_48 : decode cX1_division 48 = .ok (.imul, 1) := by decide +kernel
theorem dX1_division_49 : decode cX1_division 49 = .ok (.invokevirtual 26, 3) := by decide +kernel
theorem dX1_division_52 : decode cX1_division 52 = .ok (.istore 5, 2) := by decide +kernel
theorem dX1_division_54 : decode cX1_division 54 = .ok (.aload_n 0, 1) := by decide +kernel
theorem dX1_division_55 : decode cX1_division 55 = .ok (.iload 5, 2) := by decide +kernel
theorem dX1_division_57 : decode cX1_division 57 = .ok (.iload 5, 2) := by decide +kernel
theorem dX1_division_59 : decode cX1_division 59 = .ok (.imul, 1) := by decide +kernel
theorem dX1_division_60 : decode cX1_division 60 = .ok (.invokevirtual 26, 3) := by decide +kernel
theorem dX1_division_63 : decode cX1_division 63 = .ok (.istore 6, 2) := by decide +kernel
theorem dX1_division_65 : decode cX1_division 65 = .ok (.aload_n 0, 1) := by decide +kernel
theorem dX1_division_66 : decode cX1_division 66 = .ok (.aload_n 0, 1) := by decide +kernel
theorem dX1_division_67 : decode cX1_division 67 = .ok (.getfield 13, 3) := by decide +kernel
theorem dX1_division_70 : decode cX1_division 70 = .ok (.aload_n 0, 1) := by decide +kernel
theorem dX1_division_71 : decode cX1_division 71 = .ok (.getfield 13, 3) := by decide +kernel
theorem dX1_division_74 : decode cX1_division 74 = .ok (.imul, 1) := by decide +kernel
theorem dX1_division_75 : decode cX1_division 75 = .ok (.invokevirtual 26, 3) := by decide +kernel
theorem dX1_division_78 : decode cX1_division 78 = .ok (.istore 7, 2) := by decide +kernel
theorem dX1_division_80 : decode cX1_division 80 = .ok (.aload_n 0, 1) := by decide +kernel
theorem dX1_division_81 : decode cX1_division 81 = .ok (.getfield 23, 3) := by decide +kernel
theorem dX1_division_84 : decode cX1_division 84 = .ok (.iconst 0, 1) := by decide +kernel
theorem dX1_division_85 : decode cX1_division 85 = .ok (.iconst 0, 1) := by decide +kernel
theorem dX1_division_86 : decode cX1_division 86 = .ok (.iastore, 1) := by decide +kernel
theorem dX1_division_87 : decode cX1_division 87 = .ok (.aload_n 0, 1) := by decide +kernel
theorem dX1_division_88 : decode cX1_division 88 = .ok (.getfield 23, 3) := by decide +kernel
theorem dX1_division_91 : decode cX1_division 91 = .ok (.iconst 1, 1) := by decide +kernel
theorem dX1_division_92 : decode cX1_division 92 = .ok (.iconst 1, 1) := by decide +kernel
theorem dX1_division_93 : decode cX1_division 93 = .ok (.iastore, 1) := by decide +kernel
theorem dX1_division_94 : decode cX1_division 94 = .ok (.aload_n 0, 1) := by decide +kernel
theorem dX1_division_95 : decode cX1_division 95 = .ok (.getfield 23, 3) := by decide +kernel
theorem dX1_division_98 : decode cX1_division 98 = .ok (.iconst 2, 1) := by decide +kernel
theorem dX1_division_99 : decode cX1_division 99 = .ok (.iconst 1, 1) := by decide +kernel
theorem dX1_division_100 : decode cX1_division 100 = .ok (.iastore, 1) := by decide +kernel
theorem dX1_division_101 : decode cX1_division 101 = .ok (.aload_n 0, 1) := by decide +kernel
theorem dX1_division_102 : decode cX1_division 102 = .ok (.getfield 23, 3) := by decide +kernel
theorem dX1_division_105 : decode cX1_division 105 = .ok (.iconst 3, 1) := by decide +kernel
theorem dX1_division_106 : decode cX1_division 106 = .ok (.aload_n 0, 1) := by decide +kernel
theorem dX1_division_107 : decode cX1_division 107 = .ok (.iconst 3, 1) := by decide +kernel
theorem dX1_division_108 : decode cX1_division 108 = .ok (.aload_n 0, 1) := by decide +kernel
theorem dX1_division_109 : decode cX1_division 109 = .ok (.iload_n 3, 1) := by decide +kernel
theorem dX1_division_110 : decode cX1_division 110 = .ok (.iload_n 3, 1) := by decide +kernel
theorem dX1_division_111 : decode cX1_division 111 = .ok (.imul, 1) := by decide +kernel
theorem dX1_division_112 : decode cX1_division 112 = .ok (.invokevirtual 26, 3) := by decide +kernel
theorem dX1_division_115 : decode cX1_division 115 = .ok (.imul, 1) := by decide +kernel
theorem dX1_division_116 : decode cX1_division 116 = .ok (.bipush 6, 2) := by decide +kernel
theorem dX1_division_118 : decode cX1_division 118 = .ok (.aload_n 0, 1) := by decide +kernel
theorem dX1_division_119 : decode cX1_division 119 = .ok (.aload_n 0, 1) := by decide +kernel
theorem dX1_division_120 : decode cX1_division 120 = .ok (.getfield 13, 3) := by decide +kernel
theorem dX1_division_123 : decode cX1_division 123 = .ok (.iload_n 3, 1) := by decide +kernel
theorem dX1_division_124 : decode cX1_division 124 = .ok (.imul, 1) := by decide +kernel
theorem dX1_division_125 : decode cX1_division 125 = .ok (.invokevirtual 26, 3) := by decide +kernel
theorem dX1_division_128 : decode cX1_division 128 = .ok (.imul, 1) := by decide +kernel
theorem dX1_division_129 : decode cX1_division 129 = .ok (.iadd, 1) := by decide +kernel
theorem dX1_division_130 : decode cX1_division 130 = .ok (.bipush 12, 2) := by decide +kernel
theorem dX1_division_132 : decode cX1_division 132 = .ok (.aload_n 0, 1) := by decide +kernel
theorem dX1_division_133 : decode cX1_division 133 = .ok (.aload_n 0, 1) := by decide +kernel
theorem dX1_division_134 : decode cX1_division 134 = .ok (.getfield 16, 3) := by decide +kernel
theorem dX1_division_137 : decode cX1_division 137 = .ok (.iload_n 2, 1) := by decide +kernel
theorem dX1_division_138 : decode cX1_division 138 = .ok (.imul, 1) := by decide +kernel
theorem dX1_division_139 : decode cX1_division 139 = .ok (.invokevirtual 26, 3) := by decide +kernel
theorem dX1_division_142 : decode cX1_division 142 = .ok (.imul, 1) := by decide +kernel
theorem dX1_division_143 : decode cX1_division 143 = .ok (.iadd, 1) := by decide +kernel
theorem dX1_division_144 : decode cX1_division 144 = .ok (.iload 7, 2) := by decide +kernel
theorem dX1_division_146 : decode cX1_division 146 = .ok (.isub, 1) := by decide +kernel
theorem dX1_division_147 : decode cX1_division 147 = .ok (.invokevirtual 26, 3) := by decide +kernel
theorem dX1_division_150 : decode cX1_division 150 = .ok (.iastore, 1) := by decide +kernel
theorem dX1_division_151 : decode cX1_division 151 = .ok (.aload_n 0, 1) := by decide +kernel
theorem dX1_division_152 : decode cX1_division 152 = .ok (.iload 4, 2) := by decide +kernel
theorem dX1_division_154 : decode cX1_division 154 = .ok (.iload 4, 2) := by decide +kernel
theorem dX1_division_156 : decode cX1_division 156 = .ok (.imul, 1) := by decide +kernel
theorem dX1_division_157 : decode cX1_division 157 = .ok (.invokevirtual 26, 3) := by decide +kernel
theorem dX1_division_160 : decode cX1_division 160 = .ok (.iconst 5, 1) := by decide +kernel
theorem dX1_division_161 : decode cX1_division 161 = .ok (.aload_n 0, 1) := by decide +kernel
theorem dX1_division_162 : decode cX1_division 162 = .ok (.aload_n 0, 1) := by decide +kernel
theorem dX1_division_163 : decode cX1_division 163 = .ok (.aload_n 0, 1) := by decide +kernel
theorem dX1_division_164 : decode cX1_division 164 = .ok (.getfield 13, 3) := by decide +kernel
theorem dX1_division_167 : decode cX1_division 167 = .ok (.iload_n 3, 1) := by decide +kernel
theorem dX1_division_168 : decode cX1_division 168 = .ok (.imul, 1) := by decide +kernel
theorem dX1_division_169 : decode cX1_division 169 = .ok (.invokevirtual 26, 3) := by decide +kernel
theorem dX1_division_172 : decode cX1_division 172 = .ok (.iload_n 3, 1) := by decide +kernel
theorem dX1_division_173 : decode cX1_division 173 = .ok (.imul, 1) := by decide +kernel
theorem dX1_division_174 : decode cX1_division 174 = .ok (.invokevirtual 26, 3) := by decide +kernel
theorem dX1_division_177 : decode cX1_division 177 = .ok (.imul, 1) := by decide +kernel
theorem dX1_division_178 : decode cX1_division 178 = .ok (.iadd, 1) := by decide +kernel
