set_option maxRecDepth 20000 in
theorem ggX0_init_X0_setPresent : GoodIn wsX0_init wsX0_setPresent := goodIn_r _ [12, 13, 14, 15, 6, 16, 17, 18, 19, 11, 20, 5, 21, 22, 23, 24, 25, 26, 27, 28, 29, 30, 31, 32, 33, 34, 35, 36, 37, 38, 39, 40, 41, 42, 43, 44, 45, 46, 47] (by decide +kernel) (by decide +kernel)
set_option maxRecDepth 20000 in
theorem gX0_init_X0_setPresent : GoodIn wsX0_init (wsV RX0 19 RX0 yX0_setPresent wsX0_setPresent) := goodIn_app (goodIn_of _ (by decide +kernel)) ggX0_init_X0_setPresent
theorem dX0_init_0 : decode cX0_init 0 = .ok (.aload_n 0, 1) := by decide +kernel
theorem dX0_init_1 : decode cX0_init 1 = .ok (.invokespecial 1, 3) := by decide +kernel
theorem dX0_init_4 : decode cX0_init 4 = .ok (.aload_n 0, 1) := by decide +kernel
theorem dX0_init_5 : decode cX0_init 5 = .ok (.sipush 4093, 3) := by decide +kernel
theorem dX0_init_8 : decode cX0_init 8 = .ok (.newarray .int, 2) := by decide +kernel
theorem dX0_init_10 : decode cX0_init 10 = .ok (.putfield 9, 3) := by decide +kernel
theorem dX0_init_13 : decode cX0_init 13 = .ok (.aload_n 0, 1) := by decide +kernel
theorem dX0_init_14 : decode cX0_init 14 = .ok (.sipush 4094, 3) := by decide +kernel
theorem dX0_init_17 : decode cX0_init 17 = .ok (.newarray .int, 2) := by decide +kernel
theorem dX0_init_19 : decode cX0_init 19 = .ok (.putfield 13, 3) := by decide +kernel
theorem dX0_init_22 : decode cX0_init 22 = .ok (.aload_n 0, 1) := by decide +kernel
theorem dX0_init_23 : decode cX0_init 23 = .ok (.bipush 41, 2) := by decide +kernel
theorem dX0_init_25 : decode cX0_init 25 = .ok (.newarray .int, 2) := by decide +kernel
theorem dX0_init_27 : decode cX0_init 27 = .ok (.putfield 16, 3) := by decide +kernel
theorem dX0_init_30 : decode cX0_init 30 = .ok (.aload_n 0, 1) := by decide +kernel
theorem dX0_init_31 : decode cX0_init 31 = .ok (.iconst 5, 1) := by decide +kernel
theorem dX0_init_32 : decode cX0_init 32 = .ok (.iconst 1, 1) := by decide +kernel
theorem dX0_init_33 : decode cX0_init 33 = .ok (.iconst 1, 1) := by decide +kernel
theorem dX0_init_34 : decode cX0_init 34 = .ok (.invokevirtual 19, 3) := by decide +kernel
theorem dX0_init_37 : decode cX0_init 37 = .ok (.return_, 1) := by decide +kernel
set_option maxRecDepth 20000 in
theorem ggX0_curve_X0_isPrime : GoodIn wsX0_curve wsX0_isPrime := goodIn_r _ [4] (by decide +kernel) (by decide +kernel)
set_option maxRecDepth 20000 in
theorem gX0_curve_X0_isPrime : GoodIn wsX0_curve (va_wsS RX0 23 yX0_isPrime wsX0_isPrime) := goodIn_app (goodIn_of _ (by decide +kernel)) ggX0_curve_X0_isPrime
set_option maxRecDepth 20000 in
theorem ggX0_curve_X0_isSingular : GoodIn wsX0_curve wsX0_isSingular := goodIn_r _ [7] (by decide +kernel) (by decide +kernel)
set_option maxRecDepth 20000 in
theorem gX0_curve_X0_isSingular : GoodIn wsX0_curve (va_wsS RX0 27 yX0_isSingular wsX0_isSingular) := goodIn_app (goodIn_of _ (by decide +kernel)) ggX0_curve_X0_isSingular
set_option maxRecDepth 20000 in
theorem ggX0_curve_X0_setPresent : GoodIn wsX0_curve wsX0_setPresent := goodIn_r _ [11, 12, 13, 14, 15, 16, 17, 18, 19, 3, 20, 21, 22, 23, 24, 25, 26, 27, 28, 29, 30, 31, 32, 33, 34, 35, 36, 37, 38, 39, 40, 41, 42, 43, 44, 45, 46, 47, 48] (by decide +kernel) (by decide +kernel)
set_option maxRecDepth 20000 in
theorem gX0_curve_X0_setPresent : GoodIn wsX0_curve (wsV RX0 19 RX0 yX0_setPresent wsX0_setPresent) := goodIn_app (goodIn_of _ (by decide +kernel)) ggX0_curve_X0_setPresent
theorem dX0_curve_0 : decode cX0_curve 0 = .ok (.iload_n 1, 1) := by decide +kernel
theorem dX0_curve_1 : decode cX0_curve 1 = .ok (.iconst 5, 1) := by decide +kernel
theorem dX0_curve_2 : decode cX0_curve 2 = .ok (.if_icmp .lt 17, 3) := by decide +kernel
theorem dX0_curve_5 : decode cX0_curve 5 = .ok (.iload_n 1, 1) := by decide +kernel
theorem dX0_curve_6 : decode cX0_curve 6 = .ok (.sipush 4093, 3) := by decide +kernel
theorem dX0_curve_9 : decode cX0_curve 9 = .ok (.if_icmp .gt 10, 3) := by decide +kernel
theorem dX0_curve_12 : decode cX0_curve 12 = .ok (.iload_n 1, 1) := by decide +kernel
theorem dX0_curve_13 : decode cX0_curve 13 = .ok (.invokestatic 23, 3) := by decide +kernel
theorem dX0_curve_16 : decode cX0_curve 16 = .ok (.ifCond .ne 5, 3) := by decide +kernel
theorem dX0_curve_19 : decode cX0_curve 19 = .ok (.iconst (-1), 1) := by decide +kernel
theorem dX0_curve_20 : decode cX0_curve 20 = .ok (.ireturn, 1) := by decide +kernel
theorem dX0_curve_21 : decode cX0_curve 21 = .ok (.iload_n 2, 1) := by decide +kernel
theorem dX0_curve_22 : decode cX0_curve 22 = .ok (.ifCond .lt 17, 3) := by decide +kernel
theorem dX0_curve_25 : decode cX0_curve 25 = .ok (.iload_n 2, 1) := by decide +kernel
theorem dX0_curve_26 : decode cX0_curve 26 = .ok (.iload_n 1, 1) := by decide +kernel
theorem dX0_curve_27 : decode cX0_curve 27 = .ok (.if_icmp .ge 12, 3) := by decide +kernel
theorem dX0_curve_30 : decode cX0_curve 30 = .ok (.iload_n 3, 1) := by decide +kernel
theorem dX0_curve_31 : decode cX0_curve 31 = .ok (.ifCond .lt 8, 3) := by decide +kernel
theorem dX0_curve_34 : decode cX0_curve 34 = .ok (.iload_n 3, 1) := by decide +kernel
theorem dX0_curve_35 : decode cX0_curve 35 = .ok (.iload_n 1, 1) := by decide +kernel
theorem dX0_curve_36 : decode cX0_curve 36 = .ok (.if_icmp .lt 6, 3) := by decide +kernel
theorem dX0_curve_39 : decode cX0_curve 39 = .ok (.bipush (-2), 2) := by decide +kernel
theorem dX0_curve_41 : decode cX0_curve 41 = .ok (.ireturn, 1) := by decide +kernel
theorem dX0_curve_42 : decode cX0_curve 42 = .ok (.iload_n 1, 1) := by decide +kernel
theorem dX0_curve_43 : decode cX0_curve 43 = .ok (.iload_n 2, 1) := by decide +kernel
theorem dX0_curve_44 : decode cX0_curve 44 = .ok (.iload_n 3, 1) := by decide +kernel
theorem dX0_curve_45 : decode cX0_curve 45 = .ok (.invokestatic 27, 3) := by decide +kernel
theorem dX0_curve_48 : decode cX0_curve 48 = .ok (.ifCond .eq 6, 3) := by decide +kernel
theorem dX0_curve_51 : decode cX0_curve 51 = .ok (.bipush (-3), 2) := by decide +kernel
theorem dX0_curve_53 : decode cX0_curve 53 = .ok (.ireturn, 1) := by decide +kernel
theorem dX0_curve_54 : decode cX0_curve 54 = .ok (.aload_n 0, 1) := by decide +kernel
theorem dX0_curve_55 : decode cX0_curve 55 = .ok (.iload_n 1, 1) := by decide +kernel
theorem dX0_curve_56 : decode cX0_curve 56 = .ok (.iload_n 2, 1) := by decide +kernel
theorem dX0_curve_57 : decode cX0_curve 57 = .ok (.iload_n 3, 1) := by decide +kernel
theorem dX0_curve_58 : decode cX0_curve 58 = .ok (.invokevirtual 19, 3) := by decide +kernel
theorem dX0_curve_61 : decode cX0_curve 61 = .ok (.iconst 0, 1) := by decide +kernel
theorem dX0_curve_62 : decode cX0_curve 62 = .ok (.ireturn, 1) := by decide +kernel
theorem dX0_coefficient_0 : decode cX0_coefficient 0 = .ok (.iload_n 1, 1) := by decide +kernel
theorem dX0_coefficient_1 : decode cX0_coefficient 1 = .ok (.tableswitch 42 0 2 #[27, 32, 37], 27) := by decide +kernel
theorem dX0_coefficient_28 : decode cX0_coefficient 28 = .ok (.aload_n 0, 1) := by decide +kernel
theorem dX0_coefficient_29 : decode cX0_coefficient 29 = .ok (.getfield 31, 3) := by decide +kernel
theorem dX0_coefficient_32 : decode cX0_coefficient 32 = .ok (.ireturn, 1) := by decide +kernel
theorem dX0_coefficient_33 : decode cX0_coefficient 33 = .ok (.aload_n 0, 1) := by decide +kernel
theorem dX0_coefficient_34 : decode cX0_coefficient 34 = .ok (.getfield 35, 3) := by decide +kernel
theorem dX0_coefficient_37 : decode cX0_coefficient 37 = .ok (.ireturn, 1) := by decide +kernel
theorem dX0_coefficient_38 : decode cX0_coefficient 38 = .ok (.aload_n 0, 1) := by decide +kernel
theorem dX0_coefficient_39 : decode cX0_coefficient 39 = .ok (.getfield 38, 3) := by decide +kernel
theorem dX0_coefficient_42 : decode cX0_coefficient 42 = .ok (.ireturn, 1) := by decide +kernel
theorem dX0_coefficient_43 : decode cX0_coefficient 43 = .ok (.iconst (-1), 1) := by decide +kernel
theorem dX0_coefficient_44 : decode cX0_coefficient 44 = .ok (.ireturn, 1) := by decide +kernel
theorem dX0_count_0 : decode cX0_count 0 = .ok (.aload_n 0, 1) := by decide +kernel
theorem dX0_count_1 : decode cX0_count 1 = .ok (.getfield 41, 3) := by decide +kernel
theorem dX0_count_4 : decode cX0_count 4 = .ok (.ireturn, 1) := by decide +kernel
set_option maxRecDepth 20000 in
theorem ggX0_trace_J9_floorMod_7cf53 : GoodIn wsX0_trace wsJ9_floorMod_7cf53 := goodIn_r _ [6] (by decide +kernel) (by decide +kernel)
set_option maxRecDepth 20000 in
theorem gX0_trace_J9_floorMod_7cf53 : GoodIn wsX0_trace (va_wsS RX0 44 yJ9_floorMod_7cf53 wsJ9_floorMod_7cf53) := goodIn_app (goodIn_of _ (by decide +kernel)) ggX0_trace_J9_floorMod_7cf53
theorem dX0_trace_0 : decode cX0_trace 0 = .ok (.iload_n 1, 1) := by decide +kernel
theorem dX0_trace_1 : decode cX0_trace 1 = .ok (.iconst 2, 1) := by decide +kernel
theorem dX0_trace_2 : decode cX0_trace 2 = .ok (.if_icmp .lt 10, 3) := by decide +kernel
theorem dX0_trace_5 : decode cX0_trace 5 = .ok (.iload_n 1, 1) := by decide +kernel
theorem dX0_trace_6 : decode cX0_trace 6 = .ok (.sipush 1000, 3) := by decide +kernel
theorem dX0_trace_9 : decode cX0_trace 9 = .ok (.if_icmp .le 5, 3) := by decide +kernel
theorem dX0_trace_12 : decode cX0_trace 12 = .ok (.iconst (-1), 1) := by decide +kernel
theorem dX0_trace_13 : decode cX0_trace 13 = .ok (.ireturn, 1) := by decide +kernel
theorem dX0_trace_14 : decode cX0_trace 14 = .ok (.aload_n 0, 1) := by decide +kernel
theorem dX0_trace_15 : decode cX0_trace 15 = .ok (.getfield 31, 3) := by decide +kernel
theorem dX0_trace_18 : decode cX0_trace 18 = .ok (.iconst 1, 1) := by decide +kernel
theorem dX0_trace_19 : decode cX0_trace 19 = .ok (.iadd, 1) := by decide +kernel
theorem dX0_trace_20 : decode cX0_trace 20 = .ok (.aload_n 0, 1) := by decide +kernel
theorem dX0_trace_21 : decode cX0_trace 21 = .ok (.getfield 41, 3) := by decide +kernel
theorem dX0_trace_24 : decode cX0_trace 24 = .ok (.isub, 1) := by decide +kernel
theorem dX0_trace_25 : decode cX0_trace 25 = .ok (.iload_n 1, 1) := by decide +kernel
theorem dX0_trace_26 : decode cX0_trace 26 = .ok (.invokestatic 44, 3) := by decide +kernel
theorem dX0_trace_29 : decode cX0_trace 29 = .ok (.ireturn, 1) := by decide +kernel
set_option maxRecDepth 20000 in
theorem ggX0_roots_X0_isNumber : GoodIn wsX0_roots wsX0_isNumber := goodIn_r _ [6, 7, 8, 9, 10, 11, 12, 13, 14] (by decide +kernel) (by decide +kernel)
set_option maxRecDepth 20000 in
theorem gX0_roots_X0_isNumber : GoodIn wsX0_roots (wsV RX0 50 RX0 yX0_isNumber wsX0_isNumber) := goodIn_app (goodIn_of _ (by decide +kernel)) ggX0_roots_X0_isNumber
theorem dX0_roots_0 : decode cX0_roots 0 = .ok (.aload_n 0, 1) := by decide +kernel
theorem dX0_roots_1 : decode cX0_roots 1 = .ok (.iload_n 1, 1) := by decide +kernel
theorem dX0_roots_2 : decode cX0_roots 2 = .ok (.invokevirtual 50, 3) := by decide +kernel
theorem dX0_roots_5 : decode cX0_roots 5 = .ok (.ifCond .ne 5, 3) := by decide +kernel
theorem dX0_roots_8 : decode cX0_roots 8 = .ok (.iconst (-1), 1) := by decide +kernel
theorem dX0_roots_9 : decode cX0_roots 9 = .ok (.ireturn, 1) := by decide +kernel
theorem dX0_roots_10 : decode cX0_roots 10 = .ok (.aload_n 0, 1) := by decide +kernel
theorem dX0_roots_11 : decode cX0_roots 11 = .ok (.getfield 13, 3) := by decide +kernel
theorem dX0_roots_14 : decode cX0_roots 14 = .ok (.iload_n 1, 1) := by decide +kernel
theorem dX0_roots_15 : decode cX0_roots 15 = .ok (.iconst 1, 1) := by decide +kernel
theorem dX0_roots_16 : decode cX0_roots 16 = .ok (.iadd, 1) := by decide +kernel
theorem dX0_roots_17 : decode cX0_roots 17 = .ok (.iaload, 1) := by decide +kernel
theorem dX0_roots_18 : decode cX0_roots 18 = .ok (.aload_n 0, 1) := by decide +kernel
theorem dX0_roots_19 : decode cX0_roots 19 = .ok (.getfield 13, 3) := by decide +kernel
theorem dX0_roots_22 : decode cX0_roots 22 = .ok (.iload_n 1, 1) := by decide +kernel
theorem dX0_roots_23 : decode cX0_roots 23 = .ok (.iaload, 1) := by decide +kernel
theorem dX0_roots_24 : decode cX0_roots 24 = .ok (.isub, 1) := by decide +kernel
theorem dX0_roots_25 : decode cX0_roots 25 = .ok (.ireturn, 1) := by decide +kernel
set_option maxRecDepth 20000 in
theorem ggX0_point_X0_xOfPoint : GoodIn wsX0_point wsX0_xOfPoint := goodIn_r _ [9, 4, 3, 27, 28, 29, 30, 31, 32, 33] (by decide +kernel) (by decide +kernel)
set_option maxRecDepth 20000 in
theorem gX0_point_X0_xOfPoint : GoodIn wsX0_point (wsV RX0 53 RX0 yX0_xOfPoint wsX0_xOfPoint) := goodIn_app (goodIn_of _ (by decide +kernel)) ggX0_point_X0_xOfPoint
set_option maxRecDepth 20000 in
theorem ggX0_point_X0_rightSide : GoodIn wsX0_point wsX0_rightSide := goodIn_r _ [13, 14, 15, 16, 17, 18, 8, 19, 4, 20, 21, 22, 23, 27, 28, 29, 30, 31, 32, 33] (by decide +kernel) (by decide +kernel)
set_option maxRecDepth 20000 in
theorem gX0_point_X0_rightSide : GoodIn wsX0_point (wsV RX0 57 RX0 yX0_rightSide wsX0_rightSide) := goodIn_app (goodIn_of _ (by decide +kernel)) ggX0_point_X0_rightSide
set_option maxRecDepth 20000 in
theorem ggX0_point_X0_pack : GoodIn wsX0_point wsX0_pack := goodIn_r _ [26] (by decide +kernel) (by decide +kernel)
set_option maxRecDepth 20000 in
theorem gX0_point_X0_pack : GoodIn wsX0_point (va_wsS RX0 60 yX0_pack wsX0_pack) := goodIn_app (goodIn_of _ (by decide +kernel)) ggX0_point_X0_pack
theorem dX0_point_0 : decode cX0_point 0 = .ok (.iload_n 1, 1) := by decide +kernel
theorem dX0_point_1 : decode cX0_point 1 = .ok (.ifCond .lt 11, 3) := by decide +kernel
theorem dX0_point_4 : decode cX0_point 4 = .ok (.iload_n 1, 1) := by decide +kernel
theorem dX0_point_5 : decode cX0_point 5 = .ok (.aload_n 0, 1) := by decide +kernel
theorem dX0_point_6 : decode cX0_point 6 = .ok (.getfield 41, 3) := by decide +kernel
theorem dX0_point_9 : decode cX0_point 9 = .ok (.if_icmp .lt 6, 3) := by decide +kernel
theorem dX0_point_12 : decode cX0_point 12 = .ok (.bipush (-2), 2) := by decide +kernel
theorem dX0_point_14 : decode cX0_point 14 = .ok (.ireturn, 1) := by decide +kernel
theorem dX0_point_15 : decode cX0_point 15 = .ok (.iload_n 1, 1) := by decide +kernel
theorem dX0_point_16 : decode cX0_point 16 = .ok (.aload_n 0, 1) := by decide +kernel
theorem dX0_point_17 : decode cX0_point 17 = .ok (.getfield 41, 3) := by decide +kernel
theorem dX0_point_20 : decode cX0_point 20 = .ok (.iconst 1, 1) := by decide +kernel
theorem dX0_point_21 : decode cX0_point 21 = .ok (.isub, 1) := by decide +kernel
theorem dX0_point_22 : decode cX0_point 22 = .ok (.if_icmp .ne 5, 3) := by decide +kernel
theorem dX0_point_25 : decode cX0_point 25 = .ok (.iconst (-1), 1) := by decide +kernel
theorem dX0_point_26 : decode cX0_point 26 = .ok (.ireturn, 1) := by decide +kernel
theorem dX0_point_27 : decode cX0_point 27 = .ok (.aload_n 0, 1) := by decide +kernel
theorem dX0_point_28 : decode cX0_point 28 = .ok (.iload_n 1, 1) := by decide +kernel
theorem dX0_point_29 : decode cX0_point 29 = .ok (.invokevirtual 53, 3) := by decide +kernel
theorem dX0_point_32 : decode cX0_point 32 = .ok (.istore_n 2, 1) := by decide +kernel
theorem dX0_point_33 : decode cX0_point 33 = .ok (.aload_n 0, 1) := by decide +kernel
theorem dX0_point_34 : decode cX0_point 34 = .ok (.getfield 9, 3) := by decide +kernel
theorem dX0_point_37 : decode cX0_point 37 = .ok (.aload_n 0, 1) := by decide +kernel
theorem dX0_point_38 : decode cX0_point 38 = .ok (.iload_n 2, 1) := by decide +kernel
theorem dX0_point_39 : decode cX0_point 39 = .ok (.invokevirtual 57, 3) := by decide +kernel
theorem dX0_point_42 : decode cX0_point 42 = .ok (.iaload, 1) := by decide +kernel
theorem dX0_point_43 : decode cX0_point 43 = .ok (.istore_n 3, 1) := by decide +kernel
theorem dX0_point_44 : decode cX0_point 44 = .ok (.iload_n 1, 1) := by decide +kernel
theorem dX0_point_45 : decode cX0_point 45 = .ok (.aload_n 0, 1) := by decide +kernel
theorem dX0_point_46 : decode cX0_point 46 = .ok (.getfield 13, 3) := by decide +kernel
theorem dX0_point_49 : decode cX0_point 49 = .ok (.iload_n 2, 1) := by decide +kernel
theorem dX0_point_50 : decode cX0_point 50 = .ok (.iaload, 1) := by decide +kernel
theorem dX0_point_51 : decode cX0_point 51 = .ok (.if_icmp .ne 11, 3) := by decide +kernel
theorem dX0_point_54 : decode cX0_point 54 = .ok (.iload_n 2, 1) := by decide +kernel
theorem dX0_point_55 : decode cX0_point 55 = .ok (.iload_n 3, 1) := by decide +kernel
theorem dX0_point_56 : decode cX0_point 56 = .ok (.invokestatic 60, 3) := by decide +kernel
theorem dX0_point_59 : decode cX0_point 59 = .ok (.goto 13, 3) := by decide +kernel
theorem dX0_point_62 : decode cX0_point 62 = .ok (.iload_n 2, 1) := by decide +kernel
theorem dX0_point_63 : decode cX0_point 63 = .ok (.aload_n 0, 1) := by decide +kernel
theorem dX0_point_64 : decode cX0_point 64 = .ok (.getfield 31, 3) := by decide +kernel
theorem dX0_point_67 : decode cX0_point 67 = .ok (.iload_n 3, 1) := by decide +kernel
theorem dX0_point_68 : decode cX0_point 68 = .ok (.isub, 1) := by decide +kernel
theorem dX0_point_69 : decode cX0_point 69 = .ok (.invokestatic 60, 3) := by decide +kernel
theorem dX0_point_72 : decode cX0_point 72 = .ok (.ireturn, 1) := by decide +kernel
set_option maxRecDepth 20000 in
theorem ggX0_on_X0_isPoint : GoodIn wsX0_on wsX0_isPoint := goodIn_r _ [5, 6, 7, 4, 8, 9, 10, 11, 12, 13, 14, 15, 16, 17, 18, 19, 20, 21, 22, 23, 24, 25, 26, 27, 28, 29, 30, 31, 32, 33, 34, 35, 36, 37] (by decide +kernel) (by decide +kernel)
set_option maxRecDepth 20000 in
theorem gX0_on_X0_isPoint : GoodIn wsX0_on (wsV RX0 63 RX0 yX0_isPoint wsX0_isPoint) := goodIn_app (goodIn_of _ (by decide +kernel)) ggX0_on_X0_isPoint
theorem dX0_on_0 : decode cX0_on 0 = .ok (.aload_n 0, 1) := by decide +kernel
theorem dX0_on_1 : decode cX0_on 1 = .ok (.iload_n 1, 1) := by decide +kernel
theorem dX0_on_2 : decode cX0_on 2 = .ok (.invokevirtual 63, 3) := by decide +kernel
theorem dX0_on_5 : decode cX0_on 5 = .ok (.ireturn, 1) := by decide +kernel
set_option maxRecDepth 20000 in
theorem ggX0_add_X0_isPoint : GoodIn wsX0_add wsX0_isPoint := goodIn_r _ [5, 6, 7, 4, 8, 9, 10, 11, 12, 13, 14, 15, 16, 17, 18, 19, 20, 21, 22, 23, 24, 25, 26, 27, 28, 29, 30, 50, 51, 52, 53, 54, 55, 56] (by decide +kernel) (by decide +kernel)
set_option maxRecDepth 20000 in
theorem gX0_add_X0_isPoint : GoodIn wsX0_add (wsV RX0 63 RX0 yX0_isPoint wsX0_isPoint) := goodIn_app (goodIn_of _ (by decide +kernel)) ggX0_add_X0_isPoint
set_option maxRecDepth 20000 in
theorem ggX0_add_X0_sum : GoodIn wsX0_add wsX0_sum := goodIn_r _ [34, 35, 36, 37, 4, 38, 16, 9, 10, 11, 6, 7, 8, 39, 40, 41, 42, 43, 44, 45, 29, 17, 18, 19, 20, 21, 22, 23, 24, 46, 47, 48, 49, 50, 51, 52, 53, 54, 55, 56] (by decide +kernel) (by decide +kernel)
set_option maxRecDepth 20000 in
theorem gX0_add_X0_sum : GoodIn wsX0_add (wsV RX0 66 RX0 yX0_sum wsX0_sum) := goodIn_app (goodIn_of _ (by decide +kernel)) ggX0_add_X0_sum
theorem dX0_add_0 : decode cX0_add 0 = .ok (.aload_n 0, 1) := by decide +kernel
theorem dX0_add_1 : decode cX0_add 1 = .ok (.iload_n 1, 1) := by decide +kernel
theorem dX0_add_2 : decode cX0_add 2 = .ok (.invokevirtual 63, 3) := by decide +kernel
theorem dX0_add_5 : decode cX0_add 5 = .ok (.ifCond .eq 20, 3) := by decide +kernel
theorem dX0_add_8 : decode cX0_add 8 = .ok (.aload_n 0, 1) := by decide +kernel
theorem dX0_add_9 : decode cX0_add 9 = .ok (.iload_n 2, 1) := by decide +kernel
theorem dX0_add_10 : decode cX0_add 10 = .ok (.invokevirtual 63, 3) := by decide +kernel
theorem dX0_add_13 : decode cX0_add 13 = .ok (.ifCond .eq 12, 3) := by decide +kernel
theorem dX0_add_16 : decode cX0_add 16 = .ok (.aload_n 0, 1) := by decide +kernel
theorem dX0_add_17 : decode cX0_add 17 = .ok (.iload_n 1, 1) := by decide +kernel
theorem dX0_add_18 : decode cX0_add 18 = .ok (.iload_n 2, 1) := by decide +kernel
theorem dX0_add_19 : decode cX0_add 19 = .ok (.invokevirtual 66, 3) := by decide +kernel
theorem dX0_add_22 : decode cX0_add 22 = .ok (.goto 5, 3) := by decide +kernel
theorem dX0_add_25 : decode cX0_add 25 = .ok (.bipush (-2), 2) := by decide +kernel
theorem dX0_add_27 : decode cX0_add 27 = .ok (.ireturn, 1) := by decide +kernel
set_option maxRecDepth 20000 in
theorem ggX0_negative_X0_isPoint : GoodIn wsX0_negative wsX0_isPoint := goodIn_r _ [5, 6, 7, 4, 8, 9, 10, 11, 12, 13, 14, 15, 16, 17, 18, 19, 20, 21, 22, 23, 24, 25, 26, 27, 28, 29, 30, 38, 39, 40, 41, 42, 43, 44] (by decide +kernel) (by decide +kernel)
set_option maxRecDepth 20000 in
theorem gX0_negative_X0_isPoint : GoodIn wsX0_negative (wsV RX0 63 RX0 yX0_isPoint wsX0_isPoint) := goodIn_app (goodIn_of _ (by decide +kernel)) ggX0_negative_X0_isPoint
set_option maxRecDepth 20000 in
theorem ggX0_negative_X0_opposite : GoodIn wsX0_negative wsX0_opposite := goodIn_r _ [34, 16, 9, 10, 4, 11, 6, 7, 8, 35, 36, 37, 38, 39, 40, 41, 42, 43, 44] (by decide +kernel) (by decide +kernel)
set_option maxRecDepth 20000 in
theorem gX0_negative_X0_opposite : GoodIn wsX0_negative (wsV RX0 69 RX0 yX0_opposite wsX0_opposite) := goodIn_app (goodIn_of _ (by decide +kernel)) ggX0_negative_X0_opposite
theorem dX0_negative_0 : decode cX0_negative 0 = .ok (.aload_n 0, 1) := by decide +kernel
theorem dX0_negative_1 : decode cX0_negative 1 = .ok (.iload_n 1, 1) := by decide +kernel
theorem dX0_negative_2 : decode cX0_negative 2 = .ok (.invokevirtual 63, 3) := by decide +kernel
theorem dX0_negative_5 : decode cX0_negative 5 = .ok (.ifCond .eq 11, 3) := by decide +kernel
theorem dX0_negative_8 : decode cX0_negative 8 = .ok (.aload_n 0, 1) := by decide +kernel
theorem dX0_negative_9 : decode cX0_negative 9 = .ok (.iload_n 1, 1) := by decide +kernel
theorem dX0_negative_10 : decode cX0_negative 10 = .ok (.invokevirtual 69, 3) := by decide +kernel
theorem dX0_negative_13 : decode cX0_negative 13 = .ok (.goto 5, 3) := by decide +kernel
theorem dX0_negative_16 : decode cX0_negative 16 = .ok (.bipush (-2), 2) := by decide +kernel
theorem dX0_negative_18 : decode cX0_negative 18 = .ok (.ireturn, 1) := by decide +kernel
set_option maxRecDepth 20000 in
theorem ggX0_times_X0_isPoint : GoodIn wsX0_times wsX0_isPoint := goodIn_r _ [5, 6, 7, 4, 8, 9, 10, 11, 12, 13, 14, 15, 16, 17, 18, 19, 20, 21, 22, 23, 24, 25, 26, 27, 28, 29, 30, 54, 55, 56, 57, 58, 59, 60] (by decide +kernel) (by decide +kernel)
set_option maxRecDepth 20000 in
theorem gX0_times_X0_isPoint : GoodIn wsX0_times (wsV RX0 63 RX0 yX0_isPoint wsX0_isPoint) := goodIn_app (goodIn_of _ (by decide +kernel)) ggX0_times_X0_isPoint
set_option maxRecDepth 20000 in
theorem ggX0_times_X0_opposite : GoodIn wsX0_times wsX0_opposite := goodIn_r _ [34, 16, 9, 10, 4, 11, 6, 7, 8, 35, 36, 37, 54, 55, 56, 57, 58, 59, 60] (by decide +kernel) (by decide +kernel)
set_option maxRecDepth 20000 in
theorem gX0_times_X0_opposite : GoodIn wsX0_times (wsV RX0 69 RX0 yX0_opposite wsX0_opposite) := goodIn_app (goodIn_of _ (by decide +kernel)) ggX0_times_X0_opposite
set_option maxRecDepth 20000 in
theorem ggX0_times_X0_multiple : GoodIn wsX0_times wsX0_multiple := goodIn_r _ [41, 42, 43, 44, 4, 45, 31, 32, 33, 34, 16, 9, 10, 11, 6, 7, 8, 35, 36, 37, 46, 47, 48, 49, 29, 17, 18, 19, 20, 21, 22, 23, 24, 50, 51, 52, 53, 54, 55, 56, 57, 58, 59, 60] (by decide +kernel) (by decide +kernel)
set_option maxRecDepth 20000 in
theorem gX0_times_X0_multiple : GoodIn wsX0_times (wsV RX0 72 RX0 yX0_multiple wsX0_multiple) := goodIn_app (goodIn_of _ (by decide +kernel)) ggX0_times_X0_multiple
theorem dX0_times_0 : decode cX0_times 0 = .ok (.aload_n 0, 1) := by decide +kernel
theorem dX0_times_1 : decode cX0_times 1 = .ok (.iload_n 2, 1) := by decide +kernel
theorem dX0_times_2 : decode cX0_times 2 = .ok (.invokevirtual 63, 3) := by decide +kernel
theorem dX0_times_5 : decode cX0_times 5 = .ok (.ifCond .ne 6, 3) := by decide +kernel
theorem dX0_times_8 : decode cX0_times 8 = .ok (.bipush (-2), 2) := by decide +kernel
theorem dX0_times_10 : decode cX0_times 10 = .ok (.ireturn, 1) := by decide +kernel
theorem dX0_times_11 : decode cX0_times 11 = .ok (.iload_n 1, 1) := by decide +kernel
theorem dX0_times_12 : decode cX0_times 12 = .ok (.i2l, 1) := by decide +kernel
theorem dX0_times_13 : decode cX0_times 13 = .ok (.lstore_n 3, 1) := by decide +kernel
theorem dX0_times_14 : decode cX0_times 14 = .ok (.lload_n 3, 1) := by decide +kernel
theorem dX0_times_15 : decode cX0_times 15 = .ok (.lconst 0, 1) := by decide +kernel
theorem dX0_times_16 : decode cX0_times 16 = .ok (.lcmp, 1) := by decide +kernel
theorem dX0_times_17 : decode cX0_times 17 = .ok (.ifCond .ge 17, 3) := by decide +kernel
theorem dX0_times_20 : decode cX0_times 20 = .ok (.aload_n 0, 1) := by decide +kernel
theorem dX0_times_21 : decode cX0_times 21 = .ok (.lload_n 3, 1) := by decide +kernel
theorem dX0_times_22 : decode cX0_times 22 = .ok (.lneg, 1) := by decide +kernel
theorem dX0_times_23 : decode cX0_times 23 = .ok (.aload_n 0, 1) := by decide +kernel
theorem dX0_times_24 : decode cX0_times 24 = .ok (.iload_n 2, 1) := by decide +kernel
theorem dX0_times_25 : decode cX0_times 25 = .ok (.invokevirtual 69, 3) := by decide +kernel
theorem dX0_times_28 : decode cX0_times 28 = .ok (.invokevirtual 72, 3) := by decide +kernel
theorem dX0_times_31 : decode cX0_times 31 = .ok (.goto 9, 3) := by decide +kernel
theorem dX0_times_34 : decode cX0_times 34 = .ok (.aload_n 0, 1) := by decide +kernel
theorem dX0_times_35 : decode cX0_times 35 = .ok (.lload_n 3, 1) := by decide +kernel
theorem dX0_times_36 : decode cX0_times 36 = .ok (.iload_n 2, 1) := by decide +kernel
theorem dX0_times_37 : decode cX0_times 37 = .ok (.invokevirtual 72, 3) := by decide +kernel
theorem dX0_times_40 : decode cX0_times 40 = .ok (.ireturn, 1) := by decide +kernel
set_option maxRecDepth 20000 in
theorem ggX0_order_X0_isPoint : GoodIn wsX0_order wsX0_isPoint := goodIn_r _ [6, 7, 8, 5, 9, 10, 11, 12, 13, 14, 15, 16, 17, 18, 19, 20, 21, 22, 23, 24, 25, 26, 27, 28, 29, 30, 31, 55, 56, 57, 58, 59, 60, 61] (by decide +kernel) (by decide +kernel)
set_option maxRecDepth 20000 in
theorem gX0_order_X0_isPoint : GoodIn wsX0_order (wsV RX0 63 RX0 yX0_isPoint wsX0_isPoint) := goodIn_app (goodIn_of _ (by decide +kernel)) ggX0_order_X0_isPoint
set_option maxRecDepth 20000 in
theorem ggX0_order_X0_multiple : GoodIn wsX0_order wsX0_multiple := goodIn_r _ [35, 36, 37, 38, 5, 39, 40, 41, 42, 43, 17, 10, 11, 12, 7, 8, 9, 44, 45, 46, 47, 48, 49, 50, 30, 18, 19, 20, 21, 22, 23, 24, 25, 51, 52, 53, 54, 55, 56, 57, 58, 59, 60, 61] (by decide +kernel) (by decide +kernel)
set_option maxRecDepth 20000 in
theorem gX0_order_X0_multiple : GoodIn wsX0_order (wsV RX0 72 RX0 yX0_multiple wsX0_multiple) := goodIn_app (goodIn_of _ (by decide +kernel)) ggX0_order_X0_multiple
theorem dX0_order_0 : decode cX0_order 0 = .ok (.aload_n 0, 1) := by decide +kernel
theorem dX0_order_1 : decode cX0_order 1 = .ok (.iload_n 1, 1) := by decide +kernel
theorem dX0_order_2 : decode cX0_order 2 = .ok (.invokevirtual 63, 3) := by decide +kernel
theorem dX0_order_5 : decode cX0_order 5 = .ok (.ifCond .ne 6, 3) := by decide +kernel
theorem dX0_order_8 : decode cX0_order 8 = .ok (.bipush (-2), 2) := by decide +kernel
theorem dX0_order_10 : decode cX0_order 10 = .ok (.ireturn, 1) := by decide +kernel
theorem dX0_order_11 : decode cX0_order 11 = .ok (.iconst 1, 1) := by decide +kernel
theorem dX0_order_12 : decode cX0_order 12 = .ok (.istore_n 2, 1) := by decide +kernel
theorem dX0_order_13 : decode cX0_order 13 = .ok (.iload_n 2, 1) := by decide +kernel
theorem dX0_order_14 : decode cX0_order 14 = .ok (.aload_n 0, 1) := by decide +kernel
theorem dX0_order_15 : decode cX0_order 15 = .ok (.getfield 41, 3) := by decide +kernel
theorem dX0_order_18 : decode cX0_order 18 = .ok (.if_icmp .ge 31, 3) := by decide +kernel
theorem dX0_order_21 : decode cX0_order 21 = .ok (.aload_n 0, 1) := by decide +kernel
theorem dX0_order_22 : decode cX0_order 22 = .ok (.getfield 41, 3) := by decide +kernel
theorem dX0_order_25 : decode cX0_order 25 = .ok (.iload_n 2, 1) := by decide +kernel
theorem dX0_order_26 : decode cX0_order 26 = .ok (.irem, 1) := by decide +kernel
theorem dX0_order_27 : decode cX0_order 27 = .ok (.ifCond .ne 16, 3) := by decide +kernel
theorem dX0_order_30 : decode cX0_order 30 = .ok (.aload_n 0, 1) := by decide +kernel
theorem dX0_order_31 : decode cX0_order 31 = .ok (.iload_n 2, 1) := by decide +kernel
theorem dX0_order_32 : decode cX0_order 32 = .ok (.i2l, 1) := by decide +kernel
theorem dX0_order_33 : decode cX0_order 33 = .ok (.iload_n 1, 1) := by decide +kernel
theorem dX0_order_34 : decode cX0_order 34 = .ok (.invokevirtual 72, 3) := by decide +kernel
theorem dX0_order_37 : decode cX0_order 37 = .ok (.iconst (-1), 1) := by decide +kernel
theorem dX0_order_38 : decode cX0_order 38 = .ok (.if_icmp .ne 5, 3) := by decide +kernel
theorem dX0_order_41 : decode cX0_order 41 = .ok (.iload_n 2, 1) := by decide +kernel
theorem dX0_order_42 : decode cX0_order 42 = .ok (.ireturn, 1) := by decide +kernel
theorem dX0_order_43 : decode cX0_order 43 = .ok (.iinc 2 1, 3) := by decide +kernel
theorem dX0_order_46 : decode cX0_order 46 = .ok (.goto (-33), 3) := by decide +kernel
theorem dX0_order_49 : decode cX0_order 49 = .ok (.aload_n 0, 1) := by decide +kernel
theorem dX0_order_50 : decode cX0_order 50 = .ok (.getfield 41, 3) := by decide +kernel
theorem dX0_order_53 : decode cX0_order 53 = .ok (.ireturn, 1) := by decide +kernel
set_option maxRecDepth 20000 in
theorem ggX0_division_X0_isNumber : GoodIn wsX0_division wsX0_isNumber := goodIn_r _ [6, 7, 46, 47, 48, 49, 50, 51, 52] (by decide +kernel) (by decide +kernel)
set_option maxRecDepth 20000 in
theorem gX0_division_X0_isNumber : GoodIn wsX0_division (wsV RX0 50 RX0 yX0_isNumber wsX0_isNumber) := goodIn_app (goodIn_of _ (by decide +kernel)) ggX0_division_X0_isNumber
set_option maxRecDepth 20000 in
theorem ggX0_division_X0_fillFirstDivisionValues : GoodIn wsX0_division wsX0_fillFirstDivisionValues := goodIn_r _ [11, 1, 12, 13, 14, 5, 15, 16, 17, 18, 19, 20, 21, 7, 22, 23, 24, 25, 26, 27, 28, 29, 46, 47, 48, 49, 50, 51, 52] (by decide +kernel) (by decide +kernel)
set_option maxRecDepth 20000 in
theorem gX0_division_X0_fillFirstDivisionValues : GoodIn wsX0_division (wsV RX0 76 RX0 yX0_fillFirstDivisionValues wsX0_fillFirstDivisionValues) := goodIn_app (goodIn_of _ (by decide +kernel)) ggX0_division_X0_fillFirstDivisionValues
set_option maxRecDepth 20000 in
theorem ggX0_division_X0_rightSide : GoodIn wsX0_division wsX0_rightSide := goodIn_r _ [33, 16, 17, 18, 19, 20, 5, 21, 7, 22, 23, 24, 25, 46, 47, 48, 49, 50, 51, 52] (by decide +kernel) (by decide +kernel)
set_option maxRecDepth 20000 in
theorem gX0_division_X0_rightSide : GoodIn wsX0_division (wsV RX0 57 RX0 yX0_rightSide wsX0_rightSide) := goodIn_app (goodIn_of _ (by decide +kernel)) ggX0_division_X0_rightSide
set_option maxRecDepth 20000 in
theorem ggX0_division_X0_modulo : GoodIn wsX0_division wsX0_modulo := goodIn_r _ [21, 7, 22, 23, 24, 25, 46, 47, 48, 49, 50, 51, 52] (by decide +kernel) (by decide +kernel)
set_option maxRecDepth 20000 in
theorem gX0_division_X0_modulo : GoodIn wsX0_division (wsV RX0 80 RX0 yX0_modulo wsX0_modulo) := goodIn_app (goodIn_of _ (by decide +kernel)) ggX0_division_X0_modulo
set_option maxRecDepth 20000 in
theorem ggX0_division_X0_evenDivisionValue : GoodIn wsX0_division wsX0_evenDivisionValue := goodIn_r _ [37, 1, 18, 19, 20, 5, 21, 7, 22, 23, 24, 25, 46, 47, 48, 49, 50, 51, 52] (by decide +kernel) (by decide +kernel)
set_option maxRecDepth 20000 in
theorem gX0_division_X0_evenDivisionValue : GoodIn wsX0_division (wsV RX0 83 RX0 yX0_evenDivisionValue wsX0_evenDivisionValue) := goodIn_app (goodIn_of _ (by decide +kernel)) ggX0_division_X0_evenDivisionValue
set_option maxRecDepth 20000 in
theorem ggX0_division_X0_oddDivisionValue : GoodIn wsX0_division wsX0_oddDivisionValue := goodIn_r _ [41, 1, 42, 43, 44, 5, 45, 18, 19, 20, 21, 7, 22, 23, 24, 25, 46, 47, 48, 49, 50, 51, 52] (by decide +kernel) (by decide +kernel)
set_option maxRecDepth 20000 in
theorem gX0_division_X0_oddDivisionValue : GoodIn wsX0_division (wsV RX0 86 RX0 yX0_oddDivisionValue wsX0_oddDivisionValue) := goodIn_app (goodIn_of _ (by decide +kernel)) ggX0_division_X0_oddDivisionValue
theorem dX0_division_0 : decode cX0_division 0 = .ok (.iload_n 1, 1) := by decide +kernel
theorem dX0_division_1 : decode cX0_division 1 = .ok (.ifCond .lt 17, 3) := by decide +kernel
theorem dX0_division_4 : decode cX0_division 4 = .ok (.iload_n 1, 1) := by decide +kernel
theorem dX0_division_5 : decode cX0_division 5 = .ok (.bipush 40, 2) := by decide +kernel
theorem dX0_division_7 : decode cX0_division 7 = .ok (.if_icmp .gt 11, 3) := by decide +kernel
theorem dX0_division_10 : decode cX0_division 10 = .ok (.aload_n 0, 1) := by decide +kernel
theorem dX0_division_11 : decode cX0_division 11 = .ok (.iload_n 2, 1) := by decide +kernel
theorem dX0_division_12 : decode cX0_division 12 = .ok (.invokevirtual 50, 3) := by decide +kernel
theorem dX0_division_15 : decode cX0_division 15 = .ok (.ifCond .ne 5, 3) := by decide +kernel
theorem dX0_division_18 : decode cX0_division 18 = .ok (.iconst (-1), 1) := by decide +kernel
theorem dX0_division_19 : decode cX0_division 19 = .ok (.ireturn, 1) := by decide +kernel
theorem dX0_division_20 : decode cX0_division 20 = .ok (.aload_n 0, 1) := by decide +kernel
theorem dX0_division_21 : decode cX0_division 21 = .ok (.iload_n 2, 1) := by decide +kernel
theorem dX0_division_22 : decode cX0_division 22 = .ok (.invokevirtual 76, 3) := by decide +kernel
theorem dX0_division_25 : decode cX0_division 25 = .ok (.aload_n 0, 1) := by decide +kernel
theorem dX0_division_26 : decode cX0_division 26 = .ok (.iconst 4, 1) := by decide +kernel
theorem dX0_division_27 : decode cX0_division 27 = .ok (.aload_n 0, 1) := by decide +kernel
theorem dX0_division_28 : decode cX0_division 28 = .ok (.iload_n 2, 1) := by decide +kernel
theorem dX0_division_29 : decode cX0_division 29 = .ok (.invokevirtual 57, 3) := by decide +kernel
theorem dX0_division_32 : decode cX0_division 32 = .ok (.imul, 1) := by decide +kernel
theorem dX0_division_33 : decode cX0_division 33 = .ok (.invokevirtual 80, 3) := by decide +kernel
theorem dX0_division_36 : decode cX0_division 36 = .ok (.istore_n 3, 1) := by decide +kernel
theorem dX0_division_37 : decode cX0_division 37 = .ok (.aload_n 0, 1) := by decide +kernel
theorem dX0_division_38 : decode cX0_division 38 = .ok (.iload_n 3, 1) := by decide +kernel
theorem dX0_division_39 : decode cX0_division 39 = .ok (.iload_n 3, 1) := by decide +kernel
theorem dX0_division_40 : decode cX0_division 40 = .ok (.imul, 1) := by decide +kernel
theorem dX0_division_41 : decode cX0_division 41 = .ok (.invokevirtual 80, 3) := by decide +kernel
theorem dX0_division_44 : decode cX0_division 44 = .ok (.istore 4, 2) := by decide +kernel
theorem dX0_division_46 : decode cX0_division 46 = .ok (.iconst 5, 1) := by decide +kernel
theorem dX0_division_47 : decode cX0_division 47 = .ok (.istore 5, 2) := by decide +kernel
theorem dX0_division_49 : decode cX0_division 49 = .ok (.iload 5, 2) := by decide +kernel
theorem dX0_division_51 : decode cX0_division 51 = .ok (.iload_n 1, 1) := by decide +kernel
theorem dX0_division_52 : decode cX0_division 52 = .ok (.if_icmp .gt 44, 3) := by decide +kernel
theorem dX0_division_55 : decode cX0_division 55 = .ok (.aload_n 0, 1) := by decide +kernel
theorem dX0_division_56 : decode cX0_division 56 = .ok (.getfield 16, 3) := by decide +kernel
theorem dX0_division_59 : decode cX0_division 59 = .ok (.iload 5, 2) := by decide +kernel
theorem dX0_division_61 : decode cX0_division 61 = .ok (.iload 5, 2) := by decide +kernel
theorem dX0_division_63 : decode cX0_division 63 = .ok (.iconst 2, 1) := by decide +kernel
theorem dX0_division_64 : decode cX0_division 64 = .ok (.irem, 1) := by decide +kernel
theorem dX0_division_65 : decode cX0_division 65 = .ok (.ifCond .ne 14, 3) := by decide +kernel
theorem dX0_division_68 : decode cX0_division 68 = .ok (.aload_n 0, 1) := by decide +kernel
theorem dX0_division_69 : decode cX0_division 69 = .ok (.iload 5, 2) := by decide +kernel
theorem dX0_division_71 : decode cX0_division 71 = .ok (.iconst 2, 1) := by decide +kernel
theorem dX0_division_72 : decode cX0_division 72 = .ok (.idiv, 1) := by decide +kernel
theorem dX0_division_73 : decode cX0_division 73 = .ok (.invokevirtual 83, 3) := by decide +kernel
theorem dX0_division_76 : decode cX0_division 76 = .ok (.goto 13, 3) := by decide +kernel
theorem dX0_division_79 : decode cX0_division 79 = .ok (.aload_n 0, 1) := by decide +kernel
theorem dX0_division_80 : decode cX0_division 80 = .ok (.iload 5, 2) := by decide +kernel
theorem dX0_division_82 : decode cX0_division 82 = .ok (.iconst 2, 1) := by decide +kernel
theorem dX0_division_83 : decode cX0_division 83 = .ok (.idiv, 1) := by decide +kernel
theorem dX0_division_84 : decode cX0_division 84 = .ok (.iload 4, 2) := by decide +kernel
theorem dX0_division_86 : decode cX0_division 86 = .ok (.invokevirtual 86, 3) := by decide +kernel
theorem dX0_division_89 : decode cX0_division 89 = .ok (.iastore, 1) := by decide +kernel
theorem dX0_division_90 : decode cX0_division 90 = .ok (.iinc 5 1, 3) := by decide +kernel
theorem dX0_division_93 : decode cX0_division 93 = .ok (.goto (-44), 3) := by decide +kernel
theorem dX0_division_96 : decode cX0_division 96 = .ok (.aload_n 0, 1) := by decide +kernel
theorem dX0_division_97 : decode cX0_division 97 = .ok (.getfield 16, 3) := by decide +kernel
theorem dX0_division_100 : decode cX0_division 100 = .ok (.iload_n 1, 1) := by decide +kernel
theorem dX0_division_101 : decode cX0_division 101 = .ok (.iaload, 1) := by decide +kernel
theorem dX0_division_102 : decode cX0_division 102 = .ok (.ireturn, 1) := by decide +kernel
theorem dX0_twist_0 : decode cX0_twist 0 = .ok (.iload_n 1, 1) := by decide +kernel
theorem dX0_twist_1 : decode cX0_twist 1 = .ok (.iconst 1, 1) := by decide +kernel
theorem dX0_twist_2 : decode cX0_twist 2 = .ok (.if_icmp .lt 11, 3) := by decide +kernel
theorem dX0_twist_5 : decode cX0_twist 5 = .ok (.iload_n 1, 1) := by decide +kernel
theorem dX0_twist_6 : decode cX0_twist 6 = .ok (.aload_n 0, 1) := by decide +kernel
theorem dX0_twist_7 : decode cX0_twist 7 = .ok (.getfield 31, 3) := by decide +kernel
theorem dX0_twist_10 : decode cX0_twist 10 = .ok (.if_icmp .lt 5, 3) := by decide +kernel
theorem dX0_twist_13 : decode cX0_twist 13 = .ok (.iconst (-1), 1) := by decide +kernel
theorem dX0_twist_14 : decode cX0_twist 14 = .ok (.ireturn, 1) := by decide +kernel
theorem dX0_twist_15 : decode cX0_twist 15 = .ok (.aload_n 0, 1) := by decide +kernel
theorem dX0_twist_16 : decode cX0_twist 16 = .ok (.getfield 9, 3) := by decide +kernel
theorem dX0_twist_19 : decode cX0_twist 19 = .ok (.iload_n 1, 1) := by decide +kernel
theorem dX0_twist_20 : decode cX0_twist 20 = .ok (.iaload, 1) := by decide +kernel
theorem dX0_twist_21 : decode cX0_twist 21 = .ok (.iconst (-1), 1) := by decide +kernel
theorem dX0_twist_22 : decode cX0_twist 22 = .ok (.if_icmp .eq 10, 3) := by decide +kernel
theorem dX0_twist_25 : decode cX0_twist 25 = .ok (.aload_n 0, 1) := by decide +kernel
theorem dX0_twist_26 : decode cX0_twist 26 = .ok (.getfield 41, 3) := by decide +kernel
theorem dX0_twist_29 : decode cX0_twist 29 = .ok (.goto 16, 3) := by decide +kernel
theorem dX0_twist_32 : decode cX0_twist 32 = .ok (.iconst 2, 1) := by decide +kernel
theorem dX0_twist_33 : decode cX0_twist 33 = .ok (.aload_n 0, 1) := by decide +kernel
theorem dX0_twist_34 : decode cX0_twist 34 = .ok (.getfield 31, 3) := by decide +kernel
theorem dX0_twist_37 : decode cX0_twist 37 = .ok (.imul, 1) := by decide +kernel
theorem dX0_twist_38 : decode cX0_twist 38 = .ok (.iconst 2, 1) := by decide +kernel
theorem dX0_twist_39 : decode cX0_twist 39 = .ok (.iadd, 1) := by decide +kernel
theorem dX0_twist_40 : decode cX0_twist 40 = .ok (.aload_n 0, 1) := by decide +kernel
theorem dX0_twist_41 : decode cX0_twist 41 = .ok (.getfield 41, 3) := by decide +kernel
theorem dX0_twist_44 : decode cX0_twist 44 = .ok (.isub, 1) := by decide +kernel
theorem dX0_twist_45 : decode cX0_twist 45 = .ok (.ireturn, 1) := by decide +kernel
theorem dX0_isPrime_0 : decode cX0_isPrime 0 = .ok (.iconst 2, 1) := by decide +kernel
theorem dX0_isPrime_1 : decode cX0_isPrime 1 = .ok (.istore_n 1, 1) := by decide +kernel
theorem dX0_isPrime_2 : decode cX0_isPrime 2 = .ok (.iload_n 1, 1) := by decide +kernel
theorem dX0_isPrime_3 : decode cX0_isPrime 3 = .ok (.iload_n 1, 1) := by decide +kernel
theorem dX0_isPrime_4 : decode cX0_isPrime 4 = .ok (.imul, 1) := by decide +kernel
theorem dX0_isPrime_5 : decode cX0_isPrime 5 = .ok (.iload_n 0, 1) := by decide +kernel
theorem dX0_isPrime_6 : decode cX0_isPrime 6 = .ok (.if_icmp .gt 17, 3) := by decide +kernel
theorem dX0_isPrime_9 : decode cX0_isPrime 9 = .ok (.iload_n 0, 1) := by decide +kernel
theorem dX0_isPrime_10 : decode cX0_isPrime 10 = .ok (.iload_n 1, 1) := by decide +kernel
theorem dX0_isPrime_11 : decode cX0_isPrime 11 = .ok (.irem, 1) := by decide +kernel
theorem dX0_isPrime_12 : decode cX0_isPrime 12 = .ok (.ifCond .ne 5, 3) := by decide +kernel
theorem dX0_isPrime_15 : decode cX0_isPrime 15 = .ok (.iconst 0, 1) := by decide +kernel
theorem dX0_isPrime_16 : decode cX0_isPrime 16 = .ok (.ireturn, 1) := by decide +kernel
theorem dX0_isPrime_17 : decode cX0_isPrime 17 = .ok (.iinc 1 1, 3) := by decide +kernel
theorem dX0_isPrime_20 : decode cX0_isPrime 20 = .ok (.goto (-18), 3) := by decide +kernel
theorem dX0_isPrime_23 : decode cX0_isPrime 23 = .ok (.iconst 1, 1) := by decide +kernel
theorem dX0_isPrime_24 : decode cX0_isPrime 24 = .ok (.ireturn, 1) := by decide +kernel
theorem dX0_isSingular_0 : decode cX0_isSingular 0 = .ok (.iload_n 1, 1) := by decide +kernel
theorem dX0_isSingular_1 : decode cX0_isSingular 1 = .ok (.iload_n 1, 1) := by decide +kernel
theorem dX0_isSingular_2 : decode cX0_isSingular 2 = .ok (.imul, 1) := by decide +kernel
theorem dX0_isSingular_3 : decode cX0_isSingular 3 = .ok (.iload_n 0, 1) := by decide +kernel
theorem dX0_isSingular_4 : decode cX0_isSingular 4 = .ok (.irem, 1) := by decide +kernel
theorem dX0_isSingular_5 : decode cX0_isSingular 5 = .ok (.iload_n 1, 1) := by decide +kernel
theorem dX0_isSingular_6 : decode cX0_isSingular 6 = .ok (.imul, 1) := by decide +kernel
theorem dX0_isSingular_7 : decode cX0_isSingular 7 = .ok (.iload_n 0, 1) := by decide +kernel
theorem dX0_isSingular_8 : decode cX0_isSingular 8 = .ok (.irem, 1) := by decide +kernel
theorem dX0_isSingular_9 : decode cX0_isSingular 9 = .ok (.istore_n 3, 1) := by decide +kernel
theorem dX0_isSingular_10 : decode cX0_isSingular 10 = .ok (.iload_n 2, 1) := by decide +kernel
theorem dX0_isSingular_11 : decode cX0_isSingular 11 = .ok (.iload_n 2, 1) := by decide +kernel
theorem dX0_isSingular_12 : decode cX0_isSingular 12 = .ok (.imul, 1) := by decide +kernel
theorem dX0_isSingular_13 : decode cX0_isSingular 13 = .ok (.iload_n 0, 1) := by decide +kernel
theorem dX0_isSingular_14 : decode cX0_isSingular 14 = .ok (.irem, 1) := by decide +kernel
theorem dX0_isSingular_15 : decode cX0_isSingular 15 = .ok (.istore 4, 2) := by decide +kernel
theorem dX0_isSingular_17 : decode cX0_isSingular 17 = .ok (.iconst 4, 1) := by decide +kernel
theorem dX0_isSingular_18 : decode cX0_isSingular 18 = .ok (.iload_n 3, 1) := by decide +kernel
theorem dX0_isSingular_19 : decode cX0_isSingular 19 = .ok (.imul, 1) := by decide +kernel
theorem dX0_isSingular_20 : decode cX0_isSingular 20 = .ok (.bipush 27, 2) := by decide +kernel
theorem dX0_isSingular_22 : decode cX0_isSingular 22 = .ok (.iload 4, 2) := by decide +kernel
theorem dX0_isSingular_24 : decode cX0_isSingular 24 = .ok (.imul, 1) := by decide +kernel
theorem dX0_isSingular_25 : decode cX0_isSingular 25 = .ok (.iadd, 1) := by decide +kernel
theorem dX0_isSingular_26 : decode cX0_isSingular 26 = .ok (.iload_n 0, 1) := by decide +kernel
theorem dX0_isSingular_27 : decode cX0_isSingular 27 = .ok (.irem, 1) := by decide +kernel
theorem dX0_isSingular_28 : decode cX0_isSingular 28 = .ok (.ifCond .ne 7, 3) := by decide +kernel
theorem dX0_isSingular_31 : decode cX0_isSingular 31 = .ok (.iconst 1, 1) := by decide +kernel
theorem dX0_isSingular_32 : decode cX0_isSingular 32 = .ok (.goto 4, 3) := by decide +kernel
theorem dX0_isSingular_35 : decode cX0_isSingular 35 = .ok (.iconst 0, 1) := by decide +kernel
theorem dX0_isSingular_36 : decode cX0_isSingular 36 = .ok (.ireturn, 1) := by decide +kernel
set_option maxRecDepth 20000 in
theorem ggX0_setPresent_X0_fillLesserRoots : GoodIn wsX0_setPresent wsX0_fillLesserRoots := goodIn_r _ [10, 1, 11, 12, 13, 14, 9, 15, 16, 17, 18, 19, 32, 33, 34, 35, 36, 37, 38] (by decide +kernel) (by decide +kernel)
set_option maxRecDepth 20000 in
theorem gX0_setPresent_X0_fillLesserRoots : GoodIn wsX0_setPresent (wsV RX0 89 RX0 yX0_fillLesserRoots wsX0_fillLesserRoots) := goodIn_app (goodIn_of _ (by decide +kernel)) ggX0_setPresent_X0_fillLesserRoots
set_option maxRecDepth 20000 in
theorem ggX0_setPresent_X0_fillPointsBefore : GoodIn wsX0_setPresent wsX0_fillPointsBefore := goodIn_r _ [23, 4, 1, 24, 25, 26, 9, 27, 2, 3, 12, 13, 14, 15, 16, 17, 18, 19, 28, 29, 30, 31, 11, 32, 33, 34, 35, 36, 37, 38] (by decide +kernel) (by decide +kernel)
set_option maxRecDepth 20000 in
theorem gX0_setPresent_X0_fillPointsBefore : GoodIn wsX0_setPresent (wsV RX0 92 RX0 yX0_fillPointsBefore wsX0_fillPointsBefore) := goodIn_app (goodIn_of _ (by decide +kernel)) ggX0_setPresent_X0_fillPointsBefore
theorem dX0_setPresent_0 : decode cX0_setPresent 0 = .ok (.aload_n 0, 1) := by decide +kernel
theorem dX0_setPresent_1 : decode cX0_setPresent 1 = .ok (.iload_n 1, 1) := by decide +kernel
theorem dX0_setPresent_2 : decode cX0_setPresent 2 = .ok (.putfield 31, 3) := by decide +kernel
theorem dX0_setPresent_5 : decode cX0_setPresent 5 = .ok (.aload_n 0, 1) := by decide +kernel
theorem dX0_setPresent_6 : decode cX0_setPresent 6 = .ok (.iload_n 2, 1) := by decide +kernel
theorem dX0_setPresent_7 : decode cX0_setPresent 7 = .ok (.putfield 35, 3) := by decide +kernel
theorem dX0_setPresent_10 : decode cX0_setPresent 10 = .ok (.aload_n 0, 1) := by decide +kernel
theorem dX0_setPresent_11 : decode cX0_setPresent 11 = .ok (.iload_n 3, 1) := by decide +kernel
theorem dX0_setPresent_12 : decode cX0_setPresent 12 = .ok (.putfield 38, 3) := by decide +kernel
theorem dX0_setPresent_15 : decode cX0_setPresent 15 = .ok (.aload_n 0, 1) := by decide +kernel
theorem dX0_setPresent_16 : decode cX0_setPresent 16 = .ok (.invokevirtual 89, 3) := by decide +kernel
theorem dX0_setPresent_19 : decode cX0_setPresent 19 = .ok (.aload_n 0, 1) := by decide +kernel
theorem dX0_setPresent_20 : decode cX0_setPresent 20 = .ok (.invokevirtual 92, 3) := by decide +kernel
theorem dX0_setPresent_23 : decode cX0_setPresent 23 = .ok (.aload_n 0, 1) := by decide +kernel
theorem dX0_setPresent_24 : decode cX0_setPresent 24 = .ok (.aload_n 0, 1) := by decide +kernel
theorem dX0_setPresent_25 : decode cX0_setPresent 25 = .ok (.getfield 13, 3) := by decide +kernel
theorem dX0_setPresent_28 : decode cX0_setPresent 28 = .ok (.aload_n 0, 1) := by decide +kernel
theorem dX0_setPresent_29 : decode cX0_setPresent 29 = .ok (.getfield 31, 3) := by decide +kernel
theorem dX0_setPresent_32 : decode cX0_setPresent 32 = .ok (.iaload, 1) := by decide +kernel
theorem dX0_setPresent_33 : decode cX0_setPresent 33 = .ok (.iconst 1, 1) := by decide +kernel
theorem dX0_setPresent_34 : decode cX0_setPresent 34 = .ok (.iadd, 1) := by decide +kernel
theorem dX0_setPresent_35 : decode cX0_setPresent 35 = .ok (.putfield 41, 3) := by decide +kernel
theorem dX0_setPresent_38 : decode cX0_setPresent 38 = .ok (.return_, 1) := by decide +kernel
set_option maxRecDepth 20000 in
theorem ggX0_fillLesserRoots_X0_modulo : GoodIn wsX0_fillLesserRoots wsX0_modulo := goodIn_r _ [7, 1, 8, 9, 10, 11, 12, 13, 14, 15, 16, 17, 18] (by decide +kernel) (by decide +kernel)
set_option maxRecDepth 20000 in
theorem gX0_fillLesserRoots_X0_modulo : GoodIn wsX0_fillLesserRoots (wsV RX0 80 RX0 yX0_modulo wsX0_modulo) := goodIn_app (goodIn_of _ (by decide +kernel)) ggX0_fillLesserRoots_X0_modulo
theorem dX0_fillLesserRoots_0 : decode cX0_fillLesserRoots 0 = .ok (.iconst 0, 1) := by decide +kernel
theorem dX0_fillLesserRoots_1 : decode cX0_fillLesserRoots 1 = .ok (.istore_n 1, 1) := by decide +kernel
theorem dX0_fillLesserRoots_2 : decode cX0_fillLesserRoots 2 = .ok (.iload_n 1, 1) := by decide +kernel
theorem dX0_fillLesserRoots_3 : decode cX0_fillLesserRoots 3 = .ok (.aload_n 0, 1) := by decide +kernel
theorem dX0_fillLesserRoots_4 : decode cX0_fillLesserRoots 4 = .ok (.getfield 31, 3) := by decide +kernel
theorem dX0_fillLesserRoots_7 : decode cX0_fillLesserRoots 7 = .ok (.if_icmp .ge 16, 3) := by decide +kernel
theorem dX0_fillLesserRoots_10 : decode cX0_fillLesserRoots 10 = .ok (.aload_n 0, 1) := by decide +kernel
theorem dX0_fillLesserRoots_11 : decode cX0_fillLesserRoots 11 = .ok (.getfield 9, 3) := by decide +kernel
theorem dX0_fillLesserRoots_14 : decode cX0_fillLesserRoots 14 = .ok (.iload_n 1, 1) := by decide +kernel
theorem dX0_fillLesserRoots_15 : decode cX0_fillLesserRoots 15 = .ok (.iconst (-1), 1) := by decide +kernel
theorem dX0_fillLesserRoots_16 : decode cX0_fillLesserRoots 16 = .ok (.iastore, 1) := by decide +kernel
theorem dX0_fillLesserRoots_17 : decode cX0_fillLesserRoots 17 = .ok (.iinc 1 1, 3) := by decide +kernel
theorem dX0_fillLesserRoots_20 : decode cX0_fillLesserRoots 20 = .ok (.goto (-18), 3) := by decide +kernel
theorem dX0_fillLesserRoots_23 : decode cX0_fillLesserRoots 23 = .ok (.iconst 0, 1) := by decide +kernel
theorem dX0_fillLesserRoots_24 : decode cX0_fillLesserRoots 24 = .ok (.istore_n 1, 1) := by decide +kernel
theorem dX0_fillLesserRoots_25 : decode cX0_fillLesserRoots 25 = .ok (.iload_n 1, 1) := by decide +kernel
theorem dX0_fillLesserRoots_26 : decode cX0_fillLesserRoots 26 = .ok (.aload_n 0, 1) := by decide +kernel
theorem dX0_fillLesserRoots_27 : decode cX0_fillLesserRoots 27 = .ok (.getfield 31, 3) := by decide +kernel
theorem dX0_fillLesserRoots_30 : decode cX0_fillLesserRoots 30 = .ok (.iconst 2, 1) := by decide +kernel
theorem dX0_fillLesserRoots_31 : decode cX0_fillLesserRoots 31 = .ok (.idiv, 1) := by decide +kernel
theorem dX0_fillLesserRoots_32 : decode cX0_fillLesserRoots 32 = .ok (.if_icmp .gt 22, 3) := by decide +kernel
theorem dX0_fillLesserRoots_35 : decode cX0_fillLesserRoots 35 = .ok (.aload_n 0, 1) := by decide +kernel
theorem dX0_fillLesserRoots_36 : decode cX0_fillLesserRoots 36 = .ok (.getfield 9, 3) := by decide +kernel
theorem dX0_fillLesserRoots_39 : decode cX0_fillLesserRoots 39 = .ok (.aload_n 0, 1) := by decide +kernel
theorem dX0_fillLesserRoots_40 : decode cX0_fillLesserRoots 40 = .ok (.iload_n 1, 1) := by decide +kernel
theorem dX0_fillLesserRoots_41 : decode cX0_fillLesserRoots 41 = .ok (.iload_n 1, 1) := by decide +kernel
theorem dX0_fillLesserRoots_42 : decode cX0_fillLesserRoots 42 = .ok (.imul, 1) := by decide +kernel
theorem dX0_fillLesserRoots_43 : decode cX0_fillLesserRoots 43 = .ok (.invokevirtual 80, 3) := by decide +kernel
theorem dX0_fillLesserRoots_46 : decode cX0_fillLesserRoots 46 = .ok (.iload_n 1, 1) := by decide +kernel
theorem dX0_fillLesserRoots_47 : decode cX0_fillLesserRoots 47 = .ok (.iastore, 1) := by decide +kernel
theorem dX0_fillLesserRoots_48 : decode cX0_fillLesserRoots 48 = .ok (.iinc 1 1, 3) := by decide +kernel
theorem dX0_fillLesserRoots_51 : decode cX0_fillLesserRoots 51 = .ok (.goto (-26), 3) := by decide +kernel
theorem dX0_fillLesserRoots_54 : decode cX0_fillLesserRoots 54 = .ok (.return_, 1) := by decide +kernel
set_option maxRecDepth 20000 in
theorem ggX0_fillPointsBefore_X0_rightSide : GoodIn wsX0_fillPointsBefore wsX0_rightSide := goodIn_r _ [7, 8, 9, 10, 11, 12, 6, 13, 2, 14, 15, 16, 17, 23, 24, 25, 26, 27, 28, 29] (by decide +kernel) (by decide +kernel)
set_option maxRecDepth 20000 in
theorem gX0_fillPointsBefore_X0_rightSide : GoodIn wsX0_fillPointsBefore (wsV RX0 57 RX0 yX0_rightSide wsX0_rightSide) := goodIn_app (goodIn_of _ (by decide +kernel)) ggX0_fillPointsBefore_X0_rightSide
set_option maxRecDepth 20000 in
theorem ggX0_fillPointsBefore_X0_rootCount : GoodIn wsX0_fillPointsBefore wsX0_rootCount := goodIn_r _ [21, 22, 23, 24, 25, 26, 27, 28, 29] (by decide +kernel) (by decide +kernel)
set_option maxRecDepth 20000 in
theorem gX0_fillPointsBefore_X0_rootCount : GoodIn wsX0_fillPointsBefore (wsV RX0 95 RX0 yX0_rootCount wsX0_rootCount) := goodIn_app (goodIn_of _ (by decide +kernel)) ggX0_fillPointsBefore_X0_rootCount
theorem dX0_fillPointsBefore_0 : decode cX0_fillPointsBefore 0 = .ok (.aload_n 0, 1) := by decide +kernel
theorem dX0_fillPointsBefore_1 : decode cX0_fillPointsBefore 1 = .ok (.getfield 13, 3) := by decide +kernel
theorem dX0_fillPointsBefore_4 : decode cX0_fillPointsBefore 4 = .ok (.iconst 0, 1) := by decide +kernel
theorem dX0_fillPointsBefore_5 : decode cX0_fillPointsBefore 5 = .ok (.iconst 0, 1) := by decide +kernel
theorem dX0_fillPointsBefore_6 : decode cX0_fillPointsBefore 6 = .ok (.iastore, 1) := by decide +kernel
theorem dX0_fillPointsBefore_7 : decode cX0_fillPointsBefore 7 = .ok (.iconst 0, 1) := by decide +kernel
theorem dX0_fillPointsBefore_8 : decode cX0_fillPointsBefore 8 = .ok (.istore_n 1, 1) := by decide +kernel
theorem dX0_fillPointsBefore_9 : decode cX0_fillPointsBefore 9 = .ok (.iload_n 1, 1) := by decide +kernel
theorem dX0_fillPointsBefore_10 : decode cX0_fillPointsBefore 10 = .ok (.aload_n 0, 1) := by decide +kernel
theorem dX0_fillPointsBefore_11 : decode cX0_fillPointsBefore 11 = .ok (.getfield 31, 3) := by decide +kernel
theorem dX0_fillPointsBefore_14 : decode cX0_fillPointsBefore 14 = .ok (.if_icmp .ge 33, 3) := by decide +kernel
theorem dX0_fillPointsBefore_17 : decode cX0_fillPointsBefore 17 = .ok (.aload_n 0, 1) := by decide +kernel
theorem dX0_fillPointsBefore_18 : decode cX0_fillPointsBefore 18 = .ok (.getfield 13, 3) := by decide +kernel
theorem dX0_fillPointsBefore_21 : decode cX0_fillPointsBefore 21 = .ok (.iload_n 1, 1) := by decide +kernel
theorem dX0_fillPointsBefore_22 : decode cX0_fillPointsBefore 22 = .ok (.iconst 1, 1) := by decide +kernel
theorem dX0_fillPointsBefore_23 : decode cX0_fillPointsBefore 23 = .ok (.iadd, 1) := by decide +kernel
theorem dX0_fillPointsBefore_24 : decode cX0_fillPointsBefore 24 = .ok (.aload_n 0, 1) := by decide +kernel
theorem dX0_fillPointsBefore_25 : decode cX0_fillPointsBefore 25 = .ok (.getfield 13, 3) := by decide +kernel
theorem dX0_fillPointsBefore_28 : decode cX0_fillPointsBefore 28 = .ok (.iload_n 1, 1) := by decide +kernel
theorem dX0_fillPointsBefore_29 : decode cX0_fillPointsBefore 29 = .ok (.iaload, 1) := by decide +kernel
theorem dX0_fillPointsBefore_30 : decode cX0_fillPointsBefore 30 = .ok (.aload_n 0, 1) := by decide +kernel
theorem dX0_fillPointsBefore_31 : decode cX0_fillPointsBefore 31 = .ok (.aload_n 0, 1) := by decide +kernel
theorem dX0_fillPointsBefore_32 : decode cX0_fillPointsBefore 32 = .ok (.iload_n 1, 1) := by decide +kernel
theorem dX0_fillPointsBefore_33 : decode cX0_fillPointsBefore 33 = .ok (.invokevirtual 57, 3) := by decide +kernel
theorem dX0_fillPointsBefore_36 : decode cX0_fillPointsBefore 36 = .ok (.invokevirtual 95, 3) := by decide +kernel
theorem dX0_fillPointsBefore_39 : decode cX0_fillPointsBefore 39 = .ok (.iadd, 1) := by decide +kernel
theorem dX0_fillPointsBefore_40 : decode cX0_fillPointsBefore 40 = .ok (.iastore, 1) := by decide +kernel
theorem dX0_fillPointsBefore_41 : decode cX0_fillPointsBefore 41 = .ok (.iinc 1 1, 3) := by decide +kernel
theorem dX0_fillPointsBefore_44 : decode cX0_fillPointsBefore 44 = .ok (.goto (-35), 3) := by decide +kernel
theorem dX0_fillPointsBefore_47 : decode cX0_fillPointsBefore 47 = .ok (.return_, 1) := by decide +kernel
theorem dX0_rootCount_0 : decode cX0_rootCount 0 = .ok (.iload_n 1, 1) := by decide +kernel
theorem dX0_rootCount_1 : decode cX0_rootCount 1 = .ok (.ifCond .ne 5, 3) := by decide +kernel
theorem dX0_rootCount_4 : decode cX0_rootCount 4 = .ok (.iconst 1, 1) := by decide +kernel
theorem dX0_rootCount_5 : decode cX0_rootCount 5 = .ok (.ireturn, 1) := by decide +kernel
theorem dX0_rootCount_6 : decode cX0_rootCount 6 = .ok (.aload_n 0, 1) := by decide +kernel
theorem dX0_rootCount_7 : decode cX0_rootCount 7 = .ok (.getfield 9, 3) := by decide +kernel
theorem dX0_rootCount_10 : decode cX0_rootCount 10 = .ok (.iload_n 1, 1) := by decide +kernel
theorem dX0_rootCount_11 : decode cX0_rootCount 11 = .ok (.iaload, 1) := by decide +kernel
theorem dX0_rootCount_12 : decode cX0_rootCount 12 = .ok (.iconst (-1), 1) := by decide +kernel
theorem dX0_rootCount_13 : decode cX0_rootCount 13 = .ok (.if_icmp .ne 7, 3) := by decide +kernel
theorem dX0_rootCount_16 : decode cX0_rootCount 16 = .ok (.iconst 0, 1) := by decide +kernel
theorem dX0_rootCount_17 : decode cX0_rootCount 17 = .ok (.goto 4, 3) := by decide +kernel
theorem dX0_rootCount_20 : decode cX0_rootCount 20 = .ok (.iconst 2, 1) := by decide +kernel
theorem dX0_rootCount_21 : decode cX0_rootCount 21 = .ok (.ireturn, 1) := by decide +kernel
theorem dX0_xOfPoint_0 : decode cX0_xOfPoint 0 = .ok (.iconst 0, 1) := by decide +kernel
theorem dX0_xOfPoint_1 : decode cX0_xOfPoint 1 = .ok (.istore_n 2, 1) := by decide +kernel
theorem dX0_xOfPoint_2 : decode cX0_xOfPoint 2 = .ok (.sipush 4096, 3) := by decide +kernel
theorem dX0_xOfPoint_5 : decode cX0_xOfPoint 5 = .ok (.istore_n 3, 1) := by decide +kernel
theorem dX0_xOfPoint_6 : decode cX0_xOfPoint 6 = .ok (.iload_n 3, 1) := by decide +kernel
theorem dX0_xOfPoint_7 : decode cX0_xOfPoint 7 = .ok (.ifCond .le 36, 3) := by decide +kernel
theorem dX0_xOfPoint_10 : decode cX0_xOfPoint 10 = .ok (.iload_n 2, 1) := by decide +kernel
theorem dX0_xOfPoint_11 : decode cX0_xOfPoint 11 = .ok (.iload_n 3, 1) := by decide +kernel
theorem dX0_xOfPoint_12 : decode cX0_xOfPoint 12 = .ok (.iadd, 1) := by decide +kernel
theorem dX0_xOfPoint_13 : decode cX0_xOfPoint 13 = .ok (.aload_n 0, 1) := by decide +kernel
theorem dX0_xOfPoint_14 : decode cX0_xOfPoint 14 = .ok (.getfield 31, 3) := by decide +kernel
theorem dX0_xOfPoint_17 : decode cX0_xOfPoint 17 = .ok (.if_icmp .ge 19, 3) := by decide +kernel
theorem dX0_xOfPoint_20 : decode cX0_xOfPoint 20 = .ok (.aload_n 0, 1) := by decide +kernel
theorem dX0_xOfPoint_21 : decode cX0_xOfPoint 21 = .ok (.getfield 13, 3) := by decide +kernel
theorem dX0_xOfPoint_24 : decode cX0_xOfPoint 24 = .ok (.iload_n 2, 1) := by decide +kernel
theorem dX0_xOfPoint_25 : decode cX0_xOfPoint 25 = .ok (.iload_n 3, 1) := by decide +kernel
theorem dX0_xOfPoint_26 : decode cX0_xOfPoint 26 = .ok (.iadd, 1) := by decide +kernel
theorem dX0_xOfPoint_27 : decode cX0_xOfPoint 27 = .ok (.iaload, 1) := by decide +kernel
theorem dX0_xOfPoint_28 : decode cX0_xOfPoint 28 = .ok (.iload_n 1, 1) := by decide +kernel
theorem dX0_xOfPoint_29 : decode cX0_xOfPoint 29 = .ok (.if_icmp .gt 7, 3) := by decide +kernel
theorem dX0_xOfPoint_32 : decode cX0_xOfPoint 32 = .ok (.iload_n 2, 1) := by decide +kernel
theorem dX0_xOfPoint_33 : decode cX0_xOfPoint 33 = .ok (.iload_n 3, 1) := by decide +kernel
theorem dX0_xOfPoint_34 : decode cX0_xOfPoint 34 = .ok (.iadd, 1) := by decide +kernel
theorem dX0_xOfPoint_35 : decode cX0_xOfPoint 35 = .ok (.istore_n 2, 1) := by decide +kernel
theorem dX0_xOfPoint_36 : decode cX0_xOfPoint 36 = .ok (.iload_n 3, 1) := by decide +kernel
theorem dX0_xOfPoint_37 : decode cX0_xOfPoint 37 = .ok (.iconst 1, 1) := by decide +kernel
theorem dX0_xOfPoint_38 : decode cX0_xOfPoint 38 = .ok (.ishr, 1) := by decide +kernel
theorem dX0_xOfPoint_39 : decode cX0_xOfPoint 39 = .ok (.istore_n 3, 1) := by decide +kernel
theorem dX0_xOfPoint_40 : decode cX0_xOfPoint 40 = .ok (.goto (-34), 3) := by decide +kernel
theorem dX0_xOfPoint_43 : decode cX0_xOfPoint 43 = .ok (.iload_n 2, 1) := by decide +kernel
theorem dX0_xOfPoint_44 : decode cX0_xOfPoint 44 = .ok (.ireturn, 1) := by decide +kernel
theorem dX0_isNumber_0 : decode cX0_isNumber 0 = .ok (.iload_n 1, 1) := by decide +kernel
theorem dX0_isNumber_1 : decode cX0_isNumber 1 = .ok (.ifCond .lt 15, 3) := by decide +kernel
theorem dX0_isNumber_4 : decode cX0_isNumber 4 = .ok (.iload_n 1, 1) := by decide +kernel
theorem dX0_isNumber_5 : decode cX0_isNumber 5 = .ok (.aload_n 0, 1) := by decide +kernel
theorem dX0_isNumber_6 : decode cX0_isNumber 6 = .ok (.getfield 31, 3) := by decide +kernel
theorem dX0_isNumber_9 : decode cX0_isNumber 9 = .ok (.if_icmp .ge 7, 3) := by decide +kernel
theorem dX0_isNumber_12 : decode cX0_isNumber 12 = .ok (.iconst 1, 1) := by decide +kernel
theorem dX0_isNumber_13 : decode cX0_isNumber 13 = .ok (.goto 4, 3) := by decide +kernel
theorem dX0_isNumber_16 : decode cX0_isNumber 16 = .ok (.iconst 0, 1) := by decide +kernel
theorem dX0_isNumber_17 : decode cX0_isNumber 17 = .ok (.ireturn, 1) := by decide +kernel
set_option maxRecDepth 20000 in
theorem ggX0_isPoint_X0_xOf : GoodIn wsX0_isPoint wsX0_xOf := goodIn_r _ [4] (by decide +kernel) (by decide +kernel)
set_option maxRecDepth 20000 in
theorem gX0_isPoint_X0_xOf : GoodIn wsX0_isPoint (va_wsS RX0 98 yX0_xOf wsX0_xOf) := goodIn_app (goodIn_of _ (by decide +kernel)) ggX0_isPoint_X0_xOf
set_option maxRecDepth 20000 in
theorem ggX0_isPoint_X0_yOf : GoodIn wsX0_isPoint wsX0_yOf := goodIn_r _ [7] (by decide +kernel) (by decide +kernel)
set_option maxRecDepth 20000 in
theorem gX0_isPoint_X0_yOf : GoodIn wsX0_isPoint (va_wsS RX0 101 yX0_yOf wsX0_yOf) := goodIn_app (goodIn_of _ (by decide +kernel)) ggX0_isPoint_X0_yOf
set_option maxRecDepth 20000 in
theorem ggX0_isPoint_X0_isNumber : GoodIn wsX0_isPoint wsX0_isNumber := goodIn_r _ [11, 12, 27, 28, 29, 30, 31, 32, 33] (by decide +kernel) (by decide +kernel)
set_option maxRecDepth 20000 in
theorem gX0_isPoint_X0_isNumber : GoodIn wsX0_isPoint (wsV RX0 50 RX0 yX0_isNumber wsX0_isNumber) := goodIn_app (goodIn_of _ (by decide +kernel)) ggX0_isPoint_X0_isNumber
set_option maxRecDepth 20000 in
theorem ggX0_isPoint_X0_modulo : GoodIn wsX0_isPoint wsX0_modulo := goodIn_r _ [16, 12, 17, 18, 19, 20, 27, 28, 29, 30, 31, 32, 33] (by decide +kernel) (by decide +kernel)
set_option maxRecDepth 20000 in
theorem gX0_isPoint_X0_modulo : GoodIn wsX0_isPoint (wsV RX0 80 RX0 yX0_modulo wsX0_modulo) := goodIn_app (goodIn_of _ (by decide +kernel)) ggX0_isPoint_X0_modulo
set_option maxRecDepth 20000 in
theorem ggX0_isPoint_X0_rightSide : GoodIn wsX0_isPoint wsX0_rightSide := goodIn_r _ [24, 25, 26, 13, 14, 15, 3, 16, 12, 17, 18, 19, 20, 27, 28, 29, 30, 31, 32, 33] (by decide +kernel) (by decide +kernel)
set_option maxRecDepth 20000 in
theorem gX0_isPoint_X0_rightSide : GoodIn wsX0_isPoint (wsV RX0 57 RX0 yX0_rightSide wsX0_rightSide) := goodIn_app (goodIn_of _ (by decide +kernel)) ggX0_isPoint_X0_rightSide
theorem dX0_isPoint_0 : decode cX0_isPoint 0 = .ok (.iload_n 1, 1) := by decide +kernel
theorem dX0_isPoint_1 : decode cX0_isPoint 1 = .ok (.ifCond .ge 14, 3) := by decide +kernel
theorem dX0_isPoint_4 : decode cX0_isPoint 4 = .ok (.iload_n 1, 1) := by decide +kernel
theorem dX0_isPoint_5 : decode cX0_isPoint 5 = .ok (.iconst (-1), 1) := by decide +kernel
theorem dX0_isPoint_6 : decode cX0_isPoint 6 = .ok (.if_icmp .ne 7, 3) := by decide +kernel
theorem dX0_isPoint_9 : decode cX0_isPoint 9 = .ok (.iconst 1, 1) := by decide +kernel
theorem dX0_isPoint_10 : decode cX0_isPoint 10 = .ok (.goto 4, 3) := by decide +kernel
theorem dX0_isPoint_13 : decode cX0_isPoint 13 = .ok (.iconst 0, 1) := by decide +kernel
theorem dX0_isPoint_14 : decode cX0_isPoint 14 = .ok (.ireturn, 1) := by decide +kernel
theorem dX0_isPoint_15 : decode cX0_isPoint 15 = .ok (.iload_n 1, 1) := by decide +kernel
theorem dX0_isPoint_16 : decode cX0_isPoint 16 = .ok (.invokestatic 98, 3) := by decide +kernel
theorem dX0_isPoint_19 : decode cX0_isPoint 19 = .ok (.istore_n 2, 1) := by decide +kernel
theorem dX0_isPoint_20 : decode cX0_isPoint 20 = .ok (.iload_n 1, 1) := by decide +kernel
theorem dX0_isPoint_21 : decode cX0_isPoint 21 = .ok (.invokestatic 101, 3) := by decide +kernel
theorem dX0_isPoint_24 : decode cX0_isPoint 24 = .ok (.istore_n 3, 1) := by decide +kernel
theorem dX0_isPoint_25 : decode cX0_isPoint 25 = .ok (.aload_n 0, 1) := by decide +kernel
theorem dX0_isPoint_26 : decode cX0_isPoint 26 = .ok (.iload_n 2, 1) := by decide +kernel
theorem dX0_isPoint_27 : decode cX0_isPoint 27 = .ok (.invokevirtual 50, 3) := by decide +kernel
theorem dX0_isPoint_30 : decode cX0_isPoint 30 = .ok (.ifCond .eq 30, 3) := by decide +kernel
theorem dX0_isPoint_33 : decode cX0_isPoint 33 = .ok (.aload_n 0, 1) := by decide +kernel
theorem dX0_isPoint_34 : decode cX0_isPoint 34 = .ok (.iload_n 3, 1) := by decide +kernel
theorem dX0_isPoint_35 : decode cX0_isPoint 35 = .ok (.invokevirtual 50, 3) := by decide +kernel
theorem dX0_isPoint_38 : decode cX0_isPoint 38 = .ok (.ifCond .eq 22, 3) := by decide +kernel
theorem dX0_isPoint_41 : decode cX0_isPoint 41 = .ok (.aload_n 0, 1) := by decide +kernel
theorem dX0_isPoint_42 : decode cX0_isPoint 42 = .ok (.iload_n 3, 1) := by decide +kernel
theorem dX0_isPoint_43 : decode cX0_isPoint 43 = .ok (.iload_n 3, 1) := by decide +kernel
theorem dX0_isPoint_44 : decode cX0_isPoint 44 = .ok (.imul, 1) := by decide +kernel
theorem dX0_isPoint_45 : decode cX0_isPoint 45 = .ok (.invokevirtual 80, 3) := by decide +kernel
theorem dX0_isPoint_48 : decode cX0_isPoint 48 = .ok (.aload_n 0, 1) := by decide +kernel
theorem dX0_isPoint_49 : decode cX0_isPoint 49 = .ok (.iload_n 2, 1) := by decide +kernel
theorem dX0_isPoint_50 : decode cX0_isPoint 50 = .ok (.invokevirtual 57, 3) := by decide +kernel
theorem dX0_isPoint_53 : decode cX0_isPoint 53 = .ok (.if_icmp .ne 7, 3) := by decide +kernel
theorem dX0_isPoint_56 : decode cX0_isPoint 56 = .ok (.iconst 1, 1) := by decide +kernel
theorem dX0_isPoint_57 : decode cX0_isPoint 57 = .ok (.goto 4, 3) := by decide +kernel
theorem dX0_isPoint_60 : decode cX0_isPoint 60 = .ok (.iconst 0, 1) := by decide +kernel
theorem dX0_isPoint_61 : decode cX0_isPoint 61 = .ok (.ireturn, 1) := by decide +kernel
theorem dX0_pack_0 : decode cX0_pack 0 = .ok (.iload_n 0, 1) := by decide +kernel
theorem dX0_pack_1 : decode cX0_pack 1 = .ok (.bipush 12, 2) := by decide +kernel
theorem dX0_pack_3 : decode cX0_pack 3 = .ok (.ishl, 1) := by decide +kernel
theorem dX0_pack_4 : decode cX0_pack 4 = .ok (.iload_n 1, 1) := by decide +kernel
theorem dX0_pack_5 : decode cX0_pack 5 = .ok (.iadd, 1) := by decide +kernel
theorem dX0_pack_6 : decode cX0_pack 6 = .ok (.ireturn, 1) := by decide +kernel
theorem dX0_xOf_0 : decode cX0_xOf 0 = .ok (.iload_n 0, 1) := by decide +kernel
theorem dX0_xOf_1 : decode cX0_xOf 1 = .ok (.bipush 12, 2) := by decide +kernel
theorem dX0_xOf_3 : decode cX0_xOf 3 = .ok (.ishr, 1) := by decide +kernel
theorem dX0_xOf_4 : decode cX0_xOf 4 = .ok (.ireturn, 1) := by decide +kernel
theorem dX0_yOf_0 : decode cX0_yOf 0 = .ok (.iload_n 0, 1) := by decide +kernel
theorem dX0_yOf_1 : decode cX0_yOf 1 = .ok (.sipush 4095, 3) := by decide +kernel
theorem dX0_yOf_4 : decode cX0_yOf 4 = .ok (.iand, 1) := by decide +kernel
theorem dX0_yOf_5 : decode cX0_yOf 5 = .ok (.ireturn, 1) := by decide +kernel
set_option maxRecDepth 20000 in
theorem ggX0_modulo_J9_floorMod_7cf53 : GoodIn wsX0_modulo wsJ9_floorMod_7cf53 := goodIn_r _ [5] (by decide +kernel) (by decide +kernel)
set_option maxRecDepth 20000 in
theorem gX0_modulo_J9_floorMod_7cf53 : GoodIn wsX0_modulo (va_wsS RX0 44 yJ9_floorMod_7cf53 wsJ9_floorMod_7cf53) := goodIn_app (goodIn_of _ (by decide +kernel)) ggX0_modulo_J9_floorMod_7cf53
theorem dX0_modulo_0 : decode cX0_modulo 0 = .ok (.iload_n 1, 1) := by decide +kernel
theorem dX0_modulo_1 : decode cX0_modulo 1 = .ok (.aload_n 0, 1) := by decide +kernel
theorem dX0_modulo_2 : decode cX0_modulo 2 = .ok (.getfield 31, 3) := by decide +kernel
theorem dX0_modulo_5 : decode cX0_modulo 5 = .ok (.invokestatic 44, 3) := by decide +kernel
theorem dX0_modulo_8 : decode cX0_modulo 8 = .ok (.ireturn, 1) := by decide +kernel
set_option maxRecDepth 20000 in
theorem ggX0_rightSide_X0_modulo : GoodIn wsX0_rightSide wsX0_modulo := goodIn_r _ [7, 8, 9, 10, 11, 12, 13, 14, 15, 16, 17, 18, 19] (by decide +kernel) (by decide +kernel)
set_option maxRecDepth 20000 in
theorem gX0_rightSide_X0_modulo : GoodIn wsX0_rightSide (wsV RX0 80 RX0 yX0_modulo wsX0_modulo) := goodIn_app (goodIn_of _ (by decide +kernel)) ggX0_rightSide_X0_modulo
theorem dX0_rightSide_0 : decode cX0_rightSide 0 = .ok (.aload_n 0, 1) := by decide +kernel
theorem dX0_rightSide_1 : decode cX0_rightSide 1 = .ok (.aload_n 0, 1) := by decide +kernel
