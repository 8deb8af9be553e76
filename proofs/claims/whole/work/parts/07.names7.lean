theorem dX0_rightSide_2 : decode cX0_rightSide 2 = .ok (.iload_n 1, 1) := by decide +kernel
theorem dX0_rightSide_3 : decode cX0_rightSide 3 = .ok (.iload_n 1, 1) := by decide +kernel
theorem dX0_rightSide_4 : decode cX0_rightSide 4 = .ok (.imul, 1) := by decide +kernel
theorem dX0_rightSide_5 : decode cX0_rightSide 5 = .ok (.aload_n 0, 1) := by decide +kernel
theorem dX0_rightSide_6 : decode cX0_rightSide 6 = .ok (.getfield 35, 3) := by decide +kernel
theorem dX0_rightSide_9 : decode cX0_rightSide 9 = .ok (.iadd, 1) := by decide +kernel
theorem dX0_rightSide_10 : decode cX0_rightSide 10 = .ok (.invokevirtual 80, 3) := by decide +kernel
theorem dX0_rightSide_13 : decode cX0_rightSide 13 = .ok (.iload_n 1, 1) := by decide +kernel
theorem dX0_rightSide_14 : decode cX0_rightSide 14 = .ok (.imul, 1) := by decide +kernel
theorem dX0_rightSide_15 : decode cX0_rightSide 15 = .ok (.aload_n 0, 1) := by decide +kernel
theorem dX0_rightSide_16 : decode cX0_rightSide 16 = .ok (.getfield 38, 3) := by decide +kernel
theorem dX0_rightSide_19 : decode cX0_rightSide 19 = .ok (.iadd, 1) := by decide +kernel
theorem dX0_rightSide_20 : decode cX0_rightSide 20 = .ok (.invokevirtual 80, 3) := by decide +kernel
theorem dX0_rightSide_23 : decode cX0_rightSide 23 = .ok (.ireturn, 1) := by decide +kernel
set_option maxRecDepth 20000 in
theorem ggX0_inverse_X0_modulo : GoodIn wsX0_inverse wsX0_modulo := goodIn_r _ [6, 1, 7, 8, 9, 10, 11, 12, 13, 14, 15, 16, 17] (by decide +kernel) (by decide +kernel)
set_option maxRecDepth 20000 in
theorem gX0_inverse_X0_modulo : GoodIn wsX0_inverse (wsV RX0 80 RX0 yX0_modulo wsX0_modulo) := goodIn_app (goodIn_of _ (by decide +kernel)) ggX0_inverse_X0_modulo
theorem dX0_inverse_0 : decode cX0_inverse 0 = .ok (.iconst 1, 1) := by decide +kernel
theorem dX0_inverse_1 : decode cX0_inverse 1 = .ok (.istore_n 2, 1) := by decide +kernel
theorem dX0_inverse_2 : decode cX0_inverse 2 = .ok (.iload_n 1, 1) := by decide +kernel
theorem dX0_inverse_3 : decode cX0_inverse 3 = .ok (.istore_n 3, 1) := by decide +kernel
theorem dX0_inverse_4 : decode cX0_inverse 4 = .ok (.aload_n 0, 1) := by decide +kernel
theorem dX0_inverse_5 : decode cX0_inverse 5 = .ok (.getfield 31, 3) := by decide +kernel
theorem dX0_inverse_8 : decode cX0_inverse 8 = .ok (.iconst 2, 1) := by decide +kernel
theorem dX0_inverse_9 : decode cX0_inverse 9 = .ok (.isub, 1) := by decide +kernel
theorem dX0_inverse_10 : decode cX0_inverse 10 = .ok (.istore 4, 2) := by decide +kernel
theorem dX0_inverse_12 : decode cX0_inverse 12 = .ok (.iload 4, 2) := by decide +kernel
theorem dX0_inverse_14 : decode cX0_inverse 14 = .ok (.ifCond .le 36, 3) := by decide +kernel
theorem dX0_inverse_17 : decode cX0_inverse 17 = .ok (.iload 4, 2) := by decide +kernel
theorem dX0_inverse_19 : decode cX0_inverse 19 = .ok (.iconst 1, 1) := by decide +kernel
theorem dX0_inverse_20 : decode cX0_inverse 20 = .ok (.iand, 1) := by decide +kernel
theorem dX0_inverse_21 : decode cX0_inverse 21 = .ok (.iconst 1, 1) := by decide +kernel
theorem dX0_inverse_22 : decode cX0_inverse 22 = .ok (.if_icmp .ne 11, 3) := by decide +kernel
theorem dX0_inverse_25 : decode cX0_inverse 25 = .ok (.aload_n 0, 1) := by decide +kernel
theorem dX0_inverse_26 : decode cX0_inverse 26 = .ok (.iload_n 2, 1) := by decide +kernel
theorem dX0_inverse_27 : decode cX0_inverse 27 = .ok (.iload_n 3, 1) := by decide +kernel
theorem dX0_inverse_28 : decode cX0_inverse 28 = .ok (.imul, 1) := by decide +kernel
theorem dX0_inverse_29 : decode cX0_inverse 29 = .ok (.invokevirtual 80, 3) := by decide +kernel
theorem dX0_inverse_32 : decode cX0_inverse 32 = .ok (.istore_n 2, 1) := by decide +kernel
theorem dX0_inverse_33 : decode cX0_inverse 33 = .ok (.aload_n 0, 1) := by decide +kernel
theorem dX0_inverse_34 : decode cX0_inverse 34 = .ok (.iload_n 3, 1) := by decide +kernel
theorem dX0_inverse_35 : decode cX0_inverse 35 = .ok (.iload_n 3, 1) := by decide +kernel
theorem dX0_inverse_36 : decode cX0_inverse 36 = .ok (.imul, 1) := by decide +kernel
theorem dX0_inverse_37 : decode cX0_inverse 37 = .ok (.invokevirtual 80, 3) := by decide +kernel
theorem dX0_inverse_40 : decode cX0_inverse 40 = .ok (.istore_n 3, 1) := by decide +kernel
theorem dX0_inverse_41 : decode cX0_inverse 41 = .ok (.iload 4, 2) := by decide +kernel
theorem dX0_inverse_43 : decode cX0_inverse 43 = .ok (.iconst 1, 1) := by decide +kernel
theorem dX0_inverse_44 : decode cX0_inverse 44 = .ok (.ishr, 1) := by decide +kernel
theorem dX0_inverse_45 : decode cX0_inverse 45 = .ok (.istore 4, 2) := by decide +kernel
theorem dX0_inverse_47 : decode cX0_inverse 47 = .ok (.goto (-35), 3) := by decide +kernel
theorem dX0_inverse_50 : decode cX0_inverse 50 = .ok (.iload_n 2, 1) := by decide +kernel
theorem dX0_inverse_51 : decode cX0_inverse 51 = .ok (.ireturn, 1) := by decide +kernel
set_option maxRecDepth 20000 in
theorem ggX0_opposite_X0_yOf : GoodIn wsX0_opposite wsX0_yOf := goodIn_r _ [5] (by decide +kernel) (by decide +kernel)
set_option maxRecDepth 20000 in
theorem gX0_opposite_X0_yOf : GoodIn wsX0_opposite (va_wsS RX0 101 yX0_yOf wsX0_yOf) := goodIn_app (goodIn_of _ (by decide +kernel)) ggX0_opposite_X0_yOf
set_option maxRecDepth 20000 in
theorem ggX0_opposite_X0_xOf : GoodIn wsX0_opposite wsX0_xOf := goodIn_r _ [8] (by decide +kernel) (by decide +kernel)
set_option maxRecDepth 20000 in
theorem gX0_opposite_X0_xOf : GoodIn wsX0_opposite (va_wsS RX0 98 yX0_xOf wsX0_xOf) := goodIn_app (goodIn_of _ (by decide +kernel)) ggX0_opposite_X0_xOf
set_option maxRecDepth 20000 in
theorem ggX0_opposite_X0_pack : GoodIn wsX0_opposite wsX0_pack := goodIn_r _ [11] (by decide +kernel) (by decide +kernel)
set_option maxRecDepth 20000 in
theorem gX0_opposite_X0_pack : GoodIn wsX0_opposite (va_wsS RX0 60 yX0_pack wsX0_pack) := goodIn_app (goodIn_of _ (by decide +kernel)) ggX0_opposite_X0_pack
theorem dX0_opposite_0 : decode cX0_opposite 0 = .ok (.iload_n 1, 1) := by decide +kernel
theorem dX0_opposite_1 : decode cX0_opposite 1 = .ok (.iconst (-1), 1) := by decide +kernel
theorem dX0_opposite_2 : decode cX0_opposite 2 = .ok (.if_icmp .eq 10, 3) := by decide +kernel
theorem dX0_opposite_5 : decode cX0_opposite 5 = .ok (.iload_n 1, 1) := by decide +kernel
theorem dX0_opposite_6 : decode cX0_opposite 6 = .ok (.invokestatic 101, 3) := by decide +kernel
theorem dX0_opposite_9 : decode cX0_opposite 9 = .ok (.ifCond .ne 5, 3) := by decide +kernel
theorem dX0_opposite_12 : decode cX0_opposite 12 = .ok (.iload_n 1, 1) := by decide +kernel
theorem dX0_opposite_13 : decode cX0_opposite 13 = .ok (.ireturn, 1) := by decide +kernel
theorem dX0_opposite_14 : decode cX0_opposite 14 = .ok (.iload_n 1, 1) := by decide +kernel
theorem dX0_opposite_15 : decode cX0_opposite 15 = .ok (.invokestatic 98, 3) := by decide +kernel
theorem dX0_opposite_18 : decode cX0_opposite 18 = .ok (.aload_n 0, 1) := by decide +kernel
theorem dX0_opposite_19 : decode cX0_opposite 19 = .ok (.getfield 31, 3) := by decide +kernel
theorem dX0_opposite_22 : decode cX0_opposite 22 = .ok (.iload_n 1, 1) := by decide +kernel
theorem dX0_opposite_23 : decode cX0_opposite 23 = .ok (.invokestatic 101, 3) := by decide +kernel
theorem dX0_opposite_26 : decode cX0_opposite 26 = .ok (.isub, 1) := by decide +kernel
theorem dX0_opposite_27 : decode cX0_opposite 27 = .ok (.invokestatic 60, 3) := by decide +kernel
theorem dX0_opposite_30 : decode cX0_opposite 30 = .ok (.ireturn, 1) := by decide +kernel
set_option maxRecDepth 20000 in
theorem ggX0_sum_X0_opposite : GoodIn wsX0_sum wsX0_opposite := goodIn_r _ [5, 6, 7, 8, 4, 9, 10, 11, 12, 13, 14, 15, 33, 34, 35, 36, 37, 38, 39] (by decide +kernel) (by decide +kernel)
set_option maxRecDepth 20000 in
theorem gX0_sum_X0_opposite : GoodIn wsX0_sum (wsV RX0 69 RX0 yX0_opposite wsX0_opposite) := goodIn_app (goodIn_of _ (by decide +kernel)) ggX0_sum_X0_opposite
set_option maxRecDepth 20000 in
theorem ggX0_sum_X0_slope : GoodIn wsX0_sum wsX0_slope := goodIn_r _ [19, 20, 10, 11, 4, 12, 7, 8, 9, 21, 22, 23, 24, 6, 25, 26, 27, 28, 29, 30, 31, 32, 33, 34, 35, 36, 37, 38, 39] (by decide +kernel) (by decide +kernel)
set_option maxRecDepth 20000 in
theorem gX0_sum_X0_slope : GoodIn wsX0_sum (wsV RX0 104 RX0 yX0_slope wsX0_slope) := goodIn_app (goodIn_of _ (by decide +kernel)) ggX0_sum_X0_slope
set_option maxRecDepth 20000 in
theorem ggX0_sum_X0_xOf : GoodIn wsX0_sum wsX0_xOf := goodIn_r _ [12] (by decide +kernel) (by decide +kernel)
set_option maxRecDepth 20000 in
theorem gX0_sum_X0_xOf : GoodIn wsX0_sum (va_wsS RX0 98 yX0_xOf wsX0_xOf) := goodIn_app (goodIn_of _ (by decide +kernel)) ggX0_sum_X0_xOf
set_option maxRecDepth 20000 in
theorem ggX0_sum_X0_modulo : GoodIn wsX0_sum wsX0_modulo := goodIn_r _ [24, 6, 25, 26, 27, 28, 33, 34, 35, 36, 37, 38, 39] (by decide +kernel) (by decide +kernel)
set_option maxRecDepth 20000 in
theorem gX0_sum_X0_modulo : GoodIn wsX0_sum (wsV RX0 80 RX0 yX0_modulo wsX0_modulo) := goodIn_app (goodIn_of _ (by decide +kernel)) ggX0_sum_X0_modulo
set_option maxRecDepth 20000 in
theorem ggX0_sum_X0_yOf : GoodIn wsX0_sum wsX0_yOf := goodIn_r _ [9] (by decide +kernel) (by decide +kernel)
set_option maxRecDepth 20000 in
theorem gX0_sum_X0_yOf : GoodIn wsX0_sum (va_wsS RX0 101 yX0_yOf wsX0_yOf) := goodIn_app (goodIn_of _ (by decide +kernel)) ggX0_sum_X0_yOf
set_option maxRecDepth 20000 in
theorem ggX0_sum_X0_pack : GoodIn wsX0_sum wsX0_pack := goodIn_r _ [15] (by decide +kernel) (by decide +kernel)
set_option maxRecDepth 20000 in
theorem gX0_sum_X0_pack : GoodIn wsX0_sum (va_wsS RX0 60 yX0_pack wsX0_pack) := goodIn_app (goodIn_of _ (by decide +kernel)) ggX0_sum_X0_pack
theorem dX0_sum_0 : decode cX0_sum 0 = .ok (.iload_n 1, 1) := by decide +kernel
theorem dX0_sum_1 : decode cX0_sum 1 = .ok (.iconst (-1), 1) := by decide +kernel
theorem dX0_sum_2 : decode cX0_sum 2 = .ok (.if_icmp .ne 5, 3) := by decide +kernel
theorem dX0_sum_5 : decode cX0_sum 5 = .ok (.iload_n 2, 1) := by decide +kernel
theorem dX0_sum_6 : decode cX0_sum 6 = .ok (.ireturn, 1) := by decide +kernel
theorem dX0_sum_7 : decode cX0_sum 7 = .ok (.iload_n 2, 1) := by decide +kernel
theorem dX0_sum_8 : decode cX0_sum 8 = .ok (.iconst (-1), 1) := by decide +kernel
theorem dX0_sum_9 : decode cX0_sum 9 = .ok (.if_icmp .ne 5, 3) := by decide +kernel
theorem dX0_sum_12 : decode cX0_sum 12 = .ok (.iload_n 1, 1) := by decide +kernel
theorem dX0_sum_13 : decode cX0_sum 13 = .ok (.ireturn, 1) := by decide +kernel
theorem dX0_sum_14 : decode cX0_sum 14 = .ok (.iload_n 2, 1) := by decide +kernel
theorem dX0_sum_15 : decode cX0_sum 15 = .ok (.aload_n 0, 1) := by decide +kernel
theorem dX0_sum_16 : decode cX0_sum 16 = .ok (.iload_n 1, 1) := by decide +kernel
theorem dX0_sum_17 : decode cX0_sum 17 = .ok (.invokevirtual 69, 3) := by decide +kernel
theorem dX0_sum_20 : decode cX0_sum 20 = .ok (.if_icmp .ne 5, 3) := by decide +kernel
theorem dX0_sum_23 : decode cX0_sum 23 = .ok (.iconst (-1), 1) := by decide +kernel
theorem dX0_sum_24 : decode cX0_sum 24 = .ok (.ireturn, 1) := by decide +kernel
theorem dX0_sum_25 : decode cX0_sum 25 = .ok (.aload_n 0, 1) := by decide +kernel
theorem dX0_sum_26 : decode cX0_sum 26 = .ok (.iload_n 1, 1) := by decide +kernel
theorem dX0_sum_27 : decode cX0_sum 27 = .ok (.iload_n 2, 1) := by decide +kernel
theorem dX0_sum_28 : decode cX0_sum 28 = .ok (.invokevirtual 104, 3) := by decide +kernel
theorem dX0_sum_31 : decode cX0_sum 31 = .ok (.istore_n 3, 1) := by decide +kernel
theorem dX0_sum_32 : decode cX0_sum 32 = .ok (.aload_n 0, 1) := by decide +kernel
theorem dX0_sum_33 : decode cX0_sum 33 = .ok (.iload_n 3, 1) := by decide +kernel
theorem dX0_sum_34 : decode cX0_sum 34 = .ok (.iload_n 3, 1) := by decide +kernel
theorem dX0_sum_35 : decode cX0_sum 35 = .ok (.imul, 1) := by decide +kernel
theorem dX0_sum_36 : decode cX0_sum 36 = .ok (.iload_n 1, 1) := by decide +kernel
theorem dX0_sum_37 : decode cX0_sum 37 = .ok (.invokestatic 98, 3) := by decide +kernel
theorem dX0_sum_40 : decode cX0_sum 40 = .ok (.isub, 1) := by decide +kernel
theorem dX0_sum_41 : decode cX0_sum 41 = .ok (.iload_n 2, 1) := by decide +kernel
theorem dX0_sum_42 : decode cX0_sum 42 = .ok (.invokestatic 98, 3) := by decide +kernel
theorem dX0_sum_45 : decode cX0_sum 45 = .ok (.isub, 1) := by decide +kernel
theorem dX0_sum_46 : decode cX0_sum 46 = .ok (.invokevirtual 80, 3) := by decide +kernel
theorem dX0_sum_49 : decode cX0_sum 49 = .ok (.istore 4, 2) := by decide +kernel
theorem dX0_sum_51 : decode cX0_sum 51 = .ok (.aload_n 0, 1) := by decide +kernel
theorem dX0_sum_52 : decode cX0_sum 52 = .ok (.iload_n 3, 1) := by decide +kernel
theorem dX0_sum_53 : decode cX0_sum 53 = .ok (.aload_n 0, 1) := by decide +kernel
theorem dX0_sum_54 : decode cX0_sum 54 = .ok (.iload_n 1, 1) := by decide +kernel
theorem dX0_sum_55 : decode cX0_sum 55 = .ok (.invokestatic 98, 3) := by decide +kernel
theorem dX0_sum_58 : decode cX0_sum 58 = .ok (.iload 4, 2) := by decide +kernel
theorem dX0_sum_60 : decode cX0_sum 60 = .ok (.isub, 1) := by decide +kernel
theorem dX0_sum_61 : decode cX0_sum 61 = .ok (.invokevirtual 80, 3) := by decide +kernel
theorem dX0_sum_64 : decode cX0_sum 64 = .ok (.imul, 1) := by decide +kernel
theorem dX0_sum_65 : decode cX0_sum 65 = .ok (.iload_n 1, 1) := by decide +kernel
theorem dX0_sum_66 : decode cX0_sum 66 = .ok (.invokestatic 101, 3) := by decide +kernel
theorem dX0_sum_69 : decode cX0_sum 69 = .ok (.isub, 1) := by decide +kernel
theorem dX0_sum_70 : decode cX0_sum 70 = .ok (.invokevirtual 80, 3) := by decide +kernel
theorem dX0_sum_73 : decode cX0_sum 73 = .ok (.istore 5, 2) := by decide +kernel
theorem dX0_sum_75 : decode cX0_sum 75 = .ok (.iload 4, 2) := by decide +kernel
theorem dX0_sum_77 : decode cX0_sum 77 = .ok (.iload 5, 2) := by decide +kernel
theorem dX0_sum_79 : decode cX0_sum 79 = .ok (.invokestatic 60, 3) := by decide +kernel
theorem dX0_sum_82 : decode cX0_sum 82 = .ok (.ireturn, 1) := by decide +kernel
set_option maxRecDepth 20000 in
theorem ggX0_slope_X0_xOf : GoodIn wsX0_slope wsX0_xOf := goodIn_r _ [5] (by decide +kernel) (by decide +kernel)
set_option maxRecDepth 20000 in
theorem gX0_slope_X0_xOf : GoodIn wsX0_slope (va_wsS RX0 98 yX0_xOf wsX0_xOf) := goodIn_app (goodIn_of _ (by decide +kernel)) ggX0_slope_X0_xOf
set_option maxRecDepth 20000 in
theorem ggX0_slope_X0_yOf : GoodIn wsX0_slope wsX0_yOf := goodIn_r _ [8] (by decide +kernel) (by decide +kernel)
set_option maxRecDepth 20000 in
theorem gX0_slope_X0_yOf : GoodIn wsX0_slope (va_wsS RX0 101 yX0_yOf wsX0_yOf) := goodIn_app (goodIn_of _ (by decide +kernel)) ggX0_slope_X0_yOf
set_option maxRecDepth 20000 in
theorem ggX0_slope_X0_modulo : GoodIn wsX0_slope wsX0_modulo := goodIn_r _ [12, 13, 14, 15, 16, 17, 22, 23, 24, 25, 26, 27, 28] (by decide +kernel) (by decide +kernel)
set_option maxRecDepth 20000 in
theorem gX0_slope_X0_modulo : GoodIn wsX0_slope (wsV RX0 80 RX0 yX0_modulo wsX0_modulo) := goodIn_app (goodIn_of _ (by decide +kernel)) ggX0_slope_X0_modulo
set_option maxRecDepth 20000 in
theorem ggX0_slope_X0_inverse : GoodIn wsX0_slope wsX0_inverse := goodIn_r _ [21, 13, 9, 10, 11, 4, 12, 14, 15, 16, 17, 22, 23, 24, 25, 26, 27, 28] (by decide +kernel) (by decide +kernel)
set_option maxRecDepth 20000 in
theorem gX0_slope_X0_inverse : GoodIn wsX0_slope (wsV RX0 107 RX0 yX0_inverse wsX0_inverse) := goodIn_app (goodIn_of _ (by decide +kernel)) ggX0_slope_X0_inverse
theorem dX0_slope_0 : decode cX0_slope 0 = .ok (.iload_n 1, 1) := by decide +kernel
theorem dX0_slope_1 : decode cX0_slope 1 = .ok (.invokestatic 98, 3) := by decide +kernel
theorem dX0_slope_4 : decode cX0_slope 4 = .ok (.istore_n 3, 1) := by decide +kernel
theorem dX0_slope_5 : decode cX0_slope 5 = .ok (.iload_n 1, 1) := by decide +kernel
theorem dX0_slope_6 : decode cX0_slope 6 = .ok (.invokestatic 101, 3) := by decide +kernel
theorem dX0_slope_9 : decode cX0_slope 9 = .ok (.istore 4, 2) := by decide +kernel
theorem dX0_slope_11 : decode cX0_slope 11 = .ok (.iload_n 1, 1) := by decide +kernel
theorem dX0_slope_12 : decode cX0_slope 12 = .ok (.iload_n 2, 1) := by decide +kernel
theorem dX0_slope_13 : decode cX0_slope 13 = .ok (.if_icmp .ne 35, 3) := by decide +kernel
theorem dX0_slope_16 : decode cX0_slope 16 = .ok (.aload_n 0, 1) := by decide +kernel
theorem dX0_slope_17 : decode cX0_slope 17 = .ok (.aload_n 0, 1) := by decide +kernel
theorem dX0_slope_18 : decode cX0_slope 18 = .ok (.iconst 3, 1) := by decide +kernel
theorem dX0_slope_19 : decode cX0_slope 19 = .ok (.iload_n 3, 1) := by decide +kernel
theorem dX0_slope_20 : decode cX0_slope 20 = .ok (.imul, 1) := by decide +kernel
theorem dX0_slope_21 : decode cX0_slope 21 = .ok (.iload_n 3, 1) := by decide +kernel
theorem dX0_slope_22 : decode cX0_slope 22 = .ok (.imul, 1) := by decide +kernel
theorem dX0_slope_23 : decode cX0_slope 23 = .ok (.aload_n 0, 1) := by decide +kernel
theorem dX0_slope_24 : decode cX0_slope 24 = .ok (.getfield 35, 3) := by decide +kernel
theorem dX0_slope_27 : decode cX0_slope 27 = .ok (.iadd, 1) := by decide +kernel
theorem dX0_slope_28 : decode cX0_slope 28 = .ok (.invokevirtual 80, 3) := by decide +kernel
theorem dX0_slope_31 : decode cX0_slope 31 = .ok (.aload_n 0, 1) := by decide +kernel
theorem dX0_slope_32 : decode cX0_slope 32 = .ok (.aload_n 0, 1) := by decide +kernel
theorem dX0_slope_33 : decode cX0_slope 33 = .ok (.iconst 2, 1) := by decide +kernel
theorem dX0_slope_34 : decode cX0_slope 34 = .ok (.iload 4, 2) := by decide +kernel
theorem dX0_slope_36 : decode cX0_slope 36 = .ok (.imul, 1) := by decide +kernel
theorem dX0_slope_37 : decode cX0_slope 37 = .ok (.invokevirtual 80, 3) := by decide +kernel
theorem dX0_slope_40 : decode cX0_slope 40 = .ok (.invokevirtual 107, 3) := by decide +kernel
theorem dX0_slope_43 : decode cX0_slope 43 = .ok (.imul, 1) := by decide +kernel
theorem dX0_slope_44 : decode cX0_slope 44 = .ok (.invokevirtual 80, 3) := by decide +kernel
theorem dX0_slope_47 : decode cX0_slope 47 = .ok (.ireturn, 1) := by decide +kernel
theorem dX0_slope_48 : decode cX0_slope 48 = .ok (.aload_n 0, 1) := by decide +kernel
theorem dX0_slope_49 : decode cX0_slope 49 = .ok (.aload_n 0, 1) := by decide +kernel
theorem dX0_slope_50 : decode cX0_slope 50 = .ok (.iload_n 2, 1) := by decide +kernel
theorem dX0_slope_51 : decode cX0_slope 51 = .ok (.invokestatic 101, 3) := by decide +kernel
theorem dX0_slope_54 : decode cX0_slope 54 = .ok (.iload 4, 2) := by decide +kernel
theorem dX0_slope_56 : decode cX0_slope 56 = .ok (.isub, 1) := by decide +kernel
theorem dX0_slope_57 : decode cX0_slope 57 = .ok (.invokevirtual 80, 3) := by decide +kernel
theorem dX0_slope_60 : decode cX0_slope 60 = .ok (.aload_n 0, 1) := by decide +kernel
theorem dX0_slope_61 : decode cX0_slope 61 = .ok (.aload_n 0, 1) := by decide +kernel
theorem dX0_slope_62 : decode cX0_slope 62 = .ok (.iload_n 2, 1) := by decide +kernel
theorem dX0_slope_63 : decode cX0_slope 63 = .ok (.invokestatic 98, 3) := by decide +kernel
theorem dX0_slope_66 : decode cX0_slope 66 = .ok (.iload_n 3, 1) := by decide +kernel
theorem dX0_slope_67 : decode cX0_slope 67 = .ok (.isub, 1) := by decide +kernel
theorem dX0_slope_68 : decode cX0_slope 68 = .ok (.invokevirtual 80, 3) := by decide +kernel
theorem dX0_slope_71 : decode cX0_slope 71 = .ok (.invokevirtual 107, 3) := by decide +kernel
theorem dX0_slope_74 : decode cX0_slope 74 = .ok (.imul, 1) := by decide +kernel
theorem dX0_slope_75 : decode cX0_slope 75 = .ok (.invokevirtual 80, 3) := by decide +kernel
theorem dX0_slope_78 : decode cX0_slope 78 = .ok (.ireturn, 1) := by decide +kernel
set_option maxRecDepth 20000 in
theorem ggX0_multiple_X0_sum : GoodIn wsX0_multiple wsX0_sum := goodIn_r _ [5, 6, 7, 8, 4, 9, 10, 11, 12, 13, 14, 15, 16, 17, 18, 19, 20, 21, 22, 23, 24, 25, 26, 27, 28, 29, 30, 31, 32, 33, 34, 35, 36, 37, 38, 39, 40, 41, 42, 43] (by decide +kernel) (by decide +kernel)
set_option maxRecDepth 20000 in
theorem gX0_multiple_X0_sum : GoodIn wsX0_multiple (wsV RX0 66 RX0 yX0_sum wsX0_sum) := goodIn_app (goodIn_of _ (by decide +kernel)) ggX0_multiple_X0_sum
theorem dX0_multiple_0 : decode cX0_multiple 0 = .ok (.iconst (-1), 1) := by decide +kernel
theorem dX0_multiple_1 : decode cX0_multiple 1 = .ok (.istore 4, 2) := by decide +kernel
theorem dX0_multiple_3 : decode cX0_multiple 3 = .ok (.iload_n 3, 1) := by decide +kernel
theorem dX0_multiple_4 : decode cX0_multiple 4 = .ok (.istore 5, 2) := by decide +kernel
theorem dX0_multiple_6 : decode cX0_multiple 6 = .ok (.lload_n 1, 1) := by decide +kernel
theorem dX0_multiple_7 : decode cX0_multiple 7 = .ok (.lstore 6, 2) := by decide +kernel
theorem dX0_multiple_9 : decode cX0_multiple 9 = .ok (.lload 6, 2) := by decide +kernel
theorem dX0_multiple_11 : decode cX0_multiple 11 = .ok (.lconst 0, 1) := by decide +kernel
theorem dX0_multiple_12 : decode cX0_multiple 12 = .ok (.lcmp, 1) := by decide +kernel
theorem dX0_multiple_13 : decode cX0_multiple 13 = .ok (.ifCond .le 41, 3) := by decide +kernel
theorem dX0_multiple_16 : decode cX0_multiple 16 = .ok (.lload 6, 2) := by decide +kernel
theorem dX0_multiple_18 : decode cX0_multiple 18 = .ok (.lconst 1, 1) := by decide +kernel
theorem dX0_multiple_19 : decode cX0_multiple 19 = .ok (.land, 1) := by decide +kernel
theorem dX0_multiple_20 : decode cX0_multiple 20 = .ok (.lconst 1, 1) := by decide +kernel
theorem dX0_multiple_21 : decode cX0_multiple 21 = .ok (.lcmp, 1) := by decide +kernel
theorem dX0_multiple_22 : decode cX0_multiple 22 = .ok (.ifCond .ne 13, 3) := by decide +kernel
theorem dX0_multiple_25 : decode cX0_multiple 25 = .ok (.aload_n 0, 1) := by decide +kernel
theorem dX0_multiple_26 : decode cX0_multiple 26 = .ok (.iload 4, 2) := by decide +kernel
theorem dX0_multiple_28 : decode cX0_multiple 28 = .ok (.iload 5, 2) := by decide +kernel
theorem dX0_multiple_30 : decode cX0_multiple 30 = .ok (.invokevirtual 66, 3) := by decide +kernel
theorem dX0_multiple_33 : decode cX0_multiple 33 = .ok (.istore 4, 2) := by decide +kernel
theorem dX0_multiple_35 : decode cX0_multiple 35 = .ok (.aload_n 0, 1) := by decide +kernel
theorem dX0_multiple_36 : decode cX0_multiple 36 = .ok (.iload 5, 2) := by decide +kernel
theorem dX0_multiple_38 : decode cX0_multiple 38 = .ok (.iload 5, 2) := by decide +kernel
theorem dX0_multiple_40 : decode cX0_multiple 40 = .ok (.invokevirtual 66, 3) := by decide +kernel
theorem dX0_multiple_43 : decode cX0_multiple 43 = .ok (.istore 5, 2) := by decide +kernel
theorem dX0_multiple_45 : decode cX0_multiple 45 = .ok (.lload 6, 2) := by decide +kernel
theorem dX0_multiple_47 : decode cX0_multiple 47 = .ok (.iconst 1, 1) := by decide +kernel
theorem dX0_multiple_48 : decode cX0_multiple 48 = .ok (.lshr, 1) := by decide +kernel
theorem dX0_multiple_49 : decode cX0_multiple 49 = .ok (.lstore 6, 2) := by decide +kernel
theorem dX0_multiple_51 : decode cX0_multiple 51 = .ok (.goto (-42), 3) := by decide +kernel
theorem dX0_multiple_54 : decode cX0_multiple 54 = .ok (.iload 4, 2) := by decide +kernel
theorem dX0_multiple_56 : decode cX0_multiple 56 = .ok (.ireturn, 1) := by decide +kernel
set_option maxRecDepth 20000 in
theorem ggX0_fillFirstDivisionValues_X0_thirdDivisionValue : GoodIn wsX0_fillFirstDivisionValues wsX0_thirdDivisionValue := goodIn_r _ [6, 7, 8, 9, 10, 11, 5, 12, 13, 14, 15, 16, 17, 22, 23, 24, 25, 26, 27, 28] (by decide +kernel) (by decide +kernel)
set_option maxRecDepth 20000 in
theorem gX0_fillFirstDivisionValues_X0_thirdDivisionValue : GoodIn wsX0_fillFirstDivisionValues (wsV RX0 110 RX0 yX0_thirdDivisionValue wsX0_thirdDivisionValue) := goodIn_app (goodIn_of _ (by decide +kernel)) ggX0_fillFirstDivisionValues_X0_thirdDivisionValue
set_option maxRecDepth 20000 in
theorem ggX0_fillFirstDivisionValues_X0_fourthDivisionValue : GoodIn wsX0_fillFirstDivisionValues wsX0_fourthDivisionValue := goodIn_r _ [21, 7, 8, 9, 10, 11, 5, 12, 13, 14, 15, 16, 17, 22, 23, 24, 25, 26, 27, 28] (by decide +kernel) (by decide +kernel)
set_option maxRecDepth 20000 in
theorem gX0_fillFirstDivisionValues_X0_fourthDivisionValue : GoodIn wsX0_fillFirstDivisionValues (wsV RX0 113 RX0 yX0_fourthDivisionValue wsX0_fourthDivisionValue) := goodIn_app (goodIn_of _ (by decide +kernel)) ggX0_fillFirstDivisionValues_X0_fourthDivisionValue
theorem dX0_fillFirstDivisionValues_0 : decode cX0_fillFirstDivisionValues 0 = .ok (.aload_n 0, 1) := by decide +kernel
theorem dX0_fillFirstDivisionValues_1 : decode cX0_fillFirstDivisionValues 1 = .ok (.getfield 16, 3) := by decide +kernel
theorem dX0_fillFirstDivisionValues_4 : decode cX0_fillFirstDivisionValues 4 = .ok (.iconst 0, 1) := by decide +kernel
theorem dX0_fillFirstDivisionValues_5 : decode cX0_fillFirstDivisionValues 5 = .ok (.iconst 0, 1) := by decide +kernel
theorem dX0_fillFirstDivisionValues_6 : decode cX0_fillFirstDivisionValues 6 = .ok (.iastore, 1) := by decide +kernel
theorem dX0_fillFirstDivisionValues_7 : decode cX0_fillFirstDivisionValues 7 = .ok (.aload_n 0, 1) := by decide +kernel
theorem dX0_fillFirstDivisionValues_8 : decode cX0_fillFirstDivisionValues 8 = .ok (.getfield 16, 3) := by decide +kernel
theorem dX0_fillFirstDivisionValues_11 : decode cX0_fillFirstDivisionValues 11 = .ok (.iconst 1, 1) := by decide +kernel
theorem dX0_fillFirstDivisionValues_12 : decode cX0_fillFirstDivisionValues 12 = .ok (.iconst 1, 1) := by decide +kernel
theorem dX0_fillFirstDivisionValues_13 : decode cX0_fillFirstDivisionValues 13 = .ok (.iastore, 1) := by decide +kernel
theorem dX0_fillFirstDivisionValues_14 : decode cX0_fillFirstDivisionValues 14 = .ok (.aload_n 0, 1) := by decide +kernel
theorem dX0_fillFirstDivisionValues_15 : decode cX0_fillFirstDivisionValues 15 = .ok (.getfield 16, 3) := by decide +kernel
theorem dX0_fillFirstDivisionValues_18 : decode cX0_fillFirstDivisionValues 18 = .ok (.iconst 2, 1) := by decide +kernel
theorem dX0_fillFirstDivisionValues_19 : decode cX0_fillFirstDivisionValues 19 = .ok (.iconst 1, 1) := by decide +kernel
theorem dX0_fillFirstDivisionValues_20 : decode cX0_fillFirstDivisionValues 20 = .ok (.iastore, 1) := by decide +kernel
theorem dX0_fillFirstDivisionValues_21 : decode cX0_fillFirstDivisionValues 21 = .ok (.aload_n 0, 1) := by decide +kernel
theorem dX0_fillFirstDivisionValues_22 : decode cX0_fillFirstDivisionValues 22 = .ok (.getfield 16, 3) := by decide +kernel
theorem dX0_fillFirstDivisionValues_25 : decode cX0_fillFirstDivisionValues 25 = .ok (.iconst 3, 1) := by decide +kernel
theorem dX0_fillFirstDivisionValues_26 : decode cX0_fillFirstDivisionValues 26 = .ok (.aload_n 0, 1) := by decide +kernel
theorem dX0_fillFirstDivisionValues_27 : decode cX0_fillFirstDivisionValues 27 = .ok (.iload_n 1, 1) := by decide +kernel
theorem dX0_fillFirstDivisionValues_28 : decode cX0_fillFirstDivisionValues 28 = .ok (.invokevirtual 110, 3) := by decide +kernel
theorem dX0_fillFirstDivisionValues_31 : decode cX0_fillFirstDivisionValues 31 = .ok (.iastore, 1) := by decide +kernel
theorem dX0_fillFirstDivisionValues_32 : decode cX0_fillFirstDivisionValues 32 = .ok (.aload_n 0, 1) := by decide +kernel
theorem dX0_fillFirstDivisionValues_33 : decode cX0_fillFirstDivisionValues 33 = .ok (.getfield 16, 3) := by decide +kernel
theorem dX0_fillFirstDivisionValues_36 : decode cX0_fillFirstDivisionValues 36 = .ok (.iconst 4, 1) := by decide +kernel
theorem dX0_fillFirstDivisionValues_37 : decode cX0_fillFirstDivisionValues 37 = .ok (.aload_n 0, 1) := by decide +kernel
theorem dX0_fillFirstDivisionValues_38 : decode cX0_fillFirstDivisionValues 38 = .ok (.iload_n 1, 1) := by decide +kernel
theorem dX0_fillFirstDivisionValues_39 : decode cX0_fillFirstDivisionValues 39 = .ok (.invokevirtual 113, 3) := by decide +kernel
theorem dX0_fillFirstDivisionValues_42 : decode cX0_fillFirstDivisionValues 42 = .ok (.iastore, 1) := by decide +kernel
theorem dX0_fillFirstDivisionValues_43 : decode cX0_fillFirstDivisionValues 43 = .ok (.return_, 1) := by decide +kernel
set_option maxRecDepth 20000 in
theorem ggX0_thirdDivisionValue_X0_modulo : GoodIn wsX0_thirdDivisionValue wsX0_modulo := goodIn_r _ [7, 8, 9, 10, 11, 12, 13, 14, 15, 16, 17, 18, 19] (by decide +kernel) (by decide +kernel)
set_option maxRecDepth 20000 in
theorem gX0_thirdDivisionValue_X0_modulo : GoodIn wsX0_thirdDivisionValue (wsV RX0 80 RX0 yX0_modulo wsX0_modulo) := goodIn_app (goodIn_of _ (by decide +kernel)) ggX0_thirdDivisionValue_X0_modulo
theorem dX0_thirdDivisionValue_0 : decode cX0_thirdDivisionValue 0 = .ok (.aload_n 0, 1) := by decide +kernel
theorem dX0_thirdDivisionValue_1 : decode cX0_thirdDivisionValue 1 = .ok (.iconst 3, 1) := by decide +kernel
theorem dX0_thirdDivisionValue_2 : decode cX0_thirdDivisionValue 2 = .ok (.iload_n 1, 1) := by decide +kernel
theorem dX0_thirdDivisionValue_3 : decode cX0_thirdDivisionValue 3 = .ok (.imul, 1) := by decide +kernel
theorem dX0_thirdDivisionValue_4 : decode cX0_thirdDivisionValue 4 = .ok (.iload_n 1, 1) := by decide +kernel
theorem dX0_thirdDivisionValue_5 : decode cX0_thirdDivisionValue 5 = .ok (.imul, 1) := by decide +kernel
theorem dX0_thirdDivisionValue_6 : decode cX0_thirdDivisionValue 6 = .ok (.bipush 6, 2) := by decide +kernel
theorem dX0_thirdDivisionValue_8 : decode cX0_thirdDivisionValue 8 = .ok (.aload_n 0, 1) := by decide +kernel
theorem dX0_thirdDivisionValue_9 : decode cX0_thirdDivisionValue 9 = .ok (.getfield 35, 3) := by decide +kernel
theorem dX0_thirdDivisionValue_12 : decode cX0_thirdDivisionValue 12 = .ok (.imul, 1) := by decide +kernel
theorem dX0_thirdDivisionValue_13 : decode cX0_thirdDivisionValue 13 = .ok (.iadd, 1) := by decide +kernel
theorem dX0_thirdDivisionValue_14 : decode cX0_thirdDivisionValue 14 = .ok (.invokevirtual 80, 3) := by decide +kernel
theorem dX0_thirdDivisionValue_17 : decode cX0_thirdDivisionValue 17 = .ok (.istore_n 2, 1) := by decide +kernel
theorem dX0_thirdDivisionValue_18 : decode cX0_thirdDivisionValue 18 = .ok (.aload_n 0, 1) := by decide +kernel
theorem dX0_thirdDivisionValue_19 : decode cX0_thirdDivisionValue 19 = .ok (.iload_n 2, 1) := by decide +kernel
theorem dX0_thirdDivisionValue_20 : decode cX0_thirdDivisionValue 20 = .ok (.iload_n 1, 1) := by decide +kernel
theorem dX0_thirdDivisionValue_21 : decode cX0_thirdDivisionValue 21 = .ok (.imul, 1) := by decide +kernel
theorem dX0_thirdDivisionValue_22 : decode cX0_thirdDivisionValue 22 = .ok (.bipush 12, 2) := by decide +kernel
theorem dX0_thirdDivisionValue_24 : decode cX0_thirdDivisionValue 24 = .ok (.aload_n 0, 1) := by decide +kernel
theorem dX0_thirdDivisionValue_25 : decode cX0_thirdDivisionValue 25 = .ok (.getfield 38, 3) := by decide +kernel
theorem dX0_thirdDivisionValue_28 : decode cX0_thirdDivisionValue 28 = .ok (.imul, 1) := by decide +kernel
theorem dX0_thirdDivisionValue_29 : decode cX0_thirdDivisionValue 29 = .ok (.iadd, 1) := by decide +kernel
theorem dX0_thirdDivisionValue_30 : decode cX0_thirdDivisionValue 30 = .ok (.invokevirtual 80, 3) := by decide +kernel
theorem dX0_thirdDivisionValue_33 : decode cX0_thirdDivisionValue 33 = .ok (.istore_n 2, 1) := by decide +kernel
theorem dX0_thirdDivisionValue_34 : decode cX0_thirdDivisionValue 34 = .ok (.aload_n 0, 1) := by decide +kernel
theorem dX0_thirdDivisionValue_35 : decode cX0_thirdDivisionValue 35 = .ok (.iload_n 2, 1) := by decide +kernel
theorem dX0_thirdDivisionValue_36 : decode cX0_thirdDivisionValue 36 = .ok (.iload_n 1, 1) := by decide +kernel
theorem dX0_thirdDivisionValue_37 : decode cX0_thirdDivisionValue 37 = .ok (.imul, 1) := by decide +kernel
theorem dX0_thirdDivisionValue_38 : decode cX0_thirdDivisionValue 38 = .ok (.aload_n 0, 1) := by decide +kernel
theorem dX0_thirdDivisionValue_39 : decode cX0_thirdDivisionValue 39 = .ok (.getfield 35, 3) := by decide +kernel
theorem dX0_thirdDivisionValue_42 : decode cX0_thirdDivisionValue 42 = .ok (.aload_n 0, 1) := by decide +kernel
theorem dX0_thirdDivisionValue_43 : decode cX0_thirdDivisionValue 43 = .ok (.getfield 35, 3) := by decide +kernel
theorem dX0_thirdDivisionValue_46 : decode cX0_thirdDivisionValue 46 = .ok (.imul, 1) := by decide +kernel
theorem dX0_thirdDivisionValue_47 : decode cX0_thirdDivisionValue 47 = .ok (.isub, 1) := by decide +kernel
theorem dX0_thirdDivisionValue_48 : decode cX0_thirdDivisionValue 48 = .ok (.invokevirtual 80, 3) := by decide +kernel
theorem dX0_thirdDivisionValue_51 : decode cX0_thirdDivisionValue 51 = .ok (.ireturn, 1) := by decide +kernel
set_option maxRecDepth 20000 in
theorem ggX0_fourthDivisionValue_X0_modulo : GoodIn wsX0_fourthDivisionValue wsX0_modulo := goodIn_r _ [7, 8, 9, 10, 11, 12, 13, 14, 15, 16, 17, 18, 19] (by decide +kernel) (by decide +kernel)
set_option maxRecDepth 20000 in
theorem gX0_fourthDivisionValue_X0_modulo : GoodIn wsX0_fourthDivisionValue (wsV RX0 80 RX0 yX0_modulo wsX0_modulo) := goodIn_app (goodIn_of _ (by decide +kernel)) ggX0_fourthDivisionValue_X0_modulo
theorem dX0_fourthDivisionValue_0 : decode cX0_fourthDivisionValue 0 = .ok (.aload_n 0, 1) := by decide +kernel
theorem dX0_fourthDivisionValue_1 : decode cX0_fourthDivisionValue 1 = .ok (.iload_n 1, 1) := by decide +kernel
theorem dX0_fourthDivisionValue_2 : decode cX0_fourthDivisionValue 2 = .ok (.iload_n 1, 1) := by decide +kernel
theorem dX0_fourthDivisionValue_3 : decode cX0_fourthDivisionValue 3 = .ok (.imul, 1) := by decide +kernel
theorem dX0_fourthDivisionValue_4 : decode cX0_fourthDivisionValue 4 = .ok (.iconst 5, 1) := by decide +kernel
theorem dX0_fourthDivisionValue_5 : decode cX0_fourthDivisionValue 5 = .ok (.aload_n 0, 1) := by decide +kernel
theorem dX0_fourthDivisionValue_6 : decode cX0_fourthDivisionValue 6 = .ok (.getfield 35, 3) := by decide +kernel
theorem dX0_fourthDivisionValue_9 : decode cX0_fourthDivisionValue 9 = .ok (.imul, 1) := by decide +kernel
theorem dX0_fourthDivisionValue_10 : decode cX0_fourthDivisionValue 10 = .ok (.iadd, 1) := by decide +kernel
theorem dX0_fourthDivisionValue_11 : decode cX0_fourthDivisionValue 11 = .ok (.invokevirtual 80, 3) := by decide +kernel
theorem dX0_fourthDivisionValue_14 : decode cX0_fourthDivisionValue 14 = .ok (.istore_n 2, 1) := by decide +kernel
theorem dX0_fourthDivisionValue_15 : decode cX0_fourthDivisionValue 15 = .ok (.aload_n 0, 1) := by decide +kernel
theorem dX0_fourthDivisionValue_16 : decode cX0_fourthDivisionValue 16 = .ok (.iload_n 2, 1) := by decide +kernel
theorem dX0_fourthDivisionValue_17 : decode cX0_fourthDivisionValue 17 = .ok (.iload_n 1, 1) := by decide +kernel
theorem dX0_fourthDivisionValue_18 : decode cX0_fourthDivisionValue 18 = .ok (.imul, 1) := by decide +kernel
theorem dX0_fourthDivisionValue_19 : decode cX0_fourthDivisionValue 19 = .ok (.bipush 20, 2) := by decide +kernel
theorem dX0_fourthDivisionValue_21 : decode cX0_fourthDivisionValue 21 = .ok (.aload_n 0, 1) := by decide +kernel
theorem dX0_fourthDivisionValue_22 : decode cX0_fourthDivisionValue 22 = .ok (.getfield 38, 3) := by decide +kernel
theorem dX0_fourthDivisionValue_25 : decode cX0_fourthDivisionValue 25 = .ok (.imul, 1) := by decide +kernel
theorem dX0_fourthDivisionValue_26 : decode cX0_fourthDivisionValue 26 = .ok (.iadd, 1) := by decide +kernel
theorem dX0_fourthDivisionValue_27 : decode cX0_fourthDivisionValue 27 = .ok (.invokevirtual 80, 3) := by decide +kernel
theorem dX0_fourthDivisionValue_30 : decode cX0_fourthDivisionValue 30 = .ok (.istore_n 2, 1) := by decide +kernel
theorem dX0_fourthDivisionValue_31 : decode cX0_fourthDivisionValue 31 = .ok (.aload_n 0, 1) := by decide +kernel
theorem dX0_fourthDivisionValue_32 : decode cX0_fourthDivisionValue 32 = .ok (.iload_n 2, 1) := by decide +kernel
theorem dX0_fourthDivisionValue_33 : decode cX0_fourthDivisionValue 33 = .ok (.iload_n 1, 1) := by decide +kernel
theorem dX0_fourthDivisionValue_34 : decode cX0_fourthDivisionValue 34 = .ok (.imul, 1) := by decide +kernel
theorem dX0_fourthDivisionValue_35 : decode cX0_fourthDivisionValue 35 = .ok (.iconst 5, 1) := by decide +kernel
theorem dX0_fourthDivisionValue_36 : decode cX0_fourthDivisionValue 36 = .ok (.aload_n 0, 1) := by decide +kernel
theorem dX0_fourthDivisionValue_37 : decode cX0_fourthDivisionValue 37 = .ok (.getfield 35, 3) := by decide +kernel
theorem dX0_fourthDivisionValue_40 : decode cX0_fourthDivisionValue 40 = .ok (.imul, 1) := by decide +kernel
theorem dX0_fourthDivisionValue_41 : decode cX0_fourthDivisionValue 41 = .ok (.aload_n 0, 1) := by decide +kernel
theorem dX0_fourthDivisionValue_42 : decode cX0_fourthDivisionValue 42 = .ok (.getfield 35, 3) := by decide +kernel
theorem dX0_fourthDivisionValue_45 : decode cX0_fourthDivisionValue 45 = .ok (.imul, 1) := by decide +kernel
theorem dX0_fourthDivisionValue_46 : decode cX0_fourthDivisionValue 46 = .ok (.isub, 1) := by decide +kernel
theorem dX0_fourthDivisionValue_47 : decode cX0_fourthDivisionValue 47 = .ok (.invokevirtual 80, 3) := by decide +kernel
theorem dX0_fourthDivisionValue_50 : decode cX0_fourthDivisionValue 50 = .ok (.istore_n 2, 1) := by decide +kernel
theorem dX0_fourthDivisionValue_51 : decode cX0_fourthDivisionValue 51 = .ok (.aload_n 0, 1) := by decide +kernel
theorem dX0_fourthDivisionValue_52 : decode cX0_fourthDivisionValue 52 = .ok (.iload_n 2, 1) := by decide +kernel
theorem dX0_fourthDivisionValue_53 : decode cX0_fourthDivisionValue 53 = .ok (.iload_n 1, 1) := by decide +kernel
theorem dX0_fourthDivisionValue_54 : decode cX0_fourthDivisionValue 54 = .ok (.imul, 1) := by decide +kernel
theorem dX0_fourthDivisionValue_55 : decode cX0_fourthDivisionValue 55 = .ok (.iconst 4, 1) := by decide +kernel
theorem dX0_fourthDivisionValue_56 : decode cX0_fourthDivisionValue 56 = .ok (.aload_n 0, 1) := by decide +kernel
theorem dX0_fourthDivisionValue_57 : decode cX0_fourthDivisionValue 57 = .ok (.getfield 35, 3) := by decide +kernel
theorem dX0_fourthDivisionValue_60 : decode cX0_fourthDivisionValue 60 = .ok (.imul, 1) := by decide +kernel
theorem dX0_fourthDivisionValue_61 : decode cX0_fourthDivisionValue 61 = .ok (.aload_n 0, 1) := by decide +kernel
theorem dX0_fourthDivisionValue_62 : decode cX0_fourthDivisionValue 62 = .ok (.getfield 38, 3) := by decide +kernel
theorem dX0_fourthDivisionValue_65 : decode cX0_fourthDivisionValue 65 = .ok (.imul, 1) := by decide +kernel
theorem dX0_fourthDivisionValue_66 : decode cX0_fourthDivisionValue 66 = .ok (.isub, 1) := by decide +kernel
theorem dX0_fourthDivisionValue_67 : decode cX0_fourthDivisionValue 67 = .ok (.invokevirtual 80, 3) := by decide +kernel
theorem dX0_fourthDivisionValue_70 : decode cX0_fourthDivisionValue 70 = .ok (.istore_n 2, 1) := by decide +kernel
theorem dX0_fourthDivisionValue_71 : decode cX0_fourthDivisionValue 71 = .ok (.aload_n 0, 1) := by decide +kernel
theorem dX0_fourthDivisionValue_72 : decode cX0_fourthDivisionValue 72 = .ok (.iload_n 2, 1) := by decide +kernel
theorem dX0_fourthDivisionValue_73 : decode cX0_fourthDivisionValue 73 = .ok (.iload_n 1, 1) := by decide +kernel
theorem dX0_fourthDivisionValue_74 : decode cX0_fourthDivisionValue 74 = .ok (.imul, 1) := by decide +kernel
theorem dX0_fourthDivisionValue_75 : decode cX0_fourthDivisionValue 75 = .ok (.bipush 8, 2) := by decide +kernel
theorem dX0_fourthDivisionValue_77 : decode cX0_fourthDivisionValue 77 = .ok (.aload_n 0, 1) := by decide +kernel
theorem dX0_fourthDivisionValue_78 : decode cX0_fourthDivisionValue 78 = .ok (.getfield 38, 3) := by decide +kernel
theorem dX0_fourthDivisionValue_81 : decode cX0_fourthDivisionValue 81 = .ok (.imul, 1) := by decide +kernel
theorem dX0_fourthDivisionValue_82 : decode cX0_fourthDivisionValue 82 = .ok (.aload_n 0, 1) := by decide +kernel
theorem dX0_fourthDivisionValue_83 : decode cX0_fourthDivisionValue 83 = .ok (.getfield 38, 3) := by decide +kernel
theorem dX0_fourthDivisionValue_86 : decode cX0_fourthDivisionValue 86 = .ok (.imul, 1) := by decide +kernel
theorem dX0_fourthDivisionValue_87 : decode cX0_fourthDivisionValue 87 = .ok (.isub, 1) := by decide +kernel
theorem dX0_fourthDivisionValue_88 : decode cX0_fourthDivisionValue 88 = .ok (.aload_n 0, 1) := by decide +kernel
theorem dX0_fourthDivisionValue_89 : decode cX0_fourthDivisionValue 89 = .ok (.aload_n 0, 1) := by decide +kernel
theorem dX0_fourthDivisionValue_90 : decode cX0_fourthDivisionValue 90 = .ok (.getfield 35, 3) := by decide +kernel
theorem dX0_fourthDivisionValue_93 : decode cX0_fourthDivisionValue 93 = .ok (.aload_n 0, 1) := by decide +kernel
theorem dX0_fourthDivisionValue_94 : decode cX0_fourthDivisionValue 94 = .ok (.getfield 35, 3) := by decide +kernel
theorem dX0_fourthDivisionValue_97 : decode cX0_fourthDivisionValue 97 = .ok (.imul, 1) := by decide +kernel
theorem dX0_fourthDivisionValue_98 : decode cX0_fourthDivisionValue 98 = .ok (.invokevirtual 80, 3) := by decide +kernel
theorem dX0_fourthDivisionValue_101 : decode cX0_fourthDivisionValue 101 = .ok (.aload_n 0, 1) := by decide +kernel
theorem dX0_fourthDivisionValue_102 : decode cX0_fourthDivisionValue 102 = .ok (.getfield 35, 3) := by decide +kernel
theorem dX0_fourthDivisionValue_105 : decode cX0_fourthDivisionValue 105 = .ok (.imul, 1) := by decide +kernel
theorem dX0_fourthDivisionValue_106 : decode cX0_fourthDivisionValue 106 = .ok (.isub, 1) := by decide +kernel
theorem dX0_fourthDivisionValue_107 : decode cX0_fourthDivisionValue 107 = .ok (.invokevirtual 80, 3) := by decide +kernel
theorem dX0_fourthDivisionValue_110 : decode cX0_fourthDivisionValue 110 = .ok (.istore_n 2, 1) := by decide +kernel
theorem dX0_fourthDivisionValue_111 : decode cX0_fourthDivisionValue 111 = .ok (.aload_n 0, 1) := by decide +kernel
theorem dX0_fourthDivisionValue_112 : decode cX0_fourthDivisionValue 112 = .ok (.iconst 2, 1) := by decide +kernel
theorem dX0_fourthDivisionValue_113 : decode cX0_fourthDivisionValue 113 = .ok (.iload_n 2, 1) := by decide +kernel
theorem dX0_fourthDivisionValue_114 : decode cX0_fourthDivisionValue 114 = .ok (.imul, 1) := by decide +kernel
theorem dX0_fourthDivisionValue_115 : decode cX0_fourthDivisionValue 115 = .ok (.invokevirtual 80, 3) := by decide +kernel
theorem dX0_fourthDivisionValue_118 : decode cX0_fourthDivisionValue 118 = .ok (.ireturn, 1) := by decide +kernel
set_option maxRecDepth 20000 in
theorem ggX0_evenDivisionValue_X0_modulo : GoodIn wsX0_evenDivisionValue wsX0_modulo := goodIn_r _ [6, 7, 8, 9, 10, 11, 12, 13, 14, 15, 16, 17, 18] (by decide +kernel) (by decide +kernel)
set_option maxRecDepth 20000 in
theorem gX0_evenDivisionValue_X0_modulo : GoodIn wsX0_evenDivisionValue (wsV RX0 80 RX0 yX0_modulo wsX0_modulo) := goodIn_app (goodIn_of _ (by decide +kernel)) ggX0_evenDivisionValue_X0_modulo
theorem dX0_evenDivisionValue_0 : decode cX0_evenDivisionValue 0 = .ok (.aload_n 0, 1) := by decide +kernel
theorem dX0_evenDivisionValue_1 : decode cX0_evenDivisionValue 1 = .ok (.getfield 16, 3) := by decide +kernel
theorem dX0_evenDivisionValue_4 : decode cX0_evenDivisionValue 4 = .ok (.astore_n 2, 1) := by decide +kernel
theorem dX0_evenDivisionValue_5 : decode cX0_evenDivisionValue 5 = .ok (.aload_n 0, 1) := by decide +kernel
theorem dX0_evenDivisionValue_6 : decode cX0_evenDivisionValue 6 = .ok (.aload_n 2, 1) := by decide +kernel
theorem dX0_evenDivisionValue_7 : decode cX0_evenDivisionValue 7 = .ok (.iload_n 1, 1) := by decide +kernel
theorem dX0_evenDivisionValue_8 : decode cX0_evenDivisionValue 8 = .ok (.iconst 2, 1) := by decide +kernel
theorem dX0_evenDivisionValue_9 : decode cX0_evenDivisionValue 9 = .ok (.iadd, 1) := by decide +kernel
theorem dX0_evenDivisionValue_10 : decode cX0_evenDivisionValue 10 = .ok (.iaload, 1) := by decide +kernel
theorem dX0_evenDivisionValue_11 : decode cX0_evenDivisionValue 11 = .ok (.aload_n 0, 1) := by decide +kernel
theorem dX0_evenDivisionValue_12 : decode cX0_evenDivisionValue 12 = .ok (.aload_n 2, 1) := by decide +kernel
theorem dX0_evenDivisionValue_13 : decode cX0_evenDivisionValue 13 = .ok (.iload_n 1, 1) := by decide +kernel
theorem dX0_evenDivisionValue_14 : decode cX0_evenDivisionValue 14 = .ok (.iconst 1, 1) := by decide +kernel
theorem dX0_evenDivisionValue_15 : decode cX0_evenDivisionValue 15 = .ok (.isub, 1) := by decide +kernel
theorem dX0_evenDivisionValue_16 : decode cX0_evenDivisionValue 16 = .ok (.iaload, 1) := by decide +kernel
theorem dX0_evenDivisionValue_17 : decode cX0_evenDivisionValue 17 = .ok (.aload_n 2, 1) := by decide +kernel
theorem dX0_evenDivisionValue_18 : decode cX0_evenDivisionValue 18 = .ok (.iload_n 1, 1) := by decide +kernel
theorem dX0_evenDivisionValue_19 : decode cX0_evenDivisionValue 19 = .ok (.iconst 1, 1) := by decide +kernel
theorem dX0_evenDivisionValue_20 : decode cX0_evenDivisionValue 20 = .ok (.isub, 1) := by decide +kernel
theorem dX0_evenDivisionValue_21 : decode cX0_evenDivisionValue 21 = .ok (.iaload, 1) := by decide +kernel
theorem dX0_evenDivisionValue_22 : decode cX0_evenDivisionValue 22 = .ok (.imul, 1) := by decide +kernel
theorem dX0_evenDivisionValue_23 : decode cX0_evenDivisionValue 23 = .ok (.invokevirtual 80, 3) := by decide +kernel
theorem dX0_evenDivisionValue_26 : decode cX0_evenDivisionValue 26 = .ok (.imul, 1) := by decide +kernel
theorem dX0_evenDivisionValue_27 : decode cX0_evenDivisionValue 27 = .ok (.invokevirtual 80, 3) := by decide +kernel
theorem dX0_evenDivisionValue_30 : decode cX0_evenDivisionValue 30 = .ok (.istore_n 3, 1) := by decide +kernel
theorem dX0_evenDivisionValue_31 : decode cX0_evenDivisionValue 31 = .ok (.aload_n 0, 1) := by decide +kernel
theorem dX0_evenDivisionValue_32 : decode cX0_evenDivisionValue 32 = .ok (.aload_n 2, 1) := by decide +kernel
theorem dX0_evenDivisionValue_33 : decode cX0_evenDivisionValue 33 = .ok (.iload_n 1, 1) := by decide +kernel
theorem dX0_evenDivisionValue_34 : decode cX0_evenDivisionValue 34 = .ok (.iconst 2, 1) := by decide +kernel
theorem dX0_evenDivisionValue_35 : decode cX0_evenDivisionValue 35 = .ok (.isub, 1) := by decide +kernel
theorem dX0_evenDivisionValue_36 : decode cX0_evenDivisionValue 36 = .ok (.iaload, 1) := by decide +kernel
theorem dX0_evenDivisionValue_37 : decode cX0_evenDivisionValue 37 = .ok (.aload_n 0, 1) := by decide +kernel
theorem dX0_evenDivisionValue_38 : decode cX0_evenDivisionValue 38 = .ok (.aload_n 2, 1) := by decide +kernel
theorem dX0_evenDivisionValue_39 : decode cX0_evenDivisionValue 39 = .ok (.iload_n 1, 1) := by decide +kernel
theorem dX0_evenDivisionValue_40 : decode cX0_evenDivisionValue 40 = .ok (.iconst 1, 1) := by decide +kernel
theorem dX0_evenDivisionValue_41 : decode cX0_evenDivisionValue 41 = .ok (.iadd, 1) := by decide +kernel
theorem dX0_evenDivisionValue_42 : decode cX0_evenDivisionValue 42 = .ok (.iaload, 1) := by decide +kernel
theorem dX0_evenDivisionValue_43 : decode cX0_evenDivisionValue 43 = .ok (.aload_n 2, 1) := by decide +kernel
theorem dX0_evenDivisionValue_44 : decode cX0_evenDivisionValue 44 = .ok (.iload_n 1, 1) := by decide +kernel
theorem dX0_evenDivisionValue_45 : decode cX0_evenDivisionValue 45 = .ok (.iconst 1, 1) := by decide +kernel
theorem dX0_evenDivisionValue_46 : decode cX0_evenDivisionValue 46 = .ok (.iadd, 1) := by decide +kernel
theorem dX0_evenDivisionValue_47 : decode cX0_evenDivisionValue 47 = .ok (.iaload, 1) := by decide +kernel
theorem dX0_evenDivisionValue_48 : decode cX0_evenDivisionValue 48 = .ok (.imul, 1) := by decide +kernel
theorem dX0_evenDivisionValue_49 : decode cX0_evenDivisionValue 49 = .ok (.invokevirtual 80, 3) := by decide +kernel
theorem dX0_evenDivisionValue_52 : decode cX0_evenDivisionValue 52 = .ok (.imul, 1) := by decide +kernel
theorem dX0_evenDivisionValue_53 : decode cX0_evenDivisionValue 53 = .ok (.invokevirtual 80, 3) := by decide +kernel
theorem dX0_evenDivisionValue_56 : decode cX0_evenDivisionValue 56 = .ok (.istore 4, 2) := by decide +kernel
theorem dX0_evenDivisionValue_58 : decode cX0_evenDivisionValue 58 = .ok (.aload_n 0, 1) := by decide +kernel
theorem dX0_evenDivisionValue_59 : decode cX0_evenDivisionValue 59 = .ok (.aload_n 2, 1) := by decide +kernel
theorem dX0_evenDivisionValue_60 : decode cX0_evenDivisionValue 60 = .ok (.iload_n 1, 1) := by decide +kernel
theorem dX0_evenDivisionValue_61 : decode cX0_evenDivisionValue 61 = .ok (.iaload, 1) := by decide +kernel
theorem dX0_evenDivisionValue_62 : decode cX0_evenDivisionValue 62 = .ok (.aload_n 0, 1) := by decide +kernel
theorem dX0_evenDivisionValue_63 : decode cX0_evenDivisionValue 63 = .ok (.iload_n 3, 1) := by decide +kernel
theorem dX0_evenDivisionValue_64 : decode cX0_evenDivisionValue 64 = .ok (.iload 4, 2) := by decide +kernel
theorem dX0_evenDivisionValue_66 : decode cX0_evenDivisionValue 66 = .ok (.isub, 1) := by decide +kernel
theorem dX0_evenDivisionValue_67 : decode cX0_evenDivisionValue 67 = .ok (.invokevirtual 80, 3) := by decide +kernel
theorem dX0_evenDivisionValue_70 : decode cX0_evenDivisionValue 70 = .ok (.imul, 1) := by decide +kernel
theorem dX0_evenDivisionValue_71 : decode cX0_evenDivisionValue 71 = .ok (.invokevirtual 80, 3) := by decide +kernel
theorem dX0_evenDivisionValue_74 : decode cX0_evenDivisionValue 74 = .ok (.ireturn, 1) := by decide +kernel
set_option maxRecDepth 20000 in
theorem ggX0_oddDivisionValue_X0_cube : GoodIn wsX0_oddDivisionValue wsX0_cube := goodIn_r _ [6, 7, 8, 9, 5, 10, 11, 12, 13, 14, 15, 16, 17, 18, 19, 20, 21, 22] (by decide +kernel) (by decide +kernel)
set_option maxRecDepth 20000 in
theorem gX0_oddDivisionValue_X0_cube : GoodIn wsX0_oddDivisionValue (wsV RX0 116 RX0 yX0_cube wsX0_cube) := goodIn_app (goodIn_of _ (by decide +kernel)) ggX0_oddDivisionValue_X0_cube
set_option maxRecDepth 20000 in
theorem ggX0_oddDivisionValue_X0_modulo : GoodIn wsX0_oddDivisionValue wsX0_modulo := goodIn_r _ [10, 11, 12, 13, 14, 15, 16, 17, 18, 19, 20, 21, 22] (by decide +kernel) (by decide +kernel)
set_option maxRecDepth 20000 in
theorem gX0_oddDivisionValue_X0_modulo : GoodIn wsX0_oddDivisionValue (wsV RX0 80 RX0 yX0_modulo wsX0_modulo) := goodIn_app (goodIn_of _ (by decide +kernel)) ggX0_oddDivisionValue_X0_modulo
theorem dX0_oddDivisionValue_0 : decode cX0_oddDivisionValue 0 = .ok (.aload_n 0, 1) := by decide +kernel
theorem dX0_oddDivisionValue_1 : decode cX0_oddDivisionValue 1 = .ok (.getfield 16, 3) := by decide +kernel
theorem dX0_oddDivisionValue_4 : decode cX0_oddDivisionValue 4 = .ok (.astore_n 3, 1) := by decide +kernel
theorem dX0_oddDivisionValue_5 : decode cX0_oddDivisionValue 5 = .ok (.aload_n 0, 1) := by decide +kernel
theorem dX0_oddDivisionValue_6 : decode cX0_oddDivisionValue 6 = .ok (.aload_n 3, 1) := by decide +kernel
theorem dX0_oddDivisionValue_7 : decode cX0_oddDivisionValue 7 = .ok (.iload_n 1, 1) := by decide +kernel
theorem dX0_oddDivisionValue_8 : decode cX0_oddDivisionValue 8 = .ok (.iconst 2, 1) := by decide +kernel
theorem dX0_oddDivisionValue_9 : decode cX0_oddDivisionValue 9 = .ok (.iadd, 1) := by decide +kernel
theorem dX0_oddDivisionValue_10 : decode cX0_oddDivisionValue 10 = .ok (.iaload, 1) := by decide +kernel
theorem dX0_oddDivisionValue_11 : decode cX0_oddDivisionValue 11 = .ok (.aload_n 0, 1) := by decide +kernel
theorem dX0_oddDivisionValue_12 : decode cX0_oddDivisionValue 12 = .ok (.aload_n 3, 1) := by decide +kernel
theorem dX0_oddDivisionValue_13 : decode cX0_oddDivisionValue 13 = .ok (.iload_n 1, 1) := by decide +kernel
theorem dX0_oddDivisionValue_14 : decode cX0_oddDivisionValue 14 = .ok (.iaload, 1) := by decide +kernel
theorem dX0_oddDivisionValue_15 : decode cX0_oddDivisionValue 15 = .ok (.invokevirtual 116, 3) := by decide +kernel
theorem dX0_oddDivisionValue_18 : decode cX0_oddDivisionValue 18 = .ok (.imul, 1) := by decide +kernel
theorem dX0_oddDivisionValue_19 : decode cX0_oddDivisionValue 19 = .ok (.invokevirtual 80, 3) := by decide +kernel
theorem dX0_oddDivisionValue_22 : decode cX0_oddDivisionValue 22 = .ok (.istore 4, 2) := by decide +kernel
theorem dX0_oddDivisionValue_24 : decode cX0_oddDivisionValue 24 = .ok (.aload_n 0, 1) := by decide +kernel
theorem dX0_oddDivisionValue_25 : decode cX0_oddDivisionValue 25 = .ok (.aload_n 3, 1) := by decide +kernel
theorem dX0_oddDivisionValue_26 : decode cX0_oddDivisionValue 26 = .ok (.iload_n 1, 1) := by decide +kernel
theorem dX0_oddDivisionValue_27 : decode cX0_oddDivisionValue 27 = .ok (.iconst 1, 1) := by decide +kernel
theorem dX0_oddDivisionValue_28 : decode cX0_oddDivisionValue 28 = .ok (.isub, 1) := by decide +kernel
theorem dX0_oddDivisionValue_29 : decode cX0_oddDivisionValue 29 = .ok (.iaload, 1) := by decide +kernel
theorem dX0_oddDivisionValue_30 : decode cX0_oddDivisionValue 30 = .ok (.aload_n 0, 1) := by decide +kernel
theorem dX0_oddDivisionValue_31 : decode cX0_oddDivisionValue 31 = .ok (.aload_n 3, 1) := by decide +kernel
theorem dX0_oddDivisionValue_32 : decode cX0_oddDivisionValue 32 = .ok (.iload_n 1, 1) := by decide +kernel
theorem dX0_oddDivisionValue_33 : decode cX0_oddDivisionValue 33 = .ok (.iconst 1, 1) := by decide +kernel
theorem dX0_oddDivisionValue_34 : decode cX0_oddDivisionValue 34 = .ok (.iadd, 1) := by decide +kernel
theorem dX0_oddDivisionValue_35 : decode cX0_oddDivisionValue 35 = .ok (.iaload, 1) := by decide +kernel
theorem dX0_oddDivisionValue_36 : decode cX0_oddDivisionValue 36 = .ok (.invokevirtual 116, 3) := by decide +kernel
theorem dX0_oddDivisionValue_39 : decode cX0_oddDivisionValue 39 = .ok (.imul, 1) := by decide +kernel
theorem dX0_oddDivisionValue_40 : decode cX0_oddDivisionValue 40 = .ok (.invokevirtual 80, 3) := by decide +kernel
theorem dX0_oddDivisionValue_43 : decode cX0_oddDivisionValue 43 = .ok (.istore 5, 2) := by decide +kernel
theorem dX0_oddDivisionValue_45 : decode cX0_oddDivisionValue 45 = .ok (.iload_n 1, 1) := by decide +kernel
theorem dX0_oddDivisionValue_46 : decode cX0_oddDivisionValue 46 = .ok (.iconst 2, 1) := by decide +kernel
theorem dX0_oddDivisionValue_47 : decode cX0_oddDivisionValue 47 = .ok (.irem, 1) := by decide +kernel
theorem dX0_oddDivisionValue_48 : decode cX0_oddDivisionValue 48 = .ok (.ifCond .ne 17, 3) := by decide +kernel
theorem dX0_oddDivisionValue_51 : decode cX0_oddDivisionValue 51 = .ok (.aload_n 0, 1) := by decide +kernel
theorem dX0_oddDivisionValue_52 : decode cX0_oddDivisionValue 52 = .ok (.iload_n 2, 1) := by decide +kernel
theorem dX0_oddDivisionValue_53 : decode cX0_oddDivisionValue 53 = .ok (.iload 4, 2) := by decide +kernel
theorem dX0_oddDivisionValue_55 : decode cX0_oddDivisionValue 55 = .ok (.imul, 1) := by decide +kernel
theorem dX0_oddDivisionValue_56 : decode cX0_oddDivisionValue 56 = .ok (.iload 5, 2) := by decide +kernel
theorem dX0_oddDivisionValue_58 : decode cX0_oddDivisionValue 58 = .ok (.isub, 1) := by decide +kernel
theorem dX0_oddDivisionValue_59 : decode cX0_oddDivisionValue 59 = .ok (.invokevirtual 80, 3) := by decide +kernel
theorem dX0_oddDivisionValue_62 : decode cX0_oddDivisionValue 62 = .ok (.goto 14, 3) := by decide +kernel
theorem dX0_oddDivisionValue_65 : decode cX0_oddDivisionValue 65 = .ok (.aload_n 0, 1) := by decide +kernel
theorem dX0_oddDivisionValue_66 : decode cX0_oddDivisionValue 66 = .ok (.iload 4, 2) := by decide +kernel
theorem dX0_oddDivisionValue_68 : decode cX0_oddDivisionValue 68 = .ok (.iload_n 2, 1) := by decide +kernel
theorem dX0_oddDivisionValue_69 : decode cX0_oddDivisionValue 69 = .ok (.iload 5, 2) := by decide +kernel
theorem dX0_oddDivisionValue_71 : decode cX0_oddDivisionValue 71 = .ok (.imul, 1) := by decide +kernel
theorem dX0_oddDivisionValue_72 : decode cX0_oddDivisionValue 72 = .ok (.isub, 1) := by decide +kernel
theorem dX0_oddDivisionValue_73 : decode cX0_oddDivisionValue 73 = .ok (.invokevirtual 80, 3) := by decide +kernel
theorem dX0_oddDivisionValue_76 : decode cX0_oddDivisionValue 76 = .ok (.ireturn, 1) := by decide +kernel
set_option maxRecDepth 20000 in
theorem ggX0_cube_X0_modulo : GoodIn wsX0_cube wsX0_modulo := goodIn_r _ [5, 6, 7, 8, 9, 10, 11, 12, 13, 14, 15, 16, 17] (by decide +kernel) (by decide +kernel)
set_option maxRecDepth 20000 in
theorem gX0_cube_X0_modulo : GoodIn wsX0_cube (wsV RX0 80 RX0 yX0_modulo wsX0_modulo) := goodIn_app (goodIn_of _ (by decide +kernel)) ggX0_cube_X0_modulo
theorem dX0_cube_0 : decode cX0_cube 0 = .ok (.aload_n 0, 1) := by decide +kernel
theorem dX0_cube_1 : decode cX0_cube 1 = .ok (.aload_n 0, 1) := by decide +kernel
theorem dX0_cube_2 : decode cX0_cube 2 = .ok (.iload_n 1, 1) := by decide +kernel
theorem dX0_cube_3 : decode cX0_cube 3 = .ok (.iload_n 1, 1) := by decide +kernel
theorem dX0_cube_4 : decode cX0_cube 4 = .ok (.imul, 1) := by decide +kernel
theorem dX0_cube_5 : decode cX0_cube 5 = .ok (.invokevirtual 80, 3) := by decide +kernel
theorem dX0_cube_8 : decode cX0_cube 8 = .ok (.iload_n 1, 1) := by decide +kernel
theorem dX0_cube_9 : decode cX0_cube 9 = .ok (.imul, 1) := by decide +kernel
theorem dX0_cube_10 : decode cX0_cube 10 = .ok (.invokevirtual 80, 3) := by decide +kernel
theorem dX0_cube_13 : decode cX0_cube 13 = .ok (.ireturn, 1) := by decide +kernel
theorem dX1_init_0 : decode cX1_init 0 = .ok (.aload_n 0, 1) := by decide +kernel
theorem dX1_init_1 : decode cX1_init 1 = .ok (.invokespecial 1, 3) := by decide +kernel
theorem dX1_init_4 : decode cX1_init 4 = .ok (.aload_n 0, 1) := by decide +kernel
theorem dX1_init_5 : decode cX1_init 5 = .ok (.iconst 5, 1) := by decide +kernel
theorem dX1_init_6 : decode cX1_init 6 = .ok (.putfield 7, 3) := by decide +kernel
theorem dX1_init_9 : decode cX1_init 9 = .ok (.aload_n 0, 1) := by decide +kernel
theorem dX1_init_10 : decode cX1_init 10 = .ok (.iconst 1, 1) := by decide +kernel
theorem dX1_init_11 : decode cX1_init 11 = .ok (.putfield 13, 3) := by decide +kernel
theorem dX1_init_14 : decode cX1_init 14 = .ok (.aload_n 0, 1) := by decide +kernel
theorem dX1_init_15 : decode cX1_init 15 = .ok (.iconst 1, 1) := by decide +kernel
theorem dX1_init_16 : decode cX1_init 16 = .ok (.putfield 16, 3) := by decide +kernel
theorem dX1_init_19 : decode cX1_init 19 = .ok (.aload_n 0, 1) := by decide +kernel
theorem dX1_init_20 : decode cX1_init 20 = .ok (.sipush 4096, 3) := by decide +kernel
theorem dX1_init_23 : decode cX1_init 23 = .ok (.newarray .int, 2) := by decide +kernel
theorem dX1_init_25 : decode cX1_init 25 = .ok (.putfield 19, 3) := by decide +kernel
theorem dX1_init_28 : decode cX1_init 28 = .ok (.aload_n 0, 1) := by decide +kernel
theorem dX1_init_29 : decode cX1_init 29 = .ok (.bipush 48, 2) := by decide +kernel
theorem dX1_init_31 : decode cX1_init 31 = .ok (.newarray .int, 2) := by decide +kernel
theorem dX1_init_33 : decode cX1_init 33 = .ok (.putfield 23, 3) := by decide +kernel
theorem dX1_init_36 : decode cX1_init 36 = .ok (.return_, 1) := by decide +kernel
theorem dX1_mod_0 : decode cX1_mod 0 = .ok (.iload_n 1, 1) := by decide +kernel
theorem dX1_mod_1 : decode cX1_mod 1 = .ok (.aload_n 0, 1) := by decide +kernel
theorem dX1_mod_2 : decode cX1_mod 2 = .ok (.getfield 7, 3) := by decide +kernel
theorem dX1_mod_5 : decode cX1_mod 5 = .ok (.irem, 1) := by decide +kernel
theorem dX1_mod_6 : decode cX1_mod 6 = .ok (.istore_n 2, 1) := by decide +kernel
theorem dX1_mod_7 : decode cX1_mod 7 = .ok (.iload_n 2, 1) := by decide +kernel
theorem dX1_mod_8 : decode cX1_mod 8 = .ok (.ifCond .ge 12, 3) := by decide +kernel
theorem dX1_mod_11 : decode cX1_mod 11 = .ok (.iload_n 2, 1) := by decide +kernel
theorem dX1_mod_12 : decode cX1_mod 12 = .ok (.aload_n 0, 1) := by decide +kernel
theorem dX1_mod_13 : decode cX1_mod 13 = .ok (.getfield 7, 3) := by decide +kernel
theorem dX1_mod_16 : decode cX1_mod 16 = .ok (.iadd, 1) := by decide +kernel
theorem dX1_mod_17 : decode cX1_mod 17 = .ok (.goto 4, 3) := by decide +kernel
theorem dX1_mod_20 : decode cX1_mod 20 = .ok (.iload_n 2, 1) := by decide +kernel
theorem dX1_mod_21 : decode cX1_mod 21 = .ok (.ireturn, 1) := by decide +kernel
set_option maxRecDepth 20000 in
theorem ggX1_right_X1_mod : GoodIn wsX1_right wsX1_mod := goodIn_r _ [7, 8, 9, 10, 11, 12, 13] (by decide +kernel) (by decide +kernel)
set_option maxRecDepth 20000 in
theorem gX1_right_X1_mod : GoodIn wsX1_right (wsV RX1 26 RX1 yX1_mod wsX1_mod) := goodIn_app (goodIn_of _ (by decide +kernel)) ggX1_right_X1_mod
theorem dX1_right_0 : decode cX1_right 0 = .ok (.aload_n 0, 1) := by decide +kernel
theorem dX1_right_1 : decode cX1_right 1 = .ok (.aload_n 0, 1) := by decide +kernel
theorem dX1_right_2 : decode cX1_right 2 = .ok (.aload_n 0, 1) := by decide +kernel
theorem dX1_right_3 : decode cX1_right 3 = .ok (.iload_n 1, 1) := by decide +kernel
theorem dX1_right_4 : decode cX1_right 4 = .ok (.iload_n 1, 1) := by decide +kernel
theorem dX1_right_5 : decode cX1_right 5 = .ok (.imul, 1) := by decide +kernel
theorem dX1_right_6 : decode cX1_right 6 = .ok (.invokevirtual 26, 3) := by decide +kernel
theorem dX1_right_9 : decode cX1_right 9 = .ok (.iload_n 1, 1) := by decide +kernel
theorem dX1_right_10 : decode cX1_right 10 = .ok (.imul, 1) := by decide +kernel
theorem dX1_right_11 : decode cX1_right 11 = .ok (.invokevirtual 26, 3) := by decide +kernel
theorem dX1_right_14 : decode cX1_right 14 = .ok (.aload_n 0, 1) := by decide +kernel
theorem dX1_right_15 : decode cX1_right 15 = .ok (.aload_n 0, 1) := by decide +kernel
theorem dX1_right_16 : decode cX1_right 16 = .ok (.getfield 13, 3) := by decide +kernel
theorem dX1_right_19 : decode cX1_right 19 = .ok (.iload_n 1, 1) := by decide +kernel
theorem dX1_right_20 : decode cX1_right 20 = .ok (.imul, 1) := by decide +kernel
theorem dX1_right_21 : decode cX1_right 21 = .ok (.invokevirtual 26, 3) := by decide +kernel
theorem dX1_right_24 : decode cX1_right 24 = .ok (.iadd, 1) := by decide +kernel
theorem dX1_right_25 : decode cX1_right 25 = .ok (.aload_n 0, 1) := by decide +kernel
theorem dX1_right_26 : decode cX1_right 26 = .ok (.getfield 16, 3) := by decide +kernel
theorem dX1_right_29 : decode cX1_right 29 = .ok (.iadd, 1) := by decide +kernel
theorem dX1_right_30 : decode cX1_right 30 = .ok (.invokevirtual 26, 3) := by decide +kernel
theorem dX1_right_33 : decode cX1_right 33 = .ok (.ireturn, 1) := by decide +kernel
theorem dX1_curve_0 : decode cX1_curve 0 = .ok (.iload_n 1, 1) := by decide +kernel
theorem dX1_curve_1 : decode cX1_curve 1 = .ok (.iconst 5, 1) := by decide +kernel
theorem dX1_curve_2 : decode cX1_curve 2 = .ok (.if_icmp .lt 10, 3) := by decide +kernel
theorem dX1_curve_5 : decode cX1_curve 5 = .ok (.iload_n 1, 1) := by decide +kernel
theorem dX1_curve_6 : decode cX1_curve 6 = .ok (.sipush 4093, 3) := by decide +kernel
theorem dX1_curve_9 : decode cX1_curve 9 = .ok (.if_icmp .le 5, 3) := by decide +kernel
theorem dX1_curve_12 : decode cX1_curve 12 = .ok (.iconst (-1), 1) := by decide +kernel
theorem dX1_curve_13 : decode cX1_curve 13 = .ok (.ireturn, 1) := by decide +kernel
theorem dX1_curve_14 : decode cX1_curve 14 = .ok (.iconst 2, 1) := by decide +kernel
theorem dX1_curve_15 : decode cX1_curve 15 = .ok (.istore 4, 2) := by decide +kernel
theorem dX1_curve_17 : decode cX1_curve 17 = .ok (.iload 4, 2) := by decide +kernel
theorem dX1_curve_19 : decode cX1_curve 19 = .ok (.iload_n 1, 1) := by decide +kernel
theorem dX1_curve_20 : decode cX1_curve 20 = .ok (.if_icmp .ge 18, 3) := by decide +kernel
theorem dX1_curve_23 : decode cX1_curve 23 = .ok (.iload_n 1, 1) := by decide +kernel
theorem dX1_curve_24 : decode cX1_curve 24 = .ok (.iload 4, 2) := by decide +kernel
theorem dX1_curve_26 : decode cX1_curve 26 = .ok (.irem, 1) := by decide +kernel
theorem dX1_curve_27 : decode cX1_curve 27 = .ok (.ifCond .ne 5, 3) := by decide +kernel
theorem dX1_curve_30 : decode cX1_curve 30 = .ok (.iconst (-1), 1) := by decide +kernel
theorem dX1_curve_31 : decode cX1_curve 31 = .ok (.ireturn, 1) := by decide +kernel
theorem dX1_curve_32 : decode cX1_curve 32 = .ok (.iinc 4 1, 3) := by decide +kernel
theorem dX1_curve_35 : decode cX1_curve 35 = .ok (.goto (-18), 3) := by decide +kernel
theorem dX1_curve_38 : decode cX1_curve 38 = .ok (.iload_n 2, 1) := by decide +kernel
theorem dX1_curve_39 : decode cX1_curve 39 = .ok (.ifCond .lt 17, 3) := by decide +kernel
theorem dX1_curve_42 : decode cX1_curve 42 = .ok (.iload_n 2, 1) := by decide +kernel
theorem dX1_curve_43 : decode cX1_curve 43 = .ok (.iload_n 1, 1) := by decide +kernel
theorem dX1_curve_44 : decode cX1_curve 44 = .ok (.if_icmp .ge 12, 3) := by decide +kernel
theorem dX1_curve_47 : decode cX1_curve 47 = .ok (.iload_n 3, 1) := by decide +kernel
theorem dX1_curve_48 : decode cX1_curve 48 = .ok (.ifCond .lt 8, 3) := by decide +kernel
theorem dX1_curve_51 : decode cX1_curve 51 = .ok (.iload_n 3, 1) := by decide +kernel
theorem dX1_curve_52 : decode cX1_curve 52 = .ok (.iload_n 1, 1) := by decide +kernel
theorem dX1_curve_53 : decode cX1_curve 53 = .ok (.if_icmp .lt 6, 3) := by decide +kernel
theorem dX1_curve_56 : decode cX1_curve 56 = .ok (.bipush (-2), 2) := by decide +kernel
theorem dX1_curve_58 : decode cX1_curve 58 = .ok (.ireturn, 1) := by decide +kernel
theorem dX1_curve_59 : decode cX1_curve 59 = .ok (.iload_n 2, 1) := by decide +kernel
theorem dX1_curve_60 : decode cX1_curve 60 = .ok (.iload_n 2, 1) := by decide +kernel
theorem dX1_curve_61 : decode cX1_curve 61 = .ok (.imul, 1) := by decide +kernel
theorem dX1_curve_62 : decode cX1_curve 62 = .ok (.iload_n 1, 1) := by decide +kernel
theorem dX1_curve_63 : decode cX1_curve 63 = .ok (.irem, 1) := by decide +kernel
theorem dX1_curve_64 : decode cX1_curve 64 = .ok (.iload_n 2, 1) := by decide +kernel
theorem dX1_curve_65 : decode cX1_curve 65 = .ok (.imul, 1) := by decide +kernel
theorem dX1_curve_66 : decode cX1_curve 66 = .ok (.iload_n 1, 1) := by decide +kernel
theorem dX1_curve_67 : decode cX1_curve 67 = .ok (.irem, 1) := by decide +kernel
theorem dX1_curve_68 : decode cX1_curve 68 = .ok (.istore 4, 2) := by decide +kernel
theorem dX1_curve_70 : decode cX1_curve 70 = .ok (.iconst 4, 1) := by decide +kernel
theorem dX1_curve_71 : decode cX1_curve 71 = .ok (.iload 4, 2) := by decide +kernel
theorem dX1_curve_73 : decode cX1_curve 73 = .ok (.imul, 1) := by decide +kernel
theorem dX1_curve_74 : decode cX1_curve 74 = .ok (.bipush 27, 2) := by decide +kernel
theorem dX1_curve_76 : decode cX1_curve 76 = .ok (.iload_n 3, 1) := by decide +kernel
theorem dX1_curve_77 : decode cX1_curve 77 = .ok (.iload_n 3, 1) := by decide +kernel
theorem dX1_curve_78 : decode cX1_curve 78 = .ok (.imul, 1) := by decide +kernel
theorem dX1_curve_79 : decode cX1_curve 79 = .ok (.iload_n 1, 1) := by decide +kernel
theorem dX1_curve_80 : decode cX1_curve 80 = .ok (.irem, 1) := by decide +kernel
theorem dX1_curve_81 : decode cX1_curve 81 = .ok (.imul, 1) := by decide +kernel
theorem dX1_curve_82 : decode cX1_curve 82 = .ok (.iadd, 1) := by decide +kernel
theorem dX1_curve_83 : decode cX1_curve 83 = .ok (.iload_n 1, 1) := by decide +kernel
theorem dX1_curve_84 : decode cX1_curve 84 = .ok (.irem, 1) := by decide +kernel
theorem dX1_curve_85 : decode cX1_curve 85 = .ok (.ifCond .ne 6, 3) := by decide +kernel
theorem dX1_curve_88 : decode cX1_curve 88 = .ok (.bipush (-3), 2) := by decide +kernel
theorem dX1_curve_90 : decode cX1_curve 90 = .ok (.ireturn, 1) := by decide +kernel
theorem dX1_curve_91 : decode cX1_curve 91 = .ok (.aload_n 0, 1) := by decide +kernel
theorem dX1_curve_92 : decode cX1_curve 92 = .ok (.iload_n 1, 1) := by decide +kernel
theorem dX1_curve_93 : decode cX1_curve 93 = .ok (.putfield 7, 3) := by decide +kernel
theorem dX1_curve_96 : decode cX1_curve 96 = .ok (.aload_n 0, 1) := by decide +kernel
theorem dX1_curve_97 : decode cX1_curve 97 = .ok (.iload_n 2, 1) := by decide +kernel
theorem dX1_curve_98 : decode cX1_curve 98 = .ok (.putfield 13, 3) := by decide +kernel
theorem dX1_curve_101 : decode cX1_curve 101 = .ok (.aload_n 0, 1) := by decide +kernel
theorem dX1_curve_102 : decode cX1_curve 102 = .ok (.iload_n 3, 1) := by decide +kernel
theorem dX1_curve_103 : decode cX1_curve 103 = .ok (.putfield 16, 3) := by decide +kernel
theorem dX1_curve_106 : decode cX1_curve 106 = .ok (.iconst 0, 1) := by decide +kernel
theorem dX1_curve_107 : decode cX1_curve 107 = .ok (.ireturn, 1) := by decide +kernel
theorem dX1_coefficient_0 : decode cX1_coefficient 0 = .ok (.iload_n 1, 1) := by decide +kernel
theorem dX1_coefficient_1 : decode cX1_coefficient 1 = .ok (.ifCond .ne 10, 3) := by decide +kernel
theorem dX1_coefficient_4 : decode cX1_coefficient 4 = .ok (.aload_n 0, 1) := by decide +kernel
theorem dX1_coefficient_5 : decode cX1_coefficient 5 = .ok (.getfield 7, 3) := by decide +kernel
theorem dX1_coefficient_8 : decode cX1_coefficient 8 = .ok (.goto 28, 3) := by decide +kernel
theorem dX1_coefficient_11 : decode cX1_coefficient 11 = .ok (.iload_n 1, 1) := by decide +kernel
theorem dX1_coefficient_12 : decode cX1_coefficient 12 = .ok (.iconst 1, 1) := by decide +kernel
theorem dX1_coefficient_13 : decode cX1_coefficient 13 = .ok (.if_icmp .ne 10, 3) := by decide +kernel
theorem dX1_coefficient_16 : decode cX1_coefficient 16 = .ok (.aload_n 0, 1) := by decide +kernel
theorem dX1_coefficient_17 : decode cX1_coefficient 17 = .ok (.getfield 13, 3) := by decide +kernel
theorem dX1_coefficient_20 : decode cX1_coefficient 20 = .ok (.goto 16, 3) := by decide +kernel
theorem dX1_coefficient_23 : decode cX1_coefficient 23 = .ok (.iload_n 1, 1) := by decide +kernel
theorem dX1_coefficient_24 : decode cX1_coefficient 24 = .ok (.iconst 2, 1) := by decide +kernel
theorem dX1_coefficient_25 : decode cX1_coefficient 25 = .ok (.if_icmp .ne 10, 3) := by decide +kernel
theorem dX1_coefficient_28 : decode cX1_coefficient 28 = .ok (.aload_n 0, 1) := by decide +kernel
theorem dX1_coefficient_29 : decode cX1_coefficient 29 = .ok (.getfield 16, 3) := by decide +kernel
theorem dX1_coefficient_32 : decode cX1_coefficient 32 = .ok (.goto 4, 3) := by decide +kernel
theorem dX1_coefficient_35 : decode cX1_coefficient 35 = .ok (.iconst (-1), 1) := by decide +kernel
theorem dX1_coefficient_36 : decode cX1_coefficient 36 = .ok (.ireturn, 1) := by decide +kernel
set_option maxRecDepth 20000 in
theorem ggX1_tell_X1_mod : GoodIn wsX1_tell wsX1_mod := goodIn_r _ [7, 1, 8, 9, 10, 11, 12] (by decide +kernel) (by decide +kernel)
set_option maxRecDepth 20000 in
theorem gX1_tell_X1_mod : GoodIn wsX1_tell (wsV RX1 26 RX1 yX1_mod wsX1_mod) := goodIn_app (goodIn_of _ (by decide +kernel)) ggX1_tell_X1_mod
theorem dX1_tell_0 : decode cX1_tell 0 = .ok (.iconst 0, 1) := by decide +kernel
theorem dX1_tell_1 : decode cX1_tell 1 = .ok (.istore_n 1, 1) := by decide +kernel
theorem dX1_tell_2 : decode cX1_tell 2 = .ok (.iload_n 1, 1) := by decide +kernel
theorem dX1_tell_3 : decode cX1_tell 3 = .ok (.aload_n 0, 1) := by decide +kernel
theorem dX1_tell_4 : decode cX1_tell 4 = .ok (.getfield 7, 3) := by decide +kernel
theorem dX1_tell_7 : decode cX1_tell 7 = .ok (.if_icmp .ge 16, 3) := by decide +kernel
theorem dX1_tell_10 : decode cX1_tell 10 = .ok (.aload_n 0, 1) := by decide +kernel
