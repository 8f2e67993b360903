theorem dX11_off_8 : decode cX11_off 8 = .ok (.ifCond .eq 14, 3) := by decide +kernel
theorem dX11_off_11 : decode cX11_off 11 = .ok (.aload_n 0, 1) := by decide +kernel
theorem dX11_off_12 : decode cX11_off 12 = .ok (.getfield 12, 3) := by decide +kernel
theorem dX11_off_15 : decode cX11_off 15 = .ok (.iload_n 1, 1) := by decide +kernel
theorem dX11_off_16 : decode cX11_off 16 = .ok (.invokevirtual 245, 3) := by decide +kernel
theorem dX11_off_19 : decode cX11_off 19 = .ok (.goto 5, 3) := by decide +kernel
theorem dX11_off_22 : decode cX11_off 22 = .ok (.ldc 167, 2) := by decide +kernel
theorem dX11_off_24 : decode cX11_off 24 = .ok (.ireturn, 1) := by decide +kernel
set_option maxRecDepth 20000 in
theorem ggX11_heel_X11_isWithin : GoodIn wsX11_heel wsX11_isWithin := goodIn_r _ [6] rfl (by decide +kernel)
set_option maxRecDepth 20000 in
theorem gX11_heel_X11_isWithin : GoodIn wsX11_heel (va_wsS RX11 78 yX11_isWithin wsX11_isWithin) := goodIn_app (goodIn_of _ (by decide +kernel)) ggX11_heel_X11_isWithin
set_option maxRecDepth 20000 in
theorem ggX11_heel_X0_heelBehind : GoodIn wsX11_heel wsX0_heelBehind := goodIn_r _ [11, 12, 13, 14, 15, 10, 16, 17, 18, 19, 20, 21, 22, 23, 24, 25, 26, 27, 28, 29, 30, 31, 32, 33, 34, 35, 36, 37, 38, 39, 40, 41, 42, 43, 44, 45, 46, 47, 48, 49, 50, 51, 52, 53, 54, 55, 56, 57, 58, 59, 60, 61, 62, 63, 64, 65, 66, 67, 68, 69, 70, 71, 72, 73, 5, 74, 75, 76, 77, 78, 79, 80, 81, 82, 83, 84, 85, 86, 87, 88, 89, 90, 91, 92, 93, 94, 95, 96, 97, 98, 99, 100, 101, 102, 2, 103, 104, 105, 106, 107, 108, 119, 120, 121, 122, 123, 124, 125, 126, 127, 128, 129, 130, 131, 132, 133, 134, 135, 136, 137, 138] rfl (by decide +kernel)
set_option maxRecDepth 20000 in
theorem gX11_heel_X0_heelBehind : GoodIn wsX11_heel (wsV RX11 168 RX0 yX0_heelBehind wsX0_heelBehind) := goodIn_app (goodIn_of _ (by decide +kernel)) ggX11_heel_X0_heelBehind
theorem dX11_heel_0 : decode cX11_heel 0 = .ok (.iload_n 1, 1) := by decide +kernel
theorem dX11_heel_1 : decode cX11_heel 1 = .ok (.iconst 0, 1) := by decide +kernel
theorem dX11_heel_2 : decode cX11_heel 2 = .ok (.bipush 20, 2) := by decide +kernel
theorem dX11_heel_4 : decode cX11_heel 4 = .ok (.invokestatic 78, 3) := by decide +kernel
theorem dX11_heel_7 : decode cX11_heel 7 = .ok (.ifCond .eq 14, 3) := by decide +kernel
theorem dX11_heel_10 : decode cX11_heel 10 = .ok (.aload_n 0, 1) := by decide +kernel
theorem dX11_heel_11 : decode cX11_heel 11 = .ok (.getfield 12, 3) := by decide +kernel
theorem dX11_heel_14 : decode cX11_heel 14 = .ok (.iload_n 1, 1) := by decide +kernel
theorem dX11_heel_15 : decode cX11_heel 15 = .ok (.invokevirtual 168, 3) := by decide +kernel
theorem dX11_heel_18 : decode cX11_heel 18 = .ok (.goto 5, 3) := by decide +kernel
theorem dX11_heel_21 : decode cX11_heel 21 = .ok (.ldc 167, 2) := by decide +kernel
theorem dX11_heel_23 : decode cX11_heel 23 = .ok (.ireturn, 1) := by decide +kernel
set_option maxRecDepth 20000 in
theorem ggX11_steady_X0_roundsTillSteady : GoodIn wsX11_steady wsX0_roundsTillSteady := goodIn_r _ [6, 7, 8, 9, 5, 10, 11, 12, 13, 14, 15, 16, 17, 18, 19, 20, 21, 22, 23, 24, 25, 26, 27, 28, 29, 30, 31, 32, 33, 34, 35, 36, 37, 38, 39, 40, 41, 42, 43, 44, 45, 46, 47, 48, 49, 50, 51, 52, 53, 54, 55, 56, 57, 58, 59, 60, 61, 62, 63, 64, 65, 66, 67, 68, 69, 70, 71, 72, 73, 74, 75, 76, 77, 78, 79, 80, 81, 82, 83, 84, 85, 86, 87, 88, 89, 90, 91, 92, 93, 94, 95, 96, 97, 98, 99, 100, 101, 102, 103, 104, 105, 116, 117, 118, 119, 120, 121, 122, 123, 124, 125, 126, 127, 128, 129, 130, 131, 132, 133, 134, 135] rfl (by decide +kernel)
set_option maxRecDepth 20000 in
theorem gX11_steady_X0_roundsTillSteady : GoodIn wsX11_steady (wsV RX11 248 RX0 yX0_roundsTillSteady wsX0_roundsTillSteady) := goodIn_app (goodIn_of _ (by decide +kernel)) ggX11_steady_X0_roundsTillSteady
theorem dX11_steady_0 : decode cX11_steady 0 = .ok (.aload_n 0, 1) := by decide +kernel
theorem dX11_steady_1 : decode cX11_steady 1 = .ok (.getfield 12, 3) := by decide +kernel
theorem dX11_steady_4 : decode cX11_steady 4 = .ok (.invokevirtual 248, 3) := by decide +kernel
theorem dX11_steady_7 : decode cX11_steady 7 = .ok (.ireturn, 1) := by decide +kernel
set_option maxRecDepth 20000 in
theorem ggX11_grounded_X11_isWithin : GoodIn wsX11_grounded wsX11_isWithin := goodIn_r _ [6] rfl (by decide +kernel)
set_option maxRecDepth 20000 in
theorem gX11_grounded_X11_isWithin : GoodIn wsX11_grounded (va_wsS RX11 78 yX11_isWithin wsX11_isWithin) := goodIn_app (goodIn_of _ (by decide +kernel)) ggX11_grounded_X11_isWithin
set_option maxRecDepth 20000 in
theorem ggX11_grounded_X0_allWeight : GoodIn wsX11_grounded wsX0_allWeight := goodIn_r _ [11, 12, 13, 14, 15, 16, 17, 18, 19, 20, 10, 21, 22, 23, 24, 25, 26, 27, 28, 75, 76, 77, 78, 79, 80, 81, 82, 83, 84, 85, 86, 87, 88, 89, 90, 91, 92, 93, 94] rfl (by decide +kernel)
set_option maxRecDepth 20000 in
theorem gX11_grounded_X0_allWeight : GoodIn wsX11_grounded (wsV RX11 201 RX0 yX0_allWeight wsX0_allWeight) := goodIn_app (goodIn_of _ (by decide +kernel)) ggX11_grounded_X0_allWeight
set_option maxRecDepth 20000 in
theorem ggX11_grounded_X2_startOf : GoodIn wsX11_grounded wsX2_startOf := goodIn_r _ [33, 34, 35, 36, 37, 38, 39, 40, 41, 32, 42, 43, 44, 45, 46, 47, 48, 49, 50, 51, 52, 53, 54, 55, 56, 57, 58, 59, 60, 78, 79, 80, 81, 82, 83] rfl (by decide +kernel)
set_option maxRecDepth 20000 in
theorem gX11_grounded_X2_startOf : GoodIn wsX11_grounded (wsV RX11 229 RX2 yX2_startOf wsX2_startOf) := goodIn_app (goodIn_of _ (by decide +kernel)) ggX11_grounded_X2_startOf
set_option maxRecDepth 20000 in
theorem ggX11_grounded_X2_leastRise : GoodIn wsX11_grounded wsX2_leastRise := goodIn_r _ [64, 59, 34, 56, 57, 37, 58, 78, 79, 80, 81, 82, 83] rfl (by decide +kernel)
set_option maxRecDepth 20000 in
theorem gX11_grounded_X2_leastRise : GoodIn wsX11_grounded (wsV RX11 220 RX2 yX2_leastRise wsX2_leastRise) := goodIn_app (goodIn_of _ (by decide +kernel)) ggX11_grounded_X2_leastRise
theorem dX11_grounded_0 : decode cX11_grounded 0 = .ok (.iload_n 1, 1) := by decide +kernel
theorem dX11_grounded_1 : decode cX11_grounded 1 = .ok (.iconst 0, 1) := by decide +kernel
theorem dX11_grounded_2 : decode cX11_grounded 2 = .ok (.sipush 9999, 3) := by decide +kernel
theorem dX11_grounded_5 : decode cX11_grounded 5 = .ok (.invokestatic 78, 3) := by decide +kernel
theorem dX11_grounded_8 : decode cX11_grounded 8 = .ok (.ifCond .ne 5, 3) := by decide +kernel
theorem dX11_grounded_11 : decode cX11_grounded 11 = .ok (.iconst (-1), 1) := by decide +kernel
theorem dX11_grounded_12 : decode cX11_grounded 12 = .ok (.ireturn, 1) := by decide +kernel
theorem dX11_grounded_13 : decode cX11_grounded 13 = .ok (.aload_n 0, 1) := by decide +kernel
theorem dX11_grounded_14 : decode cX11_grounded 14 = .ok (.getfield 12, 3) := by decide +kernel
theorem dX11_grounded_17 : decode cX11_grounded 17 = .ok (.getfield 82, 3) := by decide +kernel
theorem dX11_grounded_20 : decode cX11_grounded 20 = .ok (.iconst 0, 1) := by decide +kernel
theorem dX11_grounded_21 : decode cX11_grounded 21 = .ok (.aload_n 0, 1) := by decide +kernel
theorem dX11_grounded_22 : decode cX11_grounded 22 = .ok (.getfield 12, 3) := by decide +kernel
theorem dX11_grounded_25 : decode cX11_grounded 25 = .ok (.invokevirtual 201, 3) := by decide +kernel
theorem dX11_grounded_28 : decode cX11_grounded 28 = .ok (.invokevirtual 229, 3) := by decide +kernel
theorem dX11_grounded_31 : decode cX11_grounded 31 = .ok (.istore_n 2, 1) := by decide +kernel
theorem dX11_grounded_32 : decode cX11_grounded 32 = .ok (.iload_n 2, 1) := by decide +kernel
theorem dX11_grounded_33 : decode cX11_grounded 33 = .ok (.bipush (-2), 2) := by decide +kernel
theorem dX11_grounded_35 : decode cX11_grounded 35 = .ok (.if_icmp .ne 6, 3) := by decide +kernel
theorem dX11_grounded_38 : decode cX11_grounded 38 = .ok (.bipush (-5), 2) := by decide +kernel
theorem dX11_grounded_40 : decode cX11_grounded 40 = .ok (.ireturn, 1) := by decide +kernel
theorem dX11_grounded_41 : decode cX11_grounded 41 = .ok (.iload_n 2, 1) := by decide +kernel
theorem dX11_grounded_42 : decode cX11_grounded 42 = .ok (.bipush 64, 2) := by decide +kernel
theorem dX11_grounded_44 : decode cX11_grounded 44 = .ok (.aload_n 0, 1) := by decide +kernel
theorem dX11_grounded_45 : decode cX11_grounded 45 = .ok (.getfield 12, 3) := by decide +kernel
theorem dX11_grounded_48 : decode cX11_grounded 48 = .ok (.getfield 82, 3) := by decide +kernel
theorem dX11_grounded_51 : decode cX11_grounded 51 = .ok (.invokevirtual 220, 3) := by decide +kernel
theorem dX11_grounded_54 : decode cX11_grounded 54 = .ok (.imul, 1) := by decide +kernel
theorem dX11_grounded_55 : decode cX11_grounded 55 = .ok (.isub, 1) := by decide +kernel
theorem dX11_grounded_56 : decode cX11_grounded 56 = .ok (.iload_n 1, 1) := by decide +kernel
theorem dX11_grounded_57 : decode cX11_grounded 57 = .ok (.if_icmp .le 7, 3) := by decide +kernel
theorem dX11_grounded_60 : decode cX11_grounded 60 = .ok (.iconst 1, 1) := by decide +kernel
theorem dX11_grounded_61 : decode cX11_grounded 61 = .ok (.goto 4, 3) := by decide +kernel
theorem dX11_grounded_64 : decode cX11_grounded 64 = .ok (.iconst 0, 1) := by decide +kernel
theorem dX11_grounded_65 : decode cX11_grounded 65 = .ok (.ireturn, 1) := by decide +kernel
set_option maxRecDepth 20000 in
theorem ggX11_lighten_X11_isWithin : GoodIn wsX11_lighten wsX11_isWithin := goodIn_r _ [10] rfl (by decide +kernel)
set_option maxRecDepth 20000 in
theorem gX11_lighten_X11_isWithin : GoodIn wsX11_lighten (va_wsS RX11 78 yX11_isWithin wsX11_isWithin) := goodIn_app (goodIn_of _ (by decide +kernel)) ggX11_lighten_X11_isWithin
set_option maxRecDepth 20000 in
theorem ggX11_lighten_X2_leastRise : GoodIn wsX11_lighten wsX2_leastRise := goodIn_r _ [15, 16, 17, 18, 19, 5, 20, 78, 79, 80, 81, 82, 83] rfl (by decide +kernel)
set_option maxRecDepth 20000 in
theorem gX11_lighten_X2_leastRise : GoodIn wsX11_lighten (wsV RX11 220 RX2 yX2_leastRise wsX2_leastRise) := goodIn_app (goodIn_of _ (by decide +kernel)) ggX11_lighten_X2_leastRise
set_option maxRecDepth 20000 in
theorem ggX11_lighten_X2_carriedAt : GoodIn wsX11_lighten wsX2_carriedAt := goodIn_r _ [24, 25, 26, 27, 14, 28, 17, 29, 30, 31, 32, 33, 34, 35, 36, 18, 19, 5, 20, 16, 37, 38, 39, 40, 41, 42, 78, 79, 80, 81, 82, 83] rfl (by decide +kernel)
set_option maxRecDepth 20000 in
theorem gX11_lighten_X2_carriedAt : GoodIn wsX11_lighten (wsV RX11 251 RX2 yX2_carriedAt wsX2_carriedAt) := goodIn_app (goodIn_of _ (by decide +kernel)) ggX11_lighten_X2_carriedAt
set_option maxRecDepth 20000 in
theorem ggX11_lighten_X0_allWeight : GoodIn wsX11_lighten wsX0_allWeight := goodIn_r _ [47, 48, 49, 50, 51, 52, 53, 54, 55, 56, 46, 57, 58, 59, 60, 61, 62, 63, 64, 75, 76, 77, 78, 79, 80, 81, 82, 83, 84, 85, 86, 87, 88, 89, 90, 91, 92, 93, 94] rfl (by decide +kernel)
set_option maxRecDepth 20000 in
theorem gX11_lighten_X0_allWeight : GoodIn wsX11_lighten (wsV RX11 201 RX0 yX0_allWeight wsX0_allWeight) := goodIn_app (goodIn_of _ (by decide +kernel)) ggX11_lighten_X0_allWeight
theorem dX11_lighten_0 : decode cX11_lighten 0 = .ok (.iload_n 1, 1) := by decide +kernel
theorem dX11_lighten_1 : decode cX11_lighten 1 = .ok (.iconst 0, 1) := by decide +kernel
theorem dX11_lighten_2 : decode cX11_lighten 2 = .ok (.sipush 9999, 3) := by decide +kernel
theorem dX11_lighten_5 : decode cX11_lighten 5 = .ok (.invokestatic 78, 3) := by decide +kernel
theorem dX11_lighten_8 : decode cX11_lighten 8 = .ok (.ifCond .ne 5, 3) := by decide +kernel
theorem dX11_lighten_11 : decode cX11_lighten 11 = .ok (.iconst (-1), 1) := by decide +kernel
theorem dX11_lighten_12 : decode cX11_lighten 12 = .ok (.ireturn, 1) := by decide +kernel
theorem dX11_lighten_13 : decode cX11_lighten 13 = .ok (.aload_n 0, 1) := by decide +kernel
theorem dX11_lighten_14 : decode cX11_lighten 14 = .ok (.getfield 12, 3) := by decide +kernel
theorem dX11_lighten_17 : decode cX11_lighten 17 = .ok (.getfield 82, 3) := by decide +kernel
theorem dX11_lighten_20 : decode cX11_lighten 20 = .ok (.iload_n 1, 1) := by decide +kernel
theorem dX11_lighten_21 : decode cX11_lighten 21 = .ok (.bipush 64, 2) := by decide +kernel
theorem dX11_lighten_23 : decode cX11_lighten 23 = .ok (.aload_n 0, 1) := by decide +kernel
theorem dX11_lighten_24 : decode cX11_lighten 24 = .ok (.getfield 12, 3) := by decide +kernel
theorem dX11_lighten_27 : decode cX11_lighten 27 = .ok (.getfield 82, 3) := by decide +kernel
theorem dX11_lighten_30 : decode cX11_lighten 30 = .ok (.invokevirtual 220, 3) := by decide +kernel
theorem dX11_lighten_33 : decode cX11_lighten 33 = .ok (.imul, 1) := by decide +kernel
theorem dX11_lighten_34 : decode cX11_lighten 34 = .ok (.iadd, 1) := by decide +kernel
theorem dX11_lighten_35 : decode cX11_lighten 35 = .ok (.invokevirtual 251, 3) := by decide +kernel
theorem dX11_lighten_38 : decode cX11_lighten 38 = .ok (.istore_n 2, 1) := by decide +kernel
theorem dX11_lighten_39 : decode cX11_lighten 39 = .ok (.iconst 0, 1) := by decide +kernel
theorem dX11_lighten_40 : decode cX11_lighten 40 = .ok (.aload_n 0, 1) := by decide +kernel
theorem dX11_lighten_41 : decode cX11_lighten 41 = .ok (.getfield 12, 3) := by decide +kernel
theorem dX11_lighten_44 : decode cX11_lighten 44 = .ok (.invokevirtual 201, 3) := by decide +kernel
theorem dX11_lighten_47 : decode cX11_lighten 47 = .ok (.iload_n 2, 1) := by decide +kernel
theorem dX11_lighten_48 : decode cX11_lighten 48 = .ok (.isub, 1) := by decide +kernel
theorem dX11_lighten_49 : decode cX11_lighten 49 = .ok (.invokestatic 254, 3) := by decide +kernel
theorem dX11_lighten_52 : decode cX11_lighten 52 = .ok (.ireturn, 1) := by decide +kernel
set_option maxRecDepth 20000 in
theorem ggX11_more_X2_top : GoodIn wsX11_more wsX2_top := goodIn_r _ [8, 9, 73, 74, 75, 76, 77, 78] rfl (by decide +kernel)
set_option maxRecDepth 20000 in
theorem gX11_more_X2_top : GoodIn wsX11_more (wsV RX11 259 RX2 yX2_top wsX2_top) := goodIn_app (goodIn_of _ (by decide +kernel)) ggX11_more_X2_top
set_option maxRecDepth 20000 in
theorem ggX11_more_X11_isWithin : GoodIn wsX11_more wsX11_isWithin := goodIn_r _ [13] rfl (by decide +kernel)
set_option maxRecDepth 20000 in
theorem gX11_more_X11_isWithin : GoodIn wsX11_more (va_wsS RX11 78 yX11_isWithin wsX11_isWithin) := goodIn_app (goodIn_of _ (by decide +kernel)) ggX11_more_X11_isWithin
set_option maxRecDepth 20000 in
theorem ggX11_more_X2_carriedAt : GoodIn wsX11_more wsX2_carriedAt := goodIn_r _ [17, 18, 19, 20, 7, 21, 22, 23, 24, 25, 26, 27, 28, 29, 30, 31, 32, 33, 34, 35, 36, 37, 5, 6, 8, 9, 73, 74, 75, 76, 77, 78] rfl (by decide +kernel)
set_option maxRecDepth 20000 in
theorem gX11_more_X2_carriedAt : GoodIn wsX11_more (wsV RX11 251 RX2 yX2_carriedAt wsX2_carriedAt) := goodIn_app (goodIn_of _ (by decide +kernel)) ggX11_more_X2_carriedAt
set_option maxRecDepth 20000 in
theorem ggX11_more_X0_allWeight : GoodIn wsX11_more wsX0_allWeight := goodIn_r _ [42, 43, 44, 45, 46, 47, 48, 49, 50, 51, 41, 52, 53, 54, 55, 56, 57, 58, 59, 70, 71, 72, 73, 74, 75, 76, 77, 78, 79, 80, 81, 82, 83, 84, 85, 86, 87, 88, 89] rfl (by decide +kernel)
set_option maxRecDepth 20000 in
theorem gX11_more_X0_allWeight : GoodIn wsX11_more (wsV RX11 201 RX0 yX0_allWeight wsX0_allWeight) := goodIn_app (goodIn_of _ (by decide +kernel)) ggX11_more_X0_allWeight
theorem dX11_more_0 : decode cX11_more 0 = .ok (.iload_n 1, 1) := by decide +kernel
theorem dX11_more_1 : decode cX11_more 1 = .ok (.iconst 0, 1) := by decide +kernel
theorem dX11_more_2 : decode cX11_more 2 = .ok (.aload_n 0, 1) := by decide +kernel
theorem dX11_more_3 : decode cX11_more 3 = .ok (.getfield 12, 3) := by decide +kernel
theorem dX11_more_6 : decode cX11_more 6 = .ok (.getfield 82, 3) := by decide +kernel
theorem dX11_more_9 : decode cX11_more 9 = .ok (.invokevirtual 259, 3) := by decide +kernel
theorem dX11_more_12 : decode cX11_more 12 = .ok (.invokestatic 78, 3) := by decide +kernel
theorem dX11_more_15 : decode cX11_more 15 = .ok (.ifCond .ne 6, 3) := by decide +kernel
theorem dX11_more_18 : decode cX11_more 18 = .ok (.ldc 167, 2) := by decide +kernel
theorem dX11_more_20 : decode cX11_more 20 = .ok (.ireturn, 1) := by decide +kernel
theorem dX11_more_21 : decode cX11_more 21 = .ok (.aload_n 0, 1) := by decide +kernel
theorem dX11_more_22 : decode cX11_more 22 = .ok (.getfield 12, 3) := by decide +kernel
theorem dX11_more_25 : decode cX11_more 25 = .ok (.getfield 82, 3) := by decide +kernel
theorem dX11_more_28 : decode cX11_more 28 = .ok (.iload_n 1, 1) := by decide +kernel
theorem dX11_more_29 : decode cX11_more 29 = .ok (.invokevirtual 251, 3) := by decide +kernel
theorem dX11_more_32 : decode cX11_more 32 = .ok (.aload_n 0, 1) := by decide +kernel
theorem dX11_more_33 : decode cX11_more 33 = .ok (.getfield 12, 3) := by decide +kernel
theorem dX11_more_36 : decode cX11_more 36 = .ok (.invokevirtual 201, 3) := by decide +kernel
theorem dX11_more_39 : decode cX11_more 39 = .ok (.isub, 1) := by decide +kernel
theorem dX11_more_40 : decode cX11_more 40 = .ok (.ireturn, 1) := by decide +kernel
set_option maxRecDepth 20000 in
theorem ggX11_order_X11_isWithin : GoodIn wsX11_order wsX11_isWithin := goodIn_r _ [10] rfl (by decide +kernel)
set_option maxRecDepth 20000 in
theorem gX11_order_X11_isWithin : GoodIn wsX11_order (va_wsS RX11 78 yX11_isWithin wsX11_isWithin) := goodIn_app (goodIn_of _ (by decide +kernel)) ggX11_order_X11_isWithin
set_option maxRecDepth 20000 in
theorem ggX11_order_X4_arrange : GoodIn wsX11_order wsX4_arrange := goodIn_r _ [15, 16, 17, 18, 19, 20, 21, 14, 22, 23, 24, 25, 26, 27, 28, 29, 30, 31, 32, 33, 34, 35, 36, 37, 38, 39, 40, 41, 42, 43, 44, 45, 46, 47, 48, 49, 50, 51, 62, 63, 64, 65, 66, 67, 68, 69, 70, 71, 72, 73, 74, 75, 76, 77, 78, 79] rfl (by decide +kernel)
set_option maxRecDepth 20000 in
theorem gX11_order_X4_arrange : GoodIn wsX11_order (wsV RX11 262 RX4 yX4_arrange wsX4_arrange) := goodIn_app (goodIn_of _ (by decide +kernel)) ggX11_order_X4_arrange
theorem dX11_order_0 : decode cX11_order 0 = .ok (.iload_n 1, 1) := by decide +kernel
theorem dX11_order_1 : decode cX11_order 1 = .ok (.iconst 0, 1) := by decide +kernel
theorem dX11_order_2 : decode cX11_order 2 = .ok (.iconst 3, 1) := by decide +kernel
theorem dX11_order_3 : decode cX11_order 3 = .ok (.invokestatic 78, 3) := by decide +kernel
theorem dX11_order_6 : decode cX11_order 6 = .ok (.ifCond .eq 7, 3) := by decide +kernel
theorem dX11_order_9 : decode cX11_order 9 = .ok (.iload_n 2, 1) := by decide +kernel
theorem dX11_order_10 : decode cX11_order 10 = .ok (.ifCond .ge 5, 3) := by decide +kernel
theorem dX11_order_13 : decode cX11_order 13 = .ok (.iconst (-1), 1) := by decide +kernel
theorem dX11_order_14 : decode cX11_order 14 = .ok (.ireturn, 1) := by decide +kernel
theorem dX11_order_15 : decode cX11_order 15 = .ok (.iload_n 2, 1) := by decide +kernel
theorem dX11_order_16 : decode cX11_order 16 = .ok (.aload_n 0, 1) := by decide +kernel
theorem dX11_order_17 : decode cX11_order 17 = .ok (.getfield 12, 3) := by decide +kernel
theorem dX11_order_20 : decode cX11_order 20 = .ok (.getfield 131, 3) := by decide +kernel
theorem dX11_order_23 : decode cX11_order 23 = .ok (.getfield 140, 3) := by decide +kernel
theorem dX11_order_26 : decode cX11_order 26 = .ok (.if_icmp .lt 6, 3) := by decide +kernel
theorem dX11_order_29 : decode cX11_order 29 = .ok (.bipush (-2), 2) := by decide +kernel
theorem dX11_order_31 : decode cX11_order 31 = .ok (.ireturn, 1) := by decide +kernel
theorem dX11_order_32 : decode cX11_order 32 = .ok (.aload_n 0, 1) := by decide +kernel
theorem dX11_order_33 : decode cX11_order 33 = .ok (.getfield 42, 3) := by decide +kernel
theorem dX11_order_36 : decode cX11_order 36 = .ok (.aload_n 0, 1) := by decide +kernel
theorem dX11_order_37 : decode cX11_order 37 = .ok (.getfield 12, 3) := by decide +kernel
theorem dX11_order_40 : decode cX11_order 40 = .ok (.iload_n 1, 1) := by decide +kernel
theorem dX11_order_41 : decode cX11_order 41 = .ok (.invokevirtual 262, 3) := by decide +kernel
theorem dX11_order_44 : decode cX11_order 44 = .ok (.aload_n 0, 1) := by decide +kernel
theorem dX11_order_45 : decode cX11_order 45 = .ok (.getfield 12, 3) := by decide +kernel
theorem dX11_order_48 : decode cX11_order 48 = .ok (.getfield 131, 3) := by decide +kernel
theorem dX11_order_51 : decode cX11_order 51 = .ok (.getfield 266, 3) := by decide +kernel
theorem dX11_order_54 : decode cX11_order 54 = .ok (.aload_n 0, 1) := by decide +kernel
theorem dX11_order_55 : decode cX11_order 55 = .ok (.getfield 42, 3) := by decide +kernel
theorem dX11_order_58 : decode cX11_order 58 = .ok (.getfield 269, 3) := by decide +kernel
theorem dX11_order_61 : decode cX11_order 61 = .ok (.iload_n 2, 1) := by decide +kernel
theorem dX11_order_62 : decode cX11_order 62 = .ok (.iaload, 1) := by decide +kernel
theorem dX11_order_63 : decode cX11_order 63 = .ok (.iaload, 1) := by decide +kernel
theorem dX11_order_64 : decode cX11_order 64 = .ok (.ireturn, 1) := by decide +kernel
set_option maxRecDepth 20000 in
theorem ggX11_next_X11_isName : GoodIn wsX11_next wsX11_isName := goodIn_r _ [8, 9, 10, 11, 7, 12] rfl (by decide +kernel)
set_option maxRecDepth 20000 in
theorem gX11_next_X11_isName : GoodIn wsX11_next (va_wsS RX11 122 yX11_isName wsX11_isName) := goodIn_app (goodIn_of _ (by decide +kernel)) ggX11_next_X11_isName
set_option maxRecDepth 20000 in
theorem ggX11_next_X1_placeBehind : GoodIn wsX11_next wsX1_placeBehind := goodIn_r _ [17, 18, 19, 33, 34, 35, 36, 37, 38, 39] rfl (by decide +kernel)
set_option maxRecDepth 20000 in
theorem gX11_next_X1_placeBehind : GoodIn wsX11_next (wsV RX11 272 RX1 yX1_placeBehind wsX1_placeBehind) := goodIn_app (goodIn_of _ (by decide +kernel)) ggX11_next_X1_placeBehind
theorem dX11_next_0 : decode cX11_next 0 = .ok (.iload_n 1, 1) := by decide +kernel
theorem dX11_next_1 : decode cX11_next 1 = .ok (.ifCond .eq 12, 3) := by decide +kernel
theorem dX11_next_4 : decode cX11_next 4 = .ok (.iload_n 1, 1) := by decide +kernel
theorem dX11_next_5 : decode cX11_next 5 = .ok (.invokestatic 122, 3) := by decide +kernel
theorem dX11_next_8 : decode cX11_next 8 = .ok (.ifCond .ne 5, 3) := by decide +kernel
theorem dX11_next_11 : decode cX11_next 11 = .ok (.iconst (-1), 1) := by decide +kernel
theorem dX11_next_12 : decode cX11_next 12 = .ok (.ireturn, 1) := by decide +kernel
theorem dX11_next_13 : decode cX11_next 13 = .ok (.aload_n 0, 1) := by decide +kernel
theorem dX11_next_14 : decode cX11_next 14 = .ok (.getfield 12, 3) := by decide +kernel
theorem dX11_next_17 : decode cX11_next 17 = .ok (.getfield 131, 3) := by decide +kernel
theorem dX11_next_20 : decode cX11_next 20 = .ok (.iload_n 1, 1) := by decide +kernel
theorem dX11_next_21 : decode cX11_next 21 = .ok (.invokevirtual 272, 3) := by decide +kernel
theorem dX11_next_24 : decode cX11_next 24 = .ok (.istore_n 2, 1) := by decide +kernel
theorem dX11_next_25 : decode cX11_next 25 = .ok (.iload_n 2, 1) := by decide +kernel
theorem dX11_next_26 : decode cX11_next 26 = .ok (.aload_n 0, 1) := by decide +kernel
theorem dX11_next_27 : decode cX11_next 27 = .ok (.getfield 12, 3) := by decide +kernel
theorem dX11_next_30 : decode cX11_next 30 = .ok (.getfield 131, 3) := by decide +kernel
theorem dX11_next_33 : decode cX11_next 33 = .ok (.getfield 140, 3) := by decide +kernel
theorem dX11_next_36 : decode cX11_next 36 = .ok (.if_icmp .ge 18, 3) := by decide +kernel
theorem dX11_next_39 : decode cX11_next 39 = .ok (.aload_n 0, 1) := by decide +kernel
theorem dX11_next_40 : decode cX11_next 40 = .ok (.getfield 12, 3) := by decide +kernel
theorem dX11_next_43 : decode cX11_next 43 = .ok (.getfield 131, 3) := by decide +kernel
theorem dX11_next_46 : decode cX11_next 46 = .ok (.getfield 266, 3) := by decide +kernel
theorem dX11_next_49 : decode cX11_next 49 = .ok (.iload_n 2, 1) := by decide +kernel
theorem dX11_next_50 : decode cX11_next 50 = .ok (.iaload, 1) := by decide +kernel
theorem dX11_next_51 : decode cX11_next 51 = .ok (.goto 5, 3) := by decide +kernel
theorem dX11_next_54 : decode cX11_next 54 = .ok (.bipush (-2), 2) := by decide +kernel
theorem dX11_next_56 : decode cX11_next 56 = .ok (.ireturn, 1) := by decide +kernel
set_option maxRecDepth 20000 in
theorem ggX11_turn_X0_bestToTurn : GoodIn wsX11_turn wsX0_bestToTurn := goodIn_r _ [8, 9, 10, 11, 12, 13, 14, 15, 16, 17, 18, 7, 19, 20, 21, 22, 23, 24, 25, 26, 27, 28, 29, 30, 31, 32, 33, 34, 35, 36, 37, 38, 39, 40, 41, 42, 43, 44, 45, 46, 47, 58, 59, 60, 61, 62, 63, 64, 65, 66, 67, 68, 69, 70, 71, 72, 73] rfl (by decide +kernel)
set_option maxRecDepth 20000 in
theorem gX11_turn_X0_bestToTurn : GoodIn wsX11_turn (wsV RX11 275 RX0 yX0_bestToTurn wsX0_bestToTurn) := goodIn_app (goodIn_of _ (by decide +kernel)) ggX11_turn_X0_bestToTurn
theorem dX11_turn_0 : decode cX11_turn 0 = .ok (.aload_n 0, 1) := by decide +kernel
theorem dX11_turn_1 : decode cX11_turn 1 = .ok (.getfield 12, 3) := by decide +kernel
theorem dX11_turn_4 : decode cX11_turn 4 = .ok (.invokevirtual 275, 3) := by decide +kernel
theorem dX11_turn_7 : decode cX11_turn 7 = .ok (.istore_n 1, 1) := by decide +kernel
theorem dX11_turn_8 : decode cX11_turn 8 = .ok (.iload_n 1, 1) := by decide +kernel
theorem dX11_turn_9 : decode cX11_turn 9 = .ok (.ifCond .ge 8, 3) := by decide +kernel
theorem dX11_turn_12 : decode cX11_turn 12 = .ok (.bipush (-2), 2) := by decide +kernel
theorem dX11_turn_14 : decode cX11_turn 14 = .ok (.goto 15, 3) := by decide +kernel
theorem dX11_turn_17 : decode cX11_turn 17 = .ok (.aload_n 0, 1) := by decide +kernel
theorem dX11_turn_18 : decode cX11_turn 18 = .ok (.getfield 12, 3) := by decide +kernel
theorem dX11_turn_21 : decode cX11_turn 21 = .ok (.getfield 131, 3) := by decide +kernel
theorem dX11_turn_24 : decode cX11_turn 24 = .ok (.getfield 266, 3) := by decide +kernel
theorem dX11_turn_27 : decode cX11_turn 27 = .ok (.iload_n 1, 1) := by decide +kernel
theorem dX11_turn_28 : decode cX11_turn 28 = .ok (.iaload, 1) := by decide +kernel
theorem dX11_turn_29 : decode cX11_turn 29 = .ok (.ireturn, 1) := by decide +kernel
set_option maxRecDepth 20000 in
theorem ggX11_change_X11_isWithin : GoodIn wsX11_change wsX11_isWithin := goodIn_r _ [10] rfl (by decide +kernel)
set_option maxRecDepth 20000 in
theorem gX11_change_X11_isWithin : GoodIn wsX11_change (va_wsS RX11 78 yX11_isWithin wsX11_isWithin) := goodIn_app (goodIn_of _ (by decide +kernel)) ggX11_change_X11_isWithin
set_option maxRecDepth 20000 in
theorem ggX11_change_X7_find : GoodIn wsX11_change wsX7_find := goodIn_r _ [15, 16, 17, 18, 19, 20, 21, 22, 23, 24, 25, 26, 27, 28, 29, 30, 31, 32, 33, 34, 35, 36, 37, 38, 39, 40, 41, 42, 43, 44, 45, 46, 47, 48, 49, 50, 51, 52, 53, 54, 55, 56, 57, 58, 59, 60, 61, 62, 63, 64, 65, 66, 67, 68, 69, 70, 71, 72, 73, 74, 75, 76, 77, 78, 79, 80, 81, 82, 83, 84, 85, 86, 87, 88, 89, 90, 91, 92, 93, 94, 14, 95, 96, 97, 108, 109, 110, 111, 112, 113, 114, 115, 116, 117, 118, 119, 120, 121, 122, 123, 124, 125, 126, 127, 128, 129] rfl (by decide +kernel)
set_option maxRecDepth 20000 in
theorem gX11_change_X7_find : GoodIn wsX11_change (wsV RX11 278 RX7 yX7_find wsX7_find) := goodIn_app (goodIn_of _ (by decide +kernel)) ggX11_change_X7_find
theorem dX11_change_0 : decode cX11_change 0 = .ok (.iload_n 1, 1) := by decide +kernel
theorem dX11_change_1 : decode cX11_change 1 = .ok (.iconst 0, 1) := by decide +kernel
theorem dX11_change_2 : decode cX11_change 2 = .ok (.iconst 1, 1) := by decide +kernel
theorem dX11_change_3 : decode cX11_change 3 = .ok (.invokestatic 78, 3) := by decide +kernel
theorem dX11_change_6 : decode cX11_change 6 = .ok (.ifCond .ne 5, 3) := by decide +kernel
theorem dX11_change_9 : decode cX11_change 9 = .ok (.iconst (-1), 1) := by decide +kernel
theorem dX11_change_10 : decode cX11_change 10 = .ok (.ireturn, 1) := by decide +kernel
theorem dX11_change_11 : decode cX11_change 11 = .ok (.aload_n 0, 1) := by decide +kernel
theorem dX11_change_12 : decode cX11_change 12 = .ok (.getfield 56, 3) := by decide +kernel
theorem dX11_change_15 : decode cX11_change 15 = .ok (.aload_n 0, 1) := by decide +kernel
theorem dX11_change_16 : decode cX11_change 16 = .ok (.getfield 12, 3) := by decide +kernel
theorem dX11_change_19 : decode cX11_change 19 = .ok (.invokevirtual 278, 3) := by decide +kernel
theorem dX11_change_22 : decode cX11_change 22 = .ok (.ifCond .ne 6, 3) := by decide +kernel
theorem dX11_change_25 : decode cX11_change 25 = .ok (.bipush (-2), 2) := by decide +kernel
theorem dX11_change_27 : decode cX11_change 27 = .ok (.ireturn, 1) := by decide +kernel
theorem dX11_change_28 : decode cX11_change 28 = .ok (.aload_n 0, 1) := by decide +kernel
theorem dX11_change_29 : decode cX11_change 29 = .ok (.getfield 12, 3) := by decide +kernel
theorem dX11_change_32 : decode cX11_change 32 = .ok (.getfield 131, 3) := by decide +kernel
theorem dX11_change_35 : decode cX11_change 35 = .ok (.getfield 266, 3) := by decide +kernel
theorem dX11_change_38 : decode cX11_change 38 = .ok (.iload_n 1, 1) := by decide +kernel
theorem dX11_change_39 : decode cX11_change 39 = .ok (.ifCond .ne 13, 3) := by decide +kernel
theorem dX11_change_42 : decode cX11_change 42 = .ok (.aload_n 0, 1) := by decide +kernel
theorem dX11_change_43 : decode cX11_change 43 = .ok (.getfield 56, 3) := by decide +kernel
theorem dX11_change_46 : decode cX11_change 46 = .ok (.getfield 279, 3) := by decide +kernel
theorem dX11_change_49 : decode cX11_change 49 = .ok (.goto 10, 3) := by decide +kernel
theorem dX11_change_52 : decode cX11_change 52 = .ok (.aload_n 0, 1) := by decide +kernel
theorem dX11_change_53 : decode cX11_change 53 = .ok (.getfield 56, 3) := by decide +kernel
theorem dX11_change_56 : decode cX11_change 56 = .ok (.getfield 282, 3) := by decide +kernel
theorem dX11_change_59 : decode cX11_change 59 = .ok (.iaload, 1) := by decide +kernel
theorem dX11_change_60 : decode cX11_change 60 = .ok (.ireturn, 1) := by decide +kernel
set_option maxRecDepth 20000 in
theorem ggX11_fits_X11_isRow : GoodIn wsX11_fits wsX11_isRow := goodIn_r _ [15, 16, 17, 14, 18] rfl (by decide +kernel)
set_option maxRecDepth 20000 in
theorem gX11_fits_X11_isRow : GoodIn wsX11_fits (va_wsS RX11 285 yX11_isRow wsX11_isRow) := goodIn_app (goodIn_of _ (by decide +kernel)) ggX11_fits_X11_isRow
set_option maxRecDepth 20000 in
theorem ggX11_fits_X11_isWithin : GoodIn wsX11_fits wsX11_isWithin := goodIn_r _ [18] rfl (by decide +kernel)
set_option maxRecDepth 20000 in
theorem gX11_fits_X11_isWithin : GoodIn wsX11_fits (va_wsS RX11 78 yX11_isWithin wsX11_isWithin) := goodIn_app (goodIn_of _ (by decide +kernel)) ggX11_fits_X11_isWithin
set_option maxRecDepth 20000 in
theorem ggX11_fits_X11_isName : GoodIn wsX11_fits wsX11_isName := goodIn_r _ [21, 22, 16, 17, 14, 18] rfl (by decide +kernel)
set_option maxRecDepth 20000 in
theorem gX11_fits_X11_isName : GoodIn wsX11_fits (va_wsS RX11 122 yX11_isName wsX11_isName) := goodIn_app (goodIn_of _ (by decide +kernel)) ggX11_fits_X11_isName
set_option maxRecDepth 20000 in
theorem ggX11_fits_X1_placeOf : GoodIn wsX11_fits wsX1_placeOf := goodIn_r _ [27, 28, 29, 154, 155, 156, 157, 158, 159, 160] rfl (by decide +kernel)
set_option maxRecDepth 20000 in
theorem gX11_fits_X1_placeOf : GoodIn wsX11_fits (wsV RX11 135 RX1 yX1_placeOf wsX1_placeOf) := goodIn_app (goodIn_of _ (by decide +kernel)) ggX11_fits_X1_placeOf
set_option maxRecDepth 20000 in
theorem ggX11_fits_X6_isMissing : GoodIn wsX11_fits wsX6_isMissing := goodIn_r _ [34, 35, 152, 153] rfl (by decide +kernel)
set_option maxRecDepth 20000 in
theorem gX11_fits_X6_isMissing : GoodIn wsX11_fits (wsV RX11 288 RX6 yX6_isMissing wsX6_isMissing) := goodIn_app (goodIn_of _ (by decide +kernel)) ggX11_fits_X6_isMissing
set_option maxRecDepth 20000 in
theorem ggX11_fits_X3_want : GoodIn wsX11_fits wsX3_want := goodIn_r _ [40, 41, 42, 43, 44, 45, 46, 47, 48, 49, 50, 17, 14, 18, 51, 52, 53, 54, 55, 56, 57, 58, 59, 60, 61, 62, 63, 64, 65, 66, 67, 68, 69, 70, 71, 72, 73, 74, 161, 162, 163, 164, 165, 166, 167, 168, 169, 170, 171] rfl (by decide +kernel)
set_option maxRecDepth 20000 in
theorem gX11_fits_X3_want : GoodIn wsX11_fits (wsV RX11 296 RX3 yX3_want wsX3_want) := goodIn_app (goodIn_of _ (by decide +kernel)) ggX11_fits_X3_want
set_option maxRecDepth 20000 in
theorem ggX11_fits_X3_tryWeights : GoodIn wsX11_fits wsX3_tryWeights := goodIn_r _ [78, 79, 80, 81, 82, 83, 84, 85, 39, 86, 41, 42, 43, 87, 88, 89, 90, 91, 92, 93, 94, 95, 96, 97, 98, 99, 100, 101, 102, 103, 104, 105, 106, 107, 108, 109, 110, 17, 14, 18, 111, 112, 113, 114, 115, 116, 117, 118, 119, 120, 121, 122, 123, 124, 125, 126, 127, 128, 129, 70, 130, 131, 132, 133, 134, 135, 136, 137, 138, 149, 150, 151, 154, 155, 156, 157, 158, 159, 160, 161, 162, 163, 164, 165, 172, 173, 166, 167, 168, 169, 170, 171, 174, 175, 176, 177] rfl (by decide +kernel)
set_option maxRecDepth 20000 in
theorem gX11_fits_X3_tryWeights : GoodIn wsX11_fits (wsV RX11 300 RX3 yX3_tryWeights wsX3_tryWeights) := goodIn_app (goodIn_of _ (by decide +kernel)) ggX11_fits_X3_tryWeights
theorem dX11_fits_0 : decode cX11_fits 0 = .ok (.iload_n 1, 1) := by decide +kernel
theorem dX11_fits_1 : decode cX11_fits 1 = .ok (.invokestatic 285, 3) := by decide +kernel
theorem dX11_fits_4 : decode cX11_fits 4 = .ok (.ifCond .eq 30, 3) := by decide +kernel
theorem dX11_fits_7 : decode cX11_fits 7 = .ok (.iload_n 2, 1) := by decide +kernel
theorem dX11_fits_8 : decode cX11_fits 8 = .ok (.iconst 0, 1) := by decide +kernel
theorem dX11_fits_9 : decode cX11_fits 9 = .ok (.bipush 17, 2) := by decide +kernel
theorem dX11_fits_11 : decode cX11_fits 11 = .ok (.invokestatic 78, 3) := by decide +kernel
theorem dX11_fits_14 : decode cX11_fits 14 = .ok (.ifCond .eq 20, 3) := by decide +kernel
theorem dX11_fits_17 : decode cX11_fits 17 = .ok (.iload_n 3, 1) := by decide +kernel
theorem dX11_fits_18 : decode cX11_fits 18 = .ok (.invokestatic 122, 3) := by decide +kernel
theorem dX11_fits_21 : decode cX11_fits 21 = .ok (.ifCond .eq 13, 3) := by decide +kernel
theorem dX11_fits_24 : decode cX11_fits 24 = .ok (.iload 4, 2) := by decide +kernel
theorem dX11_fits_26 : decode cX11_fits 26 = .ok (.iconst 0, 1) := by decide +kernel
theorem dX11_fits_27 : decode cX11_fits 27 = .ok (.iconst 1, 1) := by decide +kernel
theorem dX11_fits_28 : decode cX11_fits 28 = .ok (.invokestatic 78, 3) := by decide +kernel
theorem dX11_fits_31 : decode cX11_fits 31 = .ok (.ifCond .ne 5, 3) := by decide +kernel
theorem dX11_fits_34 : decode cX11_fits 34 = .ok (.iconst (-1), 1) := by decide +kernel
theorem dX11_fits_35 : decode cX11_fits 35 = .ok (.ireturn, 1) := by decide +kernel
theorem dX11_fits_36 : decode cX11_fits 36 = .ok (.aload_n 0, 1) := by decide +kernel
theorem dX11_fits_37 : decode cX11_fits 37 = .ok (.getfield 12, 3) := by decide +kernel
theorem dX11_fits_40 : decode cX11_fits 40 = .ok (.getfield 131, 3) := by decide +kernel
theorem dX11_fits_43 : decode cX11_fits 43 = .ok (.iload_n 3, 1) := by decide +kernel
theorem dX11_fits_44 : decode cX11_fits 44 = .ok (.invokevirtual 135, 3) := by decide +kernel
theorem dX11_fits_47 : decode cX11_fits 47 = .ok (.istore 5, 2) := by decide +kernel
theorem dX11_fits_49 : decode cX11_fits 49 = .ok (.iload 5, 2) := by decide +kernel
theorem dX11_fits_51 : decode cX11_fits 51 = .ok (.ifCond .ge 6, 3) := by decide +kernel
theorem dX11_fits_54 : decode cX11_fits 54 = .ok (.bipush (-2), 2) := by decide +kernel
theorem dX11_fits_56 : decode cX11_fits 56 = .ok (.ireturn, 1) := by decide +kernel
theorem dX11_fits_57 : decode cX11_fits 57 = .ok (.aload_n 0, 1) := by decide +kernel
theorem dX11_fits_58 : decode cX11_fits 58 = .ok (.getfield 28, 3) := by decide +kernel
theorem dX11_fits_61 : decode cX11_fits 61 = .ok (.iload_n 1, 1) := by decide +kernel
theorem dX11_fits_62 : decode cX11_fits 62 = .ok (.invokevirtual 288, 3) := by decide +kernel
theorem dX11_fits_65 : decode cX11_fits 65 = .ok (.ifCond .eq 6, 3) := by decide +kernel
theorem dX11_fits_68 : decode cX11_fits 68 = .ok (.bipush (-11), 2) := by decide +kernel
theorem dX11_fits_70 : decode cX11_fits 70 = .ok (.ireturn, 1) := by decide +kernel
theorem dX11_fits_71 : decode cX11_fits 71 = .ok (.iload_n 2, 1) := by decide +kernel
theorem dX11_fits_72 : decode cX11_fits 72 = .ok (.aload_n 0, 1) := by decide +kernel
theorem dX11_fits_73 : decode cX11_fits 73 = .ok (.getfield 28, 3) := by decide +kernel
theorem dX11_fits_76 : decode cX11_fits 76 = .ok (.getfield 291, 3) := by decide +kernel
theorem dX11_fits_79 : decode cX11_fits 79 = .ok (.iload_n 1, 1) := by decide +kernel
theorem dX11_fits_80 : decode cX11_fits 80 = .ok (.iaload, 1) := by decide +kernel
theorem dX11_fits_81 : decode cX11_fits 81 = .ok (.if_icmp .le 6, 3) := by decide +kernel
theorem dX11_fits_84 : decode cX11_fits 84 = .ok (.bipush (-13), 2) := by decide +kernel
theorem dX11_fits_86 : decode cX11_fits 86 = .ok (.ireturn, 1) := by decide +kernel
theorem dX11_fits_87 : decode cX11_fits 87 = .ok (.iload_n 2, 1) := by decide +kernel
theorem dX11_fits_88 : decode cX11_fits 88 = .ok (.aload_n 0, 1) := by decide +kernel
theorem dX11_fits_89 : decode cX11_fits 89 = .ok (.getfield 12, 3) := by decide +kernel
theorem dX11_fits_92 : decode cX11_fits 92 = .ok (.getfield 131, 3) := by decide +kernel
theorem dX11_fits_95 : decode cX11_fits 95 = .ok (.getfield 140, 3) := by decide +kernel
theorem dX11_fits_98 : decode cX11_fits 98 = .ok (.iconst 1, 1) := by decide +kernel
theorem dX11_fits_99 : decode cX11_fits 99 = .ok (.iadd, 1) := by decide +kernel
theorem dX11_fits_100 : decode cX11_fits 100 = .ok (.if_icmp .le 6, 3) := by decide +kernel
theorem dX11_fits_103 : decode cX11_fits 103 = .ok (.bipush (-5), 2) := by decide +kernel
theorem dX11_fits_105 : decode cX11_fits 105 = .ok (.ireturn, 1) := by decide +kernel
theorem dX11_fits_106 : decode cX11_fits 106 = .ok (.aload_n 0, 1) := by decide +kernel
theorem dX11_fits_107 : decode cX11_fits 107 = .ok (.getfield 63, 3) := by decide +kernel
theorem dX11_fits_110 : decode cX11_fits 110 = .ok (.aload_n 0, 1) := by decide +kernel
theorem dX11_fits_111 : decode cX11_fits 111 = .ok (.getfield 12, 3) := by decide +kernel
theorem dX11_fits_114 : decode cX11_fits 114 = .ok (.getfield 82, 3) := by decide +kernel
theorem dX11_fits_117 : decode cX11_fits 117 = .ok (.aload_n 0, 1) := by decide +kernel
theorem dX11_fits_118 : decode cX11_fits 118 = .ok (.getfield 28, 3) := by decide +kernel
theorem dX11_fits_121 : decode cX11_fits 121 = .ok (.getfield 293, 3) := by decide +kernel
theorem dX11_fits_124 : decode cX11_fits 124 = .ok (.iload_n 1, 1) := by decide +kernel
theorem dX11_fits_125 : decode cX11_fits 125 = .ok (.aaload, 1) := by decide +kernel
theorem dX11_fits_126 : decode cX11_fits 126 = .ok (.iload_n 2, 1) := by decide +kernel
theorem dX11_fits_127 : decode cX11_fits 127 = .ok (.invokevirtual 296, 3) := by decide +kernel
theorem dX11_fits_130 : decode cX11_fits 130 = .ok (.aload_n 0, 1) := by decide +kernel
theorem dX11_fits_131 : decode cX11_fits 131 = .ok (.getfield 63, 3) := by decide +kernel
theorem dX11_fits_134 : decode cX11_fits 134 = .ok (.aload_n 0, 1) := by decide +kernel
theorem dX11_fits_135 : decode cX11_fits 135 = .ok (.getfield 12, 3) := by decide +kernel
theorem dX11_fits_138 : decode cX11_fits 138 = .ok (.aload_n 0, 1) := by decide +kernel
theorem dX11_fits_139 : decode cX11_fits 139 = .ok (.getfield 42, 3) := by decide +kernel
theorem dX11_fits_142 : decode cX11_fits 142 = .ok (.iload 5, 2) := by decide +kernel
theorem dX11_fits_144 : decode cX11_fits 144 = .ok (.invokevirtual 300, 3) := by decide +kernel
theorem dX11_fits_147 : decode cX11_fits 147 = .ok (.iload 4, 2) := by decide +kernel
theorem dX11_fits_149 : decode cX11_fits 149 = .ok (.ifCond .ne 13, 3) := by decide +kernel
theorem dX11_fits_152 : decode cX11_fits 152 = .ok (.aload_n 0, 1) := by decide +kernel
theorem dX11_fits_153 : decode cX11_fits 153 = .ok (.getfield 63, 3) := by decide +kernel
theorem dX11_fits_156 : decode cX11_fits 156 = .ok (.getfield 304, 3) := by decide +kernel
theorem dX11_fits_159 : decode cX11_fits 159 = .ok (.goto 10, 3) := by decide +kernel
theorem dX11_fits_162 : decode cX11_fits 162 = .ok (.aload_n 0, 1) := by decide +kernel
theorem dX11_fits_163 : decode cX11_fits 163 = .ok (.getfield 63, 3) := by decide +kernel
theorem dX11_fits_166 : decode cX11_fits 166 = .ok (.getfield 307, 3) := by decide +kernel
theorem dX11_fits_169 : decode cX11_fits 169 = .ok (.ireturn, 1) := by decide +kernel
set_option maxRecDepth 20000 in
theorem ggX11_say_X5_write : GoodIn wsX11_say wsX5_write := goodIn_r _ [10, 11, 12, 13, 14, 15, 16, 17, 18, 19, 20, 9, 21, 22, 23, 24, 25, 26, 27, 28, 29, 30, 31, 32, 33, 34, 35, 36, 37, 38, 52, 53, 54, 55, 56, 57, 58, 59, 60] rfl (by decide +kernel)
set_option maxRecDepth 20000 in
theorem gX11_say_X5_write : GoodIn wsX11_say (wsV RX11 310 RX5 yX5_write wsX5_write) := goodIn_app (goodIn_of _ (by decide +kernel)) ggX11_say_X5_write
theorem dX11_say_0 : decode cX11_say 0 = .ok (.iload_n 1, 1) := by decide +kernel
theorem dX11_say_1 : decode cX11_say 1 = .ok (.iconst (-1), 1) := by decide +kernel
theorem dX11_say_2 : decode cX11_say 2 = .ok (.if_icmp .ge 5, 3) := by decide +kernel
theorem dX11_say_5 : decode cX11_say 5 = .ok (.iconst (-1), 1) := by decide +kernel
theorem dX11_say_6 : decode cX11_say 6 = .ok (.ireturn, 1) := by decide +kernel
theorem dX11_say_7 : decode cX11_say 7 = .ok (.aload_n 0, 1) := by decide +kernel
theorem dX11_say_8 : decode cX11_say 8 = .ok (.getfield 70, 3) := by decide +kernel
theorem dX11_say_11 : decode cX11_say 11 = .ok (.aload_n 0, 1) := by decide +kernel
theorem dX11_say_12 : decode cX11_say 12 = .ok (.getfield 12, 3) := by decide +kernel
theorem dX11_say_15 : decode cX11_say 15 = .ok (.getfield 131, 3) := by decide +kernel
theorem dX11_say_18 : decode cX11_say 18 = .ok (.invokevirtual 310, 3) := by decide +kernel
theorem dX11_say_21 : decode cX11_say 21 = .ok (.iload_n 1, 1) := by decide +kernel
theorem dX11_say_22 : decode cX11_say 22 = .ok (.iconst (-1), 1) := by decide +kernel
theorem dX11_say_23 : decode cX11_say 23 = .ok (.if_icmp .ne 11, 3) := by decide +kernel
theorem dX11_say_26 : decode cX11_say 26 = .ok (.aload_n 0, 1) := by decide +kernel
theorem dX11_say_27 : decode cX11_say 27 = .ok (.getfield 70, 3) := by decide +kernel
theorem dX11_say_30 : decode cX11_say 30 = .ok (.getfield 314, 3) := by decide +kernel
theorem dX11_say_33 : decode cX11_say 33 = .ok (.ireturn, 1) := by decide +kernel
theorem dX11_say_34 : decode cX11_say 34 = .ok (.iload_n 1, 1) := by decide +kernel
theorem dX11_say_35 : decode cX11_say 35 = .ok (.aload_n 0, 1) := by decide +kernel
theorem dX11_say_36 : decode cX11_say 36 = .ok (.getfield 70, 3) := by decide +kernel
theorem dX11_say_39 : decode cX11_say 39 = .ok (.getfield 314, 3) := by decide +kernel
theorem dX11_say_42 : decode cX11_say 42 = .ok (.if_icmp .ge 15, 3) := by decide +kernel
theorem dX11_say_45 : decode cX11_say 45 = .ok (.aload_n 0, 1) := by decide +kernel
theorem dX11_say_46 : decode cX11_say 46 = .ok (.getfield 70, 3) := by decide +kernel
theorem dX11_say_49 : decode cX11_say 49 = .ok (.getfield 317, 3) := by decide +kernel
theorem dX11_say_52 : decode cX11_say 52 = .ok (.iload_n 1, 1) := by decide +kernel
theorem dX11_say_53 : decode cX11_say 53 = .ok (.caload, 1) := by decide +kernel
theorem dX11_say_54 : decode cX11_say 54 = .ok (.goto 5, 3) := by decide +kernel
theorem dX11_say_57 : decode cX11_say 57 = .ok (.bipush (-2), 2) := by decide +kernel
theorem dX11_say_59 : decode cX11_say 59 = .ok (.ireturn, 1) := by decide +kernel
set_option maxRecDepth 20000 in
theorem ggX11_feed_X11_isWithin : GoodIn wsX11_feed wsX11_isWithin := goodIn_r _ [7] rfl (by decide +kernel)
set_option maxRecDepth 20000 in
theorem gX11_feed_X11_isWithin : GoodIn wsX11_feed (va_wsS RX11 78 yX11_isWithin wsX11_isWithin) := goodIn_app (goodIn_of _ (by decide +kernel)) ggX11_feed_X11_isWithin
theorem dX11_feed_0 : decode cX11_feed 0 = .ok (.iload_n 1, 1) := by decide +kernel
theorem dX11_feed_1 : decode cX11_feed 1 = .ok (.bipush 32, 2) := by decide +kernel
theorem dX11_feed_3 : decode cX11_feed 3 = .ok (.bipush 126, 2) := by decide +kernel
theorem dX11_feed_5 : decode cX11_feed 5 = .ok (.invokestatic 78, 3) := by decide +kernel
theorem dX11_feed_8 : decode cX11_feed 8 = .ok (.ifCond .ne 5, 3) := by decide +kernel
theorem dX11_feed_11 : decode cX11_feed 11 = .ok (.iconst (-1), 1) := by decide +kernel
theorem dX11_feed_12 : decode cX11_feed 12 = .ok (.ireturn, 1) := by decide +kernel
theorem dX11_feed_13 : decode cX11_feed 13 = .ok (.aload_n 0, 1) := by decide +kernel
theorem dX11_feed_14 : decode cX11_feed 14 = .ok (.getfield 35, 3) := by decide +kernel
theorem dX11_feed_17 : decode cX11_feed 17 = .ok (.getfield 321, 3) := by decide +kernel
theorem dX11_feed_20 : decode cX11_feed 20 = .ok (.aload_n 0, 1) := by decide +kernel
theorem dX11_feed_21 : decode cX11_feed 21 = .ok (.getfield 35, 3) := by decide +kernel
theorem dX11_feed_24 : decode cX11_feed 24 = .ok (.getfield 322, 3) := by decide +kernel
theorem dX11_feed_27 : decode cX11_feed 27 = .ok (.arraylength, 1) := by decide +kernel
theorem dX11_feed_28 : decode cX11_feed 28 = .ok (.if_icmp .lt 6, 3) := by decide +kernel
theorem dX11_feed_31 : decode cX11_feed 31 = .ok (.bipush (-3), 2) := by decide +kernel
theorem dX11_feed_33 : decode cX11_feed 33 = .ok (.ireturn, 1) := by decide +kernel
theorem dX11_feed_34 : decode cX11_feed 34 = .ok (.aload_n 0, 1) := by decide +kernel
theorem dX11_feed_35 : decode cX11_feed 35 = .ok (.getfield 35, 3) := by decide +kernel
theorem dX11_feed_38 : decode cX11_feed 38 = .ok (.getfield 322, 3) := by decide +kernel
theorem dX11_feed_41 : decode cX11_feed 41 = .ok (.aload_n 0, 1) := by decide +kernel
theorem dX11_feed_42 : decode cX11_feed 42 = .ok (.getfield 35, 3) := by decide +kernel
theorem dX11_feed_45 : decode cX11_feed 45 = .ok (.getfield 321, 3) := by decide +kernel
theorem dX11_feed_48 : decode cX11_feed 48 = .ok (.iload_n 1, 1) := by decide +kernel
theorem dX11_feed_49 : decode cX11_feed 49 = .ok (.i2b, 1) := by decide +kernel
theorem dX11_feed_50 : decode cX11_feed 50 = .ok (.bastore, 1) := by decide +kernel
theorem dX11_feed_51 : decode cX11_feed 51 = .ok (.aload_n 0, 1) := by decide +kernel
theorem dX11_feed_52 : decode cX11_feed 52 = .ok (.getfield 35, 3) := by decide +kernel
theorem dX11_feed_55 : decode cX11_feed 55 = .ok (.dup, 1) := by decide +kernel
theorem dX11_feed_56 : decode cX11_feed 56 = .ok (.getfield 321, 3) := by decide +kernel
theorem dX11_feed_59 : decode cX11_feed 59 = .ok (.iconst 1, 1) := by decide +kernel
theorem dX11_feed_60 : decode cX11_feed 60 = .ok (.iadd, 1) := by decide +kernel
theorem dX11_feed_61 : decode cX11_feed 61 = .ok (.putfield 321, 3) := by decide +kernel
theorem dX11_feed_64 : decode cX11_feed 64 = .ok (.aload_n 0, 1) := by decide +kernel
theorem dX11_feed_65 : decode cX11_feed 65 = .ok (.getfield 35, 3) := by decide +kernel
theorem dX11_feed_68 : decode cX11_feed 68 = .ok (.getfield 321, 3) := by decide +kernel
theorem dX11_feed_71 : decode cX11_feed 71 = .ok (.ireturn, 1) := by decide +kernel
theorem dX11_wipe_0 : decode cX11_wipe 0 = .ok (.aload_n 0, 1) := by decide +kernel
theorem dX11_wipe_1 : decode cX11_wipe 1 = .ok (.getfield 35, 3) := by decide +kernel
theorem dX11_wipe_4 : decode cX11_wipe 4 = .ok (.getfield 321, 3) := by decide +kernel
theorem dX11_wipe_7 : decode cX11_wipe 7 = .ok (.istore_n 1, 1) := by decide +kernel
theorem dX11_wipe_8 : decode cX11_wipe 8 = .ok (.aload_n 0, 1) := by decide +kernel
theorem dX11_wipe_9 : decode cX11_wipe 9 = .ok (.getfield 35, 3) := by decide +kernel
theorem dX11_wipe_12 : decode cX11_wipe 12 = .ok (.iconst 0, 1) := by decide +kernel
theorem dX11_wipe_13 : decode cX11_wipe 13 = .ok (.putfield 321, 3) := by decide +kernel
theorem dX11_wipe_16 : decode cX11_wipe 16 = .ok (.iload_n 1, 1) := by decide +kernel
theorem dX11_wipe_17 : decode cX11_wipe 17 = .ok (.ireturn, 1) := by decide +kernel
set_option maxRecDepth 20000 in
theorem ggX11_read_X9_findFault : GoodIn wsX11_read wsX9_findFault := goodIn_r _ [7, 8, 9, 10, 11, 12, 6, 13, 14, 15, 16, 17, 18, 19, 20, 21, 22, 23, 24, 25, 26, 27, 28, 29, 30, 31, 32, 33, 34, 35, 36, 37, 38, 39, 40, 41, 42, 43, 44, 45, 46, 47, 48, 49, 50, 51, 52, 53, 54, 55, 56, 57, 58, 59, 60, 61, 62, 63, 64, 65, 66, 67, 68, 69, 70, 71, 72, 73, 74, 75, 76, 77, 78, 79, 80, 81, 82, 83, 84, 85, 86, 87, 88, 89, 90, 91, 92, 93, 94, 95, 96, 97, 98, 99, 100, 101, 102, 103, 104, 105, 106, 107, 108, 109, 110, 257, 258, 259, 260, 261] rfl (by decide +kernel)
set_option maxRecDepth 20000 in
theorem gX11_read_X9_findFault : GoodIn wsX11_read (wsV RX11 326 RX9 yX9_findFault wsX9_findFault) := goodIn_app (goodIn_of _ (by decide +kernel)) ggX11_read_X9_findFault
set_option maxRecDepth 20000 in
theorem ggX11_read_X11_doAllActs : GoodIn wsX11_read wsX11_doAllActs := goodIn_r _ [114, 1, 115, 2, 116, 11, 12, 6, 13, 14, 15, 8, 16, 17, 18, 19, 9, 20, 21, 22, 23, 24, 25, 26, 27, 28, 29, 30, 31, 32, 33, 34, 35, 36, 37, 38, 39, 40, 41, 42, 43, 44, 45, 46, 47, 48, 49, 50, 51, 52, 53, 54, 55, 56, 57, 58, 59, 60, 61, 62, 63, 64, 65, 66, 67, 68, 69, 70, 71, 72, 73, 74, 75, 76, 77, 78, 79, 80, 81, 82, 83, 84, 85, 86, 87, 88, 89, 90, 91, 92, 93, 94, 95, 96, 97, 98, 99, 100, 101, 102, 103, 104, 105, 106, 117, 118, 119, 120, 121, 122, 123, 124, 125, 126, 127, 128, 129, 130, 131, 132, 133, 134, 135, 136, 137, 138, 139, 140, 141, 142, 143, 144, 145, 146, 147, 148, 149, 150, 151, 152, 153, 154, 155, 156, 157, 158, 159, 160, 161, 162, 163, 164, 165, 166, 167, 168, 169, 170, 171, 172, 173, 174, 175, 176, 177, 178, 179, 180, 181, 182, 183, 184, 185, 186, 187, 188, 189, 190, 191, 192, 193, 194, 195, 196, 197, 198, 199, 200, 201, 202, 203, 204, 205, 206, 207, 208, 209, 210, 211, 212, 213, 214, 215, 216, 217, 218, 219, 220, 221, 222, 223, 224, 225, 226, 227, 228, 229, 230, 231, 232, 233, 234, 235, 236, 237, 238, 239, 240, 241, 242, 243, 244, 245, 246, 108, 109, 110, 247, 248, 249, 250, 251, 252, 253, 254, 255, 256, 257, 258, 259, 260, 261, 262, 263, 264, 265, 266, 267, 268, 269, 270, 271, 272, 273, 274, 275, 276, 277, 278, 279, 280, 281] rfl (by decide +kernel)
set_option maxRecDepth 20000 in
theorem gX11_read_X11_doAllActs : GoodIn wsX11_read (wsV RX11 329 RX11 yX11_doAllActs wsX11_doAllActs) := goodIn_app (goodIn_of _ (by decide +kernel)) ggX11_read_X11_doAllActs
theorem dX11_read_0 : decode cX11_read 0 = .ok (.aload_n 0, 1) := by decide +kernel
theorem dX11_read_1 : decode cX11_read 1 = .ok (.getfield 35, 3) := by decide +kernel
theorem dX11_read_4 : decode cX11_read 4 = .ok (.invokevirtual 326, 3) := by decide +kernel
theorem dX11_read_7 : decode cX11_read 7 = .ok (.istore_n 1, 1) := by decide +kernel
theorem dX11_read_8 : decode cX11_read 8 = .ok (.iload_n 1, 1) := by decide +kernel
theorem dX11_read_9 : decode cX11_read 9 = .ok (.ifCond .lt 10, 3) := by decide +kernel
theorem dX11_read_12 : decode cX11_read 12 = .ok (.bipush (-100), 2) := by decide +kernel
theorem dX11_read_14 : decode cX11_read 14 = .ok (.iload_n 1, 1) := by decide +kernel
theorem dX11_read_15 : decode cX11_read 15 = .ok (.isub, 1) := by decide +kernel
theorem dX11_read_16 : decode cX11_read 16 = .ok (.goto 7, 3) := by decide +kernel
theorem dX11_read_19 : decode cX11_read 19 = .ok (.aload_n 0, 1) := by decide +kernel
theorem dX11_read_20 : decode cX11_read 20 = .ok (.invokevirtual 329, 3) := by decide +kernel
theorem dX11_read_23 : decode cX11_read 23 = .ok (.istore_n 2, 1) := by decide +kernel
theorem dX11_read_24 : decode cX11_read 24 = .ok (.aload_n 0, 1) := by decide +kernel
theorem dX11_read_25 : decode cX11_read 25 = .ok (.getfield 35, 3) := by decide +kernel
theorem dX11_read_28 : decode cX11_read 28 = .ok (.iconst 0, 1) := by decide +kernel
theorem dX11_read_29 : decode cX11_read 29 = .ok (.putfield 321, 3) := by decide +kernel
theorem dX11_read_32 : decode cX11_read 32 = .ok (.iload_n 2, 1) := by decide +kernel
theorem dX11_read_33 : decode cX11_read 33 = .ok (.ireturn, 1) := by decide +kernel
set_option maxRecDepth 20000 in
theorem ggX11_doAllActs_X9_readsAct : GoodIn wsX11_doAllActs wsX9_readsAct := goodIn_r _ [8, 9, 10, 11, 12, 13, 14, 7, 15, 16, 17, 18, 19, 20, 21, 22, 23, 24, 25, 26, 27, 28, 29, 30, 31, 32, 33, 34, 35, 36, 37, 38, 39, 40, 41, 42, 43, 44, 45, 46, 47, 48, 49, 50, 51, 52, 53, 54, 55, 56, 57, 58, 59, 60, 61, 62, 63, 64, 65, 66, 67, 68, 69, 70, 71, 72, 73, 74, 75, 76, 77, 78, 79, 80, 81, 82, 83, 84, 85, 86, 87, 88, 89, 90, 91, 92, 93, 94, 95, 96, 97, 98, 99, 100, 101, 102, 103, 247, 248, 249, 250, 251] rfl (by decide +kernel)
set_option maxRecDepth 20000 in
theorem gX11_doAllActs_X9_readsAct : GoodIn wsX11_doAllActs (wsV RX11 335 RX9 yX9_readsAct wsX9_readsAct) := goodIn_app (goodIn_of _ (by decide +kernel)) ggX11_doAllActs_X9_readsAct
set_option maxRecDepth 20000 in
theorem ggX11_doAllActs_X11_doAct : GoodIn wsX11_doAllActs wsX11_doAct := goodIn_r _ [107, 1, 108, 109, 110, 111, 112, 23, 113, 114, 115, 116, 117, 118, 119, 120, 121, 122, 123, 124, 125, 126, 127, 22, 24, 128, 129, 130, 131, 132, 133, 134, 135, 136, 137, 138, 139, 140, 141, 142, 143, 144, 145, 146, 147, 148, 149, 150, 151, 152, 153, 154, 155, 156, 157, 158, 159, 160, 161, 162, 163, 164, 165, 166, 167, 168, 169, 170, 171, 172, 173, 174, 175, 176, 177, 178, 179, 180, 181, 182, 183, 184, 185, 186, 187, 188, 189, 190, 191, 192, 193, 194, 195, 196, 197, 198, 199, 200, 201, 202, 203, 204, 205, 206, 207, 208, 209, 210, 211, 212, 213, 214, 215, 216, 217, 218, 219, 220, 221, 222, 223, 224, 225, 226, 227, 228, 229, 230, 231, 232, 237, 238, 239, 240, 241, 242, 243, 244, 245, 246, 247, 248, 249, 250, 251, 252, 253, 254, 255, 256, 257, 258, 259, 260, 261, 262, 263, 264, 265, 266, 267, 268, 269, 270, 271] rfl (by decide +kernel)
set_option maxRecDepth 20000 in
theorem gX11_doAllActs_X11_doAct : GoodIn wsX11_doAllActs (wsV RX11 339 RX11 yX11_doAct wsX11_doAct) := goodIn_app (goodIn_of _ (by decide +kernel)) ggX11_doAllActs_X11_doAct
set_option maxRecDepth 20000 in
theorem ggX11_doAllActs_X9_isPartedHere : GoodIn wsX11_doAllActs wsX9_isPartedHere := goodIn_r _ [236, 84, 85, 86, 7, 87, 11, 16, 21, 22, 23, 24, 247, 248, 249, 250, 251] rfl (by decide +kernel)
set_option maxRecDepth 20000 in
theorem gX11_doAllActs_X9_isPartedHere : GoodIn wsX11_doAllActs (wsV RX11 342 RX9 yX9_isPartedHere wsX9_isPartedHere) := goodIn_app (goodIn_of _ (by decide +kernel)) ggX11_doAllActs_X9_isPartedHere
theorem dX11_doAllActs_0 : decode cX11_doAllActs 0 = .ok (.aload_n 0, 1) := by decide +kernel
theorem dX11_doAllActs_1 : decode cX11_doAllActs 1 = .ok (.getfield 35, 3) := by decide +kernel
theorem dX11_doAllActs_4 : decode cX11_doAllActs 4 = .ok (.iconst 0, 1) := by decide +kernel
theorem dX11_doAllActs_5 : decode cX11_doAllActs 5 = .ok (.putfield 332, 3) := by decide +kernel
theorem dX11_doAllActs_8 : decode cX11_doAllActs 8 = .ok (.iconst 0, 1) := by decide +kernel
theorem dX11_doAllActs_9 : decode cX11_doAllActs 9 = .ok (.istore_n 1, 1) := by decide +kernel
theorem dX11_doAllActs_10 : decode cX11_doAllActs 10 = .ok (.iload_n 1, 1) := by decide +kernel
theorem dX11_doAllActs_11 : decode cX11_doAllActs 11 = .ok (.aload_n 0, 1) := by decide +kernel
theorem dX11_doAllActs_12 : decode cX11_doAllActs 12 = .ok (.getfield 35, 3) := by decide +kernel
theorem dX11_doAllActs_15 : decode cX11_doAllActs 15 = .ok (.getfield 321, 3) := by decide +kernel
theorem dX11_doAllActs_18 : decode cX11_doAllActs 18 = .ok (.if_icmp .ge 59, 3) := by decide +kernel
theorem dX11_doAllActs_21 : decode cX11_doAllActs 21 = .ok (.aload_n 0, 1) := by decide +kernel
theorem dX11_doAllActs_22 : decode cX11_doAllActs 22 = .ok (.getfield 35, 3) := by decide +kernel
theorem dX11_doAllActs_25 : decode cX11_doAllActs 25 = .ok (.invokevirtual 335, 3) := by decide +kernel
theorem dX11_doAllActs_28 : decode cX11_doAllActs 28 = .ok (.ifCond .eq 10, 3) := by decide +kernel
theorem dX11_doAllActs_31 : decode cX11_doAllActs 31 = .ok (.aload_n 0, 1) := by decide +kernel
theorem dX11_doAllActs_32 : decode cX11_doAllActs 32 = .ok (.invokevirtual 339, 3) := by decide +kernel
theorem dX11_doAllActs_35 : decode cX11_doAllActs 35 = .ok (.ifCond .ge 9, 3) := by decide +kernel
theorem dX11_doAllActs_38 : decode cX11_doAllActs 38 = .ok (.sipush (-200), 3) := by decide +kernel
theorem dX11_doAllActs_41 : decode cX11_doAllActs 41 = .ok (.iload_n 1, 1) := by decide +kernel
theorem dX11_doAllActs_42 : decode cX11_doAllActs 42 = .ok (.isub, 1) := by decide +kernel
theorem dX11_doAllActs_43 : decode cX11_doAllActs 43 = .ok (.ireturn, 1) := by decide +kernel
theorem dX11_doAllActs_44 : decode cX11_doAllActs 44 = .ok (.aload_n 0, 1) := by decide +kernel
theorem dX11_doAllActs_45 : decode cX11_doAllActs 45 = .ok (.getfield 35, 3) := by decide +kernel
theorem dX11_doAllActs_48 : decode cX11_doAllActs 48 = .ok (.invokevirtual 342, 3) := by decide +kernel
theorem dX11_doAllActs_51 : decode cX11_doAllActs 51 = .ok (.ifCond .ne 7, 3) := by decide +kernel
theorem dX11_doAllActs_54 : decode cX11_doAllActs 54 = .ok (.iload_n 1, 1) := by decide +kernel
theorem dX11_doAllActs_55 : decode cX11_doAllActs 55 = .ok (.iconst 1, 1) := by decide +kernel
theorem dX11_doAllActs_56 : decode cX11_doAllActs 56 = .ok (.iadd, 1) := by decide +kernel
theorem dX11_doAllActs_57 : decode cX11_doAllActs 57 = .ok (.ireturn, 1) := by decide +kernel
theorem dX11_doAllActs_58 : decode cX11_doAllActs 58 = .ok (.aload_n 0, 1) := by decide +kernel
theorem dX11_doAllActs_59 : decode cX11_doAllActs 59 = .ok (.getfield 35, 3) := by decide +kernel
theorem dX11_doAllActs_62 : decode cX11_doAllActs 62 = .ok (.dup, 1) := by decide +kernel
theorem dX11_doAllActs_63 : decode cX11_doAllActs 63 = .ok (.getfield 332, 3) := by decide +kernel
theorem dX11_doAllActs_66 : decode cX11_doAllActs 66 = .ok (.iconst 1, 1) := by decide +kernel
theorem dX11_doAllActs_67 : decode cX11_doAllActs 67 = .ok (.iadd, 1) := by decide +kernel
theorem dX11_doAllActs_68 : decode cX11_doAllActs 68 = .ok (.putfield 332, 3) := by decide +kernel
theorem dX11_doAllActs_71 : decode cX11_doAllActs 71 = .ok (.iinc 1 1, 3) := by decide +kernel
theorem dX11_doAllActs_74 : decode cX11_doAllActs 74 = .ok (.goto (-64), 3) := by decide +kernel
theorem dX11_doAllActs_77 : decode cX11_doAllActs 77 = .ok (.sipush (-200), 3) := by decide +kernel
theorem dX11_doAllActs_80 : decode cX11_doAllActs 80 = .ok (.ireturn, 1) := by decide +kernel
set_option maxRecDepth 20000 in
theorem ggX11_doAct_X11_put : GoodIn wsX11_doAct wsX11_put := goodIn_r _ [8, 9, 10, 11, 12, 13, 14, 15, 16, 17, 18, 19, 7, 20, 21, 22, 23, 24, 25, 26, 27, 28, 29, 30, 31, 32, 33, 34, 35, 36, 37, 38, 39, 40, 41, 42, 43, 44, 45, 46, 47, 48, 49, 50, 51, 52, 53, 54, 55, 56, 57, 58, 59, 60, 61, 62, 63, 64, 65, 66, 67, 68, 130, 131, 132, 133, 134, 135, 136, 137, 138, 139, 145, 146, 147, 148, 149, 150, 151, 152, 153, 154, 155, 156, 157, 158, 159, 160] rfl (by decide +kernel)
set_option maxRecDepth 20000 in
theorem gX11_doAct_X11_put : GoodIn wsX11_doAct (wsV RX11 351 RX11 yX11_put wsX11_put) := goodIn_app (goodIn_of _ (by decide +kernel)) ggX11_doAct_X11_put
set_option maxRecDepth 20000 in
theorem ggX11_doAct_X11_move : GoodIn wsX11_doAct wsX11_move := goodIn_r _ [72, 9, 10, 11, 15, 16, 18, 19, 7, 20, 21, 22, 23, 24, 28, 29, 30, 31, 32, 33, 34, 35, 36, 37, 38, 39, 40, 41, 42, 43, 130, 131, 132, 133, 134, 135, 136, 137, 138, 139, 145, 146, 147, 148, 149, 150, 151, 152, 153, 154, 155, 156, 157, 158, 159, 160] rfl (by decide +kernel)
set_option maxRecDepth 20000 in
theorem gX11_doAct_X11_move : GoodIn wsX11_doAct (wsV RX11 355 RX11 yX11_move wsX11_move) := goodIn_app (goodIn_of _ (by decide +kernel)) ggX11_doAct_X11_move
set_option maxRecDepth 20000 in
theorem ggX11_doAct_X11_take : GoodIn wsX11_doAct wsX11_take := goodIn_r _ [76, 9, 11, 18, 19, 7, 20, 21, 22, 23, 24, 37, 38, 39, 40, 41, 42, 43, 77, 78, 79, 80, 81, 82, 83, 84, 85, 86, 87, 88, 89, 90, 91, 92, 93, 94, 56, 57, 58, 59, 60, 61, 62, 63, 64, 65, 66, 67, 68, 130, 131, 132, 133, 134, 135, 136, 137, 138, 139, 145, 146, 147, 148, 149, 150, 151, 152, 153, 154, 155, 156, 157, 158, 159, 160] rfl (by decide +kernel)
set_option maxRecDepth 20000 in
theorem gX11_doAct_X11_take : GoodIn wsX11_doAct (wsV RX11 359 RX11 yX11_take wsX11_take) := goodIn_app (goodIn_of _ (by decide +kernel)) ggX11_doAct_X11_take
set_option maxRecDepth 20000 in
theorem ggX11_doAct_X11_fill : GoodIn wsX11_doAct wsX11_fill := goodIn_r _ [98, 9, 99, 100, 101, 102, 103, 7, 104, 22, 23, 24, 105, 106, 107, 108, 109, 110, 130, 131, 132, 133, 134, 135, 136, 137, 138, 139, 145, 146, 147, 161, 162, 163, 164] rfl (by decide +kernel)
set_option maxRecDepth 20000 in
theorem gX11_doAct_X11_fill : GoodIn wsX11_doAct (wsV RX11 362 RX11 yX11_fill wsX11_fill) := goodIn_app (goodIn_of _ (by decide +kernel)) ggX11_doAct_X11_fill
set_option maxRecDepth 20000 in
theorem ggX11_doAct_X11_set : GoodIn wsX11_doAct wsX11_set := goodIn_r _ [114, 115, 116, 117, 7, 118, 9, 10, 119, 22, 23, 24, 120, 121, 122, 123, 124, 125, 126, 127, 128, 129, 130, 131, 132, 133, 134, 135, 136, 137, 138, 139, 145, 146, 147, 155, 156, 157, 158, 159, 160] rfl (by decide +kernel)
set_option maxRecDepth 20000 in
theorem gX11_doAct_X11_set : GoodIn wsX11_doAct (wsV RX11 365 RX11 yX11_set wsX11_set) := goodIn_app (goodIn_of _ (by decide +kernel)) ggX11_doAct_X11_set
theorem dX11_doAct_0 : decode cX11_doAct 0 = .ok (.aload_n 0, 1) := by decide +kernel
theorem dX11_doAct_1 : decode cX11_doAct 1 = .ok (.getfield 35, 3) := by decide +kernel
theorem dX11_doAct_4 : decode cX11_doAct 4 = .ok (.getfield 345, 3) := by decide +kernel
theorem dX11_doAct_7 : decode cX11_doAct 7 = .ok (.astore_n 1, 1) := by decide +kernel
theorem dX11_doAct_8 : decode cX11_doAct 8 = .ok (.aload_n 0, 1) := by decide +kernel
theorem dX11_doAct_9 : decode cX11_doAct 9 = .ok (.getfield 35, 3) := by decide +kernel
theorem dX11_doAct_12 : decode cX11_doAct 12 = .ok (.getfield 348, 3) := by decide +kernel
theorem dX11_doAct_15 : decode cX11_doAct 15 = .ok (.tableswitch 85 0 3 #[29, 52, 66, 74], 29) := by decide +kernel
theorem dX11_doAct_44 : decode cX11_doAct 44 = .ok (.aload_n 0, 1) := by decide +kernel
theorem dX11_doAct_45 : decode cX11_doAct 45 = .ok (.aload_n 1, 1) := by decide +kernel
theorem dX11_doAct_46 : decode cX11_doAct 46 = .ok (.iconst 0, 1) := by decide +kernel
theorem dX11_doAct_47 : decode cX11_doAct 47 = .ok (.iaload, 1) := by decide +kernel
theorem dX11_doAct_48 : decode cX11_doAct 48 = .ok (.aload_n 1, 1) := by decide +kernel
theorem dX11_doAct_49 : decode cX11_doAct 49 = .ok (.iconst 1, 1) := by decide +kernel
theorem dX11_doAct_50 : decode cX11_doAct 50 = .ok (.iaload, 1) := by decide +kernel
theorem dX11_doAct_51 : decode cX11_doAct 51 = .ok (.aload_n 1, 1) := by decide +kernel
theorem dX11_doAct_52 : decode cX11_doAct 52 = .ok (.iconst 2, 1) := by decide +kernel
theorem dX11_doAct_53 : decode cX11_doAct 53 = .ok (.iaload, 1) := by decide +kernel
theorem dX11_doAct_54 : decode cX11_doAct 54 = .ok (.aload_n 1, 1) := by decide +kernel
theorem dX11_doAct_55 : decode cX11_doAct 55 = .ok (.iconst 3, 1) := by decide +kernel
theorem dX11_doAct_56 : decode cX11_doAct 56 = .ok (.iaload, 1) := by decide +kernel
theorem dX11_doAct_57 : decode cX11_doAct 57 = .ok (.aload_n 1, 1) := by decide +kernel
theorem dX11_doAct_58 : decode cX11_doAct 58 = .ok (.iconst 4, 1) := by decide +kernel
theorem dX11_doAct_59 : decode cX11_doAct 59 = .ok (.iaload, 1) := by decide +kernel
theorem dX11_doAct_60 : decode cX11_doAct 60 = .ok (.aload_n 1, 1) := by decide +kernel
theorem dX11_doAct_61 : decode cX11_doAct 61 = .ok (.iconst 5, 1) := by decide +kernel
theorem dX11_doAct_62 : decode cX11_doAct 62 = .ok (.iaload, 1) := by decide +kernel
theorem dX11_doAct_63 : decode cX11_doAct 63 = .ok (.invokevirtual 351, 3) := by decide +kernel
theorem dX11_doAct_66 : decode cX11_doAct 66 = .ok (.ireturn, 1) := by decide +kernel
theorem dX11_doAct_67 : decode cX11_doAct 67 = .ok (.aload_n 0, 1) := by decide +kernel
theorem dX11_doAct_68 : decode cX11_doAct 68 = .ok (.aload_n 1, 1) := by decide +kernel
theorem dX11_doAct_69 : decode cX11_doAct 69 = .ok (.iconst 0, 1) := by decide +kernel
theorem dX11_doAct_70 : decode cX11_doAct 70 = .ok (.iaload, 1) := by decide +kernel
theorem dX11_doAct_71 : decode cX11_doAct 71 = .ok (.aload_n 1, 1) := by decide +kernel
theorem dX11_doAct_72 : decode cX11_doAct 72 = .ok (.iconst 1, 1) := by decide +kernel
theorem dX11_doAct_73 : decode cX11_doAct 73 = .ok (.iaload, 1) := by decide +kernel
theorem dX11_doAct_74 : decode cX11_doAct 74 = .ok (.aload_n 1, 1) := by decide +kernel
theorem dX11_doAct_75 : decode cX11_doAct 75 = .ok (.iconst 2, 1) := by decide +kernel
theorem dX11_doAct_76 : decode cX11_doAct 76 = .ok (.iaload, 1) := by decide +kernel
theorem dX11_doAct_77 : decode cX11_doAct 77 = .ok (.invokevirtual 355, 3) := by decide +kernel
theorem dX11_doAct_80 : decode cX11_doAct 80 = .ok (.ireturn, 1) := by decide +kernel
theorem dX11_doAct_81 : decode cX11_doAct 81 = .ok (.aload_n 0, 1) := by decide +kernel
theorem dX11_doAct_82 : decode cX11_doAct 82 = .ok (.aload_n 1, 1) := by decide +kernel
theorem dX11_doAct_83 : decode cX11_doAct 83 = .ok (.iconst 0, 1) := by decide +kernel
theorem dX11_doAct_84 : decode cX11_doAct 84 = .ok (.iaload, 1) := by decide +kernel
theorem dX11_doAct_85 : decode cX11_doAct 85 = .ok (.invokevirtual 359, 3) := by decide +kernel
theorem dX11_doAct_88 : decode cX11_doAct 88 = .ok (.ireturn, 1) := by decide +kernel
theorem dX11_doAct_89 : decode cX11_doAct 89 = .ok (.aload_n 0, 1) := by decide +kernel
theorem dX11_doAct_90 : decode cX11_doAct 90 = .ok (.aload_n 1, 1) := by decide +kernel
theorem dX11_doAct_91 : decode cX11_doAct 91 = .ok (.iconst 0, 1) := by decide +kernel
theorem dX11_doAct_92 : decode cX11_doAct 92 = .ok (.iaload, 1) := by decide +kernel
theorem dX11_doAct_93 : decode cX11_doAct 93 = .ok (.aload_n 1, 1) := by decide +kernel
theorem dX11_doAct_94 : decode cX11_doAct 94 = .ok (.iconst 1, 1) := by decide +kernel
theorem dX11_doAct_95 : decode cX11_doAct 95 = .ok (.iaload, 1) := by decide +kernel
theorem dX11_doAct_96 : decode cX11_doAct 96 = .ok (.invokevirtual 362, 3) := by decide +kernel
theorem dX11_doAct_99 : decode cX11_doAct 99 = .ok (.ireturn, 1) := by decide +kernel
theorem dX11_doAct_100 : decode cX11_doAct 100 = .ok (.aload_n 0, 1) := by decide +kernel
theorem dX11_doAct_101 : decode cX11_doAct 101 = .ok (.iconst 2, 1) := by decide +kernel
theorem dX11_doAct_102 : decode cX11_doAct 102 = .ok (.aload_n 1, 1) := by decide +kernel
theorem dX11_doAct_103 : decode cX11_doAct 103 = .ok (.iconst 0, 1) := by decide +kernel
theorem dX11_doAct_104 : decode cX11_doAct 104 = .ok (.iaload, 1) := by decide +kernel
theorem dX11_doAct_105 : decode cX11_doAct 105 = .ok (.invokevirtual 365, 3) := by decide +kernel
theorem dX11_doAct_108 : decode cX11_doAct 108 = .ok (.ireturn, 1) := by decide +kernel
set_option maxRecDepth 20000 in
theorem ggX11_row_X11_isRow : GoodIn wsX11_row wsX11_isRow := goodIn_r _ [5, 6, 7, 4, 8] rfl (by decide +kernel)
set_option maxRecDepth 20000 in
theorem gX11_row_X11_isRow : GoodIn wsX11_row (va_wsS RX11 285 yX11_isRow wsX11_isRow) := goodIn_app (goodIn_of _ (by decide +kernel)) ggX11_row_X11_isRow
set_option maxRecDepth 20000 in
theorem ggX11_row_X6_make : GoodIn wsX11_row wsX6_make := goodIn_r _ [13, 14, 15, 16, 4, 17, 18, 19, 20, 21, 22, 23, 24, 25, 26, 27, 28, 39, 40] rfl (by decide +kernel)
set_option maxRecDepth 20000 in
theorem gX11_row_X6_make : GoodIn wsX11_row (wsV RX11 368 RX6 yX6_make wsX6_make) := goodIn_app (goodIn_of _ (by decide +kernel)) ggX11_row_X6_make
theorem dX11_row_0 : decode cX11_row 0 = .ok (.iload_n 1, 1) := by decide +kernel
theorem dX11_row_1 : decode cX11_row 1 = .ok (.invokestatic 285, 3) := by decide +kernel
theorem dX11_row_4 : decode cX11_row 4 = .ok (.ifCond .eq 9, 3) := by decide +kernel
theorem dX11_row_7 : decode cX11_row 7 = .ok (.iload_n 2, 1) := by decide +kernel
theorem dX11_row_8 : decode cX11_row 8 = .ok (.bipush 40, 2) := by decide +kernel
theorem dX11_row_10 : decode cX11_row 10 = .ok (.if_icmp .le 5, 3) := by decide +kernel
theorem dX11_row_13 : decode cX11_row 13 = .ok (.iconst (-1), 1) := by decide +kernel
theorem dX11_row_14 : decode cX11_row 14 = .ok (.ireturn, 1) := by decide +kernel
theorem dX11_row_15 : decode cX11_row 15 = .ok (.iload_n 2, 1) := by decide +kernel
theorem dX11_row_16 : decode cX11_row 16 = .ok (.iconst (-1), 1) := by decide +kernel
theorem dX11_row_17 : decode cX11_row 17 = .ok (.if_icmp .ge 6, 3) := by decide +kernel
theorem dX11_row_20 : decode cX11_row 20 = .ok (.bipush (-14), 2) := by decide +kernel
theorem dX11_row_22 : decode cX11_row 22 = .ok (.ireturn, 1) := by decide +kernel
theorem dX11_row_23 : decode cX11_row 23 = .ok (.aload_n 0, 1) := by decide +kernel
theorem dX11_row_24 : decode cX11_row 24 = .ok (.getfield 28, 3) := by decide +kernel
theorem dX11_row_27 : decode cX11_row 27 = .ok (.iload_n 1, 1) := by decide +kernel
theorem dX11_row_28 : decode cX11_row 28 = .ok (.iload_n 2, 1) := by decide +kernel
theorem dX11_row_29 : decode cX11_row 29 = .ok (.invokevirtual 368, 3) := by decide +kernel
theorem dX11_row_32 : decode cX11_row 32 = .ok (.iconst 1, 1) := by decide +kernel
theorem dX11_row_33 : decode cX11_row 33 = .ok (.ireturn, 1) := by decide +kernel
set_option maxRecDepth 20000 in
theorem ggX11_store_X11_isRow : GoodIn wsX11_store wsX11_isRow := goodIn_r _ [6, 7, 8, 5, 9] rfl (by decide +kernel)
set_option maxRecDepth 20000 in
theorem gX11_store_X11_isRow : GoodIn wsX11_store (va_wsS RX11 285 yX11_isRow wsX11_isRow) := goodIn_app (goodIn_of _ (by decide +kernel)) ggX11_store_X11_isRow
set_option maxRecDepth 20000 in
theorem ggX11_store_X6_isMissing : GoodIn wsX11_store wsX6_isMissing := goodIn_r _ [14, 15, 30, 31] rfl (by decide +kernel)
set_option maxRecDepth 20000 in
theorem gX11_store_X6_isMissing : GoodIn wsX11_store (wsV RX11 288 RX6 yX6_isMissing wsX6_isMissing) := goodIn_app (goodIn_of _ (by decide +kernel)) ggX11_store_X6_isMissing
set_option maxRecDepth 20000 in
theorem ggX11_store_X6_hasPlace : GoodIn wsX11_store wsX6_hasPlace := goodIn_r _ [19, 15, 8, 5, 9, 30, 31] rfl (by decide +kernel)
set_option maxRecDepth 20000 in
theorem gX11_store_X6_hasPlace : GoodIn wsX11_store (wsV RX11 372 RX6 yX6_hasPlace wsX6_hasPlace) := goodIn_app (goodIn_of _ (by decide +kernel)) ggX11_store_X6_hasPlace
theorem dX11_store_0 : decode cX11_store 0 = .ok (.iload_n 1, 1) := by decide +kernel
theorem dX11_store_1 : decode cX11_store 1 = .ok (.invokestatic 285, 3) := by decide +kernel
theorem dX11_store_4 : decode cX11_store 4 = .ok (.ifCond .ne 5, 3) := by decide +kernel
theorem dX11_store_7 : decode cX11_store 7 = .ok (.iconst (-1), 1) := by decide +kernel
theorem dX11_store_8 : decode cX11_store 8 = .ok (.ireturn, 1) := by decide +kernel
theorem dX11_store_9 : decode cX11_store 9 = .ok (.aload_n 0, 1) := by decide +kernel
theorem dX11_store_10 : decode cX11_store 10 = .ok (.getfield 28, 3) := by decide +kernel
theorem dX11_store_13 : decode cX11_store 13 = .ok (.iload_n 1, 1) := by decide +kernel
theorem dX11_store_14 : decode cX11_store 14 = .ok (.invokevirtual 288, 3) := by decide +kernel
theorem dX11_store_17 : decode cX11_store 17 = .ok (.ifCond .eq 6, 3) := by decide +kernel
theorem dX11_store_20 : decode cX11_store 20 = .ok (.bipush (-11), 2) := by decide +kernel
theorem dX11_store_22 : decode cX11_store 22 = .ok (.ireturn, 1) := by decide +kernel
theorem dX11_store_23 : decode cX11_store 23 = .ok (.aload_n 0, 1) := by decide +kernel
theorem dX11_store_24 : decode cX11_store 24 = .ok (.getfield 28, 3) := by decide +kernel
theorem dX11_store_27 : decode cX11_store 27 = .ok (.iload_n 1, 1) := by decide +kernel
theorem dX11_store_28 : decode cX11_store 28 = .ok (.iload_n 2, 1) := by decide +kernel
theorem dX11_store_29 : decode cX11_store 29 = .ok (.invokevirtual 372, 3) := by decide +kernel
theorem dX11_store_32 : decode cX11_store 32 = .ok (.ifCond .ne 6, 3) := by decide +kernel
theorem dX11_store_35 : decode cX11_store 35 = .ok (.bipush (-13), 2) := by decide +kernel
theorem dX11_store_37 : decode cX11_store 37 = .ok (.ireturn, 1) := by decide +kernel
theorem dX11_store_38 : decode cX11_store 38 = .ok (.aload_n 0, 1) := by decide +kernel
theorem dX11_store_39 : decode cX11_store 39 = .ok (.getfield 28, 3) := by decide +kernel
theorem dX11_store_42 : decode cX11_store 42 = .ok (.getfield 293, 3) := by decide +kernel
theorem dX11_store_45 : decode cX11_store 45 = .ok (.iload_n 1, 1) := by decide +kernel
theorem dX11_store_46 : decode cX11_store 46 = .ok (.aaload, 1) := by decide +kernel
theorem dX11_store_47 : decode cX11_store 47 = .ok (.iload_n 2, 1) := by decide +kernel
theorem dX11_store_48 : decode cX11_store 48 = .ok (.iload_n 3, 1) := by decide +kernel
theorem dX11_store_49 : decode cX11_store 49 = .ok (.iastore, 1) := by decide +kernel
theorem dX11_store_50 : decode cX11_store 50 = .ok (.iconst 1, 1) := by decide +kernel
theorem dX11_store_51 : decode cX11_store 51 = .ok (.ireturn, 1) := by decide +kernel
set_option maxRecDepth 20000 in
theorem ggX11_get_X11_isRow : GoodIn wsX11_get wsX11_isRow := goodIn_r _ [7, 8, 9, 6, 10] rfl (by decide +kernel)
set_option maxRecDepth 20000 in
theorem gX11_get_X11_isRow : GoodIn wsX11_get (va_wsS RX11 285 yX11_isRow wsX11_isRow) := goodIn_app (goodIn_of _ (by decide +kernel)) ggX11_get_X11_isRow
set_option maxRecDepth 20000 in
theorem ggX11_get_X6_hasPlace : GoodIn wsX11_get wsX6_hasPlace := goodIn_r _ [15, 16, 9, 6, 10, 27, 28] rfl (by decide +kernel)
set_option maxRecDepth 20000 in
theorem gX11_get_X6_hasPlace : GoodIn wsX11_get (wsV RX11 372 RX6 yX6_hasPlace wsX6_hasPlace) := goodIn_app (goodIn_of _ (by decide +kernel)) ggX11_get_X6_hasPlace
theorem dX11_get_0 : decode cX11_get 0 = .ok (.iload_n 1, 1) := by decide +kernel
theorem dX11_get_1 : decode cX11_get 1 = .ok (.invokestatic 285, 3) := by decide +kernel
theorem dX11_get_4 : decode cX11_get 4 = .ok (.ifCond .eq 15, 3) := by decide +kernel
theorem dX11_get_7 : decode cX11_get 7 = .ok (.aload_n 0, 1) := by decide +kernel
theorem dX11_get_8 : decode cX11_get 8 = .ok (.getfield 28, 3) := by decide +kernel
theorem dX11_get_11 : decode cX11_get 11 = .ok (.iload_n 1, 1) := by decide +kernel
theorem dX11_get_12 : decode cX11_get 12 = .ok (.iload_n 2, 1) := by decide +kernel
theorem dX11_get_13 : decode cX11_get 13 = .ok (.invokevirtual 372, 3) := by decide +kernel
theorem dX11_get_16 : decode cX11_get 16 = .ok (.ifCond .ne 6, 3) := by decide +kernel
theorem dX11_get_19 : decode cX11_get 19 = .ok (.ldc 167, 2) := by decide +kernel
theorem dX11_get_21 : decode cX11_get 21 = .ok (.ireturn, 1) := by decide +kernel
theorem dX11_get_22 : decode cX11_get 22 = .ok (.aload_n 0, 1) := by decide +kernel
theorem dX11_get_23 : decode cX11_get 23 = .ok (.getfield 28, 3) := by decide +kernel
theorem dX11_get_26 : decode cX11_get 26 = .ok (.getfield 293, 3) := by decide +kernel
theorem dX11_get_29 : decode cX11_get 29 = .ok (.iload_n 1, 1) := by decide +kernel
theorem dX11_get_30 : decode cX11_get 30 = .ok (.aaload, 1) := by decide +kernel
theorem dX11_get_31 : decode cX11_get 31 = .ok (.iload_n 2, 1) := by decide +kernel
theorem dX11_get_32 : decode cX11_get 32 = .ok (.iaload, 1) := by decide +kernel
theorem dX11_get_33 : decode cX11_get 33 = .ok (.ireturn, 1) := by decide +kernel
set_option maxRecDepth 20000 in
theorem ggX11_film_X11_isRow : GoodIn wsX11_film wsX11_isRow := goodIn_r _ [11, 12, 13, 10, 14] rfl (by decide +kernel)
set_option maxRecDepth 20000 in
theorem gX11_film_X11_isRow : GoodIn wsX11_film (va_wsS RX11 285 yX11_isRow wsX11_isRow) := goodIn_app (goodIn_of _ (by decide +kernel)) ggX11_film_X11_isRow
set_option maxRecDepth 20000 in
theorem ggX11_film_X6_make : GoodIn wsX11_film wsX6_make := goodIn_r _ [19, 20, 21, 22, 10, 23, 24, 25, 26, 27, 28, 29, 30, 31, 32, 33, 34, 141, 142] rfl (by decide +kernel)
set_option maxRecDepth 20000 in
theorem gX11_film_X6_make : GoodIn wsX11_film (wsV RX11 368 RX6 yX6_make wsX6_make) := goodIn_app (goodIn_of _ (by decide +kernel)) ggX11_film_X6_make
set_option maxRecDepth 20000 in
theorem ggX11_film_X3_writeLines : GoodIn wsX11_film wsX3_writeLines := goodIn_r _ [39, 40, 41, 42, 43, 44, 45, 46, 47, 48, 49, 50, 51, 52, 53, 54, 55, 56, 57, 58, 59, 60, 61, 62, 26, 63, 64, 65, 66, 67, 68, 69, 70, 71, 72, 73, 74, 75, 76, 77, 78, 79, 80, 81, 82, 83, 84, 85, 86, 87, 88, 89, 90, 91, 92, 93, 94, 95, 96, 97, 98, 99, 100, 101, 102, 103, 104, 105, 106, 107, 108, 109, 110, 111, 112, 113, 114, 115, 116, 117, 25, 27, 118, 119, 120, 131, 132, 133, 134, 135, 136, 137, 138, 139, 140, 143, 144, 145, 146, 147, 148, 149, 150, 151, 152, 153, 154] rfl (by decide +kernel)
set_option maxRecDepth 20000 in
theorem gX11_film_X3_writeLines : GoodIn wsX11_film (wsV RX11 375 RX3 yX3_writeLines wsX3_writeLines) := goodIn_app (goodIn_of _ (by decide +kernel)) ggX11_film_X3_writeLines
theorem dX11_film_0 : decode cX11_film 0 = .ok (.iload_n 1, 1) := by decide +kernel
theorem dX11_film_1 : decode cX11_film 1 = .ok (.invokestatic 285, 3) := by decide +kernel
theorem dX11_film_4 : decode cX11_film 4 = .ok (.ifCond .ne 5, 3) := by decide +kernel
theorem dX11_film_7 : decode cX11_film 7 = .ok (.iconst (-1), 1) := by decide +kernel
theorem dX11_film_8 : decode cX11_film 8 = .ok (.ireturn, 1) := by decide +kernel
theorem dX11_film_9 : decode cX11_film 9 = .ok (.aload_n 0, 1) := by decide +kernel
theorem dX11_film_10 : decode cX11_film 10 = .ok (.getfield 12, 3) := by decide +kernel
theorem dX11_film_13 : decode cX11_film 13 = .ok (.getfield 131, 3) := by decide +kernel
theorem dX11_film_16 : decode cX11_film 16 = .ok (.getfield 140, 3) := by decide +kernel
theorem dX11_film_19 : decode cX11_film 19 = .ok (.iconst 1, 1) := by decide +kernel
theorem dX11_film_20 : decode cX11_film 20 = .ok (.iadd, 1) := by decide +kernel
theorem dX11_film_21 : decode cX11_film 21 = .ok (.istore_n 2, 1) := by decide +kernel
theorem dX11_film_22 : decode cX11_film 22 = .ok (.aload_n 0, 1) := by decide +kernel
theorem dX11_film_23 : decode cX11_film 23 = .ok (.getfield 28, 3) := by decide +kernel
theorem dX11_film_26 : decode cX11_film 26 = .ok (.iload_n 1, 1) := by decide +kernel
theorem dX11_film_27 : decode cX11_film 27 = .ok (.iload_n 2, 1) := by decide +kernel
theorem dX11_film_28 : decode cX11_film 28 = .ok (.invokevirtual 368, 3) := by decide +kernel
theorem dX11_film_31 : decode cX11_film 31 = .ok (.aload_n 0, 1) := by decide +kernel
theorem dX11_film_32 : decode cX11_film 32 = .ok (.getfield 63, 3) := by decide +kernel
theorem dX11_film_35 : decode cX11_film 35 = .ok (.aload_n 0, 1) := by decide +kernel
theorem dX11_film_36 : decode cX11_film 36 = .ok (.getfield 12, 3) := by decide +kernel
theorem dX11_film_39 : decode cX11_film 39 = .ok (.aload_n 0, 1) := by decide +kernel
theorem dX11_film_40 : decode cX11_film 40 = .ok (.getfield 42, 3) := by decide +kernel
theorem dX11_film_43 : decode cX11_film 43 = .ok (.aload_n 0, 1) := by decide +kernel
theorem dX11_film_44 : decode cX11_film 44 = .ok (.getfield 28, 3) := by decide +kernel
theorem dX11_film_47 : decode cX11_film 47 = .ok (.getfield 293, 3) := by decide +kernel
theorem dX11_film_50 : decode cX11_film 50 = .ok (.iload_n 1, 1) := by decide +kernel
theorem dX11_film_51 : decode cX11_film 51 = .ok (.aaload, 1) := by decide +kernel
theorem dX11_film_52 : decode cX11_film 52 = .ok (.invokevirtual 375, 3) := by decide +kernel
theorem dX11_film_55 : decode cX11_film 55 = .ok (.iload_n 2, 1) := by decide +kernel
theorem dX11_film_56 : decode cX11_film 56 = .ok (.ireturn, 1) := by decide +kernel
set_option maxRecDepth 20000 in
theorem ggX11_image_X0_copyFrom : GoodIn wsX11_image wsX0_copyFrom := goodIn_r _ [10, 11, 12, 13, 14, 15, 16, 17, 18, 19, 20, 21, 22, 23, 24, 25, 26, 27, 28, 29, 30, 31, 32, 33, 34, 35, 36, 37, 38, 39, 40, 41, 42, 43, 44, 45, 46, 47, 48, 49, 50, 51, 52, 53, 54, 55, 66, 67, 68, 76, 77, 78, 79, 80, 81, 69, 70, 71, 72, 73, 74, 75, 82, 83, 84, 85] rfl (by decide +kernel)
set_option maxRecDepth 20000 in
theorem gX11_image_X0_copyFrom : GoodIn wsX11_image (wsV RX11 379 RX0 yX0_copyFrom wsX0_copyFrom) := goodIn_app (goodIn_of _ (by decide +kernel)) ggX11_image_X0_copyFrom
theorem dX11_image_0 : decode cX11_image 0 = .ok (.aload_n 0, 1) := by decide +kernel
theorem dX11_image_1 : decode cX11_image 1 = .ok (.getfield 18, 3) := by decide +kernel
theorem dX11_image_4 : decode cX11_image 4 = .ok (.aload_n 0, 1) := by decide +kernel
theorem dX11_image_5 : decode cX11_image 5 = .ok (.getfield 12, 3) := by decide +kernel
theorem dX11_image_8 : decode cX11_image 8 = .ok (.invokevirtual 379, 3) := by decide +kernel
theorem dX11_image_11 : decode cX11_image 11 = .ok (.aload_n 0, 1) := by decide +kernel
theorem dX11_image_12 : decode cX11_image 12 = .ok (.iconst 1, 1) := by decide +kernel
theorem dX11_image_13 : decode cX11_image 13 = .ok (.putfield 21, 3) := by decide +kernel
theorem dX11_image_16 : decode cX11_image 16 = .ok (.aload_n 0, 1) := by decide +kernel
theorem dX11_image_17 : decode cX11_image 17 = .ok (.getfield 18, 3) := by decide +kernel
theorem dX11_image_20 : decode cX11_image 20 = .ok (.getfield 131, 3) := by decide +kernel
theorem dX11_image_23 : decode cX11_image 23 = .ok (.getfield 140, 3) := by decide +kernel
theorem dX11_image_26 : decode cX11_image 26 = .ok (.ireturn, 1) := by decide +kernel
set_option maxRecDepth 20000 in
theorem ggX11_undo_X0_copyFrom : GoodIn wsX11_undo wsX0_copyFrom := goodIn_r _ [10, 11, 12, 13, 14, 15, 16, 17, 18, 19, 20, 21, 22, 23, 24, 25, 26, 27, 28, 29, 30, 31, 32, 33, 34, 35, 36, 37, 38, 39, 40, 41, 42, 43, 44, 45, 46, 47, 48, 49, 50, 51, 52, 53, 54, 55, 66, 67, 68, 76, 77, 78, 79, 80, 81, 69, 70, 71, 72, 73, 74, 75, 82, 83, 84, 85] rfl (by decide +kernel)
set_option maxRecDepth 20000 in
theorem gX11_undo_X0_copyFrom : GoodIn wsX11_undo (wsV RX11 379 RX0 yX0_copyFrom wsX0_copyFrom) := goodIn_app (goodIn_of _ (by decide +kernel)) ggX11_undo_X0_copyFrom
theorem dX11_undo_0 : decode cX11_undo 0 = .ok (.aload_n 0, 1) := by decide +kernel
theorem dX11_undo_1 : decode cX11_undo 1 = .ok (.getfield 21, 3) := by decide +kernel
theorem dX11_undo_4 : decode cX11_undo 4 = .ok (.ifCond .ne 6, 3) := by decide +kernel
theorem dX11_undo_7 : decode cX11_undo 7 = .ok (.bipush (-5), 2) := by decide +kernel
theorem dX11_undo_9 : decode cX11_undo 9 = .ok (.ireturn, 1) := by decide +kernel
theorem dX11_undo_10 : decode cX11_undo 10 = .ok (.aload_n 0, 1) := by decide +kernel
theorem dX11_undo_11 : decode cX11_undo 11 = .ok (.getfield 12, 3) := by decide +kernel
theorem dX11_undo_14 : decode cX11_undo 14 = .ok (.aload_n 0, 1) := by decide +kernel
theorem dX11_undo_15 : decode cX11_undo 15 = .ok (.getfield 18, 3) := by decide +kernel
theorem dX11_undo_18 : decode cX11_undo 18 = .ok (.invokevirtual 379, 3) := by decide +kernel
theorem dX11_undo_21 : decode cX11_undo 21 = .ok (.aload_n 0, 1) := by decide +kernel
theorem dX11_undo_22 : decode cX11_undo 22 = .ok (.getfield 12, 3) := by decide +kernel
theorem dX11_undo_25 : decode cX11_undo 25 = .ok (.getfield 131, 3) := by decide +kernel
theorem dX11_undo_28 : decode cX11_undo 28 = .ok (.getfield 140, 3) := by decide +kernel
theorem dX11_undo_31 : decode cX11_undo 31 = .ok (.ireturn, 1) := by decide +kernel
set_option maxRecDepth 20000 in
theorem ggX11_count_X8_howManyThere : GoodIn wsX11_count wsX8_howManyThere := goodIn_r _ [16, 17, 18, 19, 15, 20, 21, 53, 54, 55, 56] rfl (by decide +kernel)
set_option maxRecDepth 20000 in
theorem gX11_count_X8_howManyThere : GoodIn wsX11_count (wsV RX11 383 RX8 yX8_howManyThere wsX8_howManyThere) := goodIn_app (goodIn_of _ (by decide +kernel)) ggX11_count_X8_howManyThere
theorem dX11_count_0 : decode cX11_count 0 = .ok (.iload_n 1, 1) := by decide +kernel
theorem dX11_count_1 : decode cX11_count 1 = .ok (.tableswitch 117 0 6 #[43, 54, 65, 76, 87, 98, 106], 43) := by decide +kernel
theorem dX11_count_44 : decode cX11_count 44 = .ok (.aload_n 0, 1) := by decide +kernel
theorem dX11_count_45 : decode cX11_count 45 = .ok (.getfield 12, 3) := by decide +kernel
theorem dX11_count_48 : decode cX11_count 48 = .ok (.getfield 82, 3) := by decide +kernel
theorem dX11_count_51 : decode cX11_count 51 = .ok (.getfield 86, 3) := by decide +kernel
theorem dX11_count_54 : decode cX11_count 54 = .ok (.ireturn, 1) := by decide +kernel
theorem dX11_count_55 : decode cX11_count 55 = .ok (.aload_n 0, 1) := by decide +kernel
theorem dX11_count_56 : decode cX11_count 56 = .ok (.getfield 12, 3) := by decide +kernel
theorem dX11_count_59 : decode cX11_count 59 = .ok (.getfield 131, 3) := by decide +kernel
theorem dX11_count_62 : decode cX11_count 62 = .ok (.getfield 140, 3) := by decide +kernel
theorem dX11_count_65 : decode cX11_count 65 = .ok (.ireturn, 1) := by decide +kernel
theorem dX11_count_66 : decode cX11_count 66 = .ok (.aload_n 0, 1) := by decide +kernel
theorem dX11_count_67 : decode cX11_count 67 = .ok (.getfield 12, 3) := by decide +kernel
theorem dX11_count_70 : decode cX11_count 70 = .ok (.getfield 82, 3) := by decide +kernel
theorem dX11_count_73 : decode cX11_count 73 = .ok (.getfield 113, 3) := by decide +kernel
theorem dX11_count_76 : decode cX11_count 76 = .ok (.ireturn, 1) := by decide +kernel
theorem dX11_count_77 : decode cX11_count 77 = .ok (.aload_n 0, 1) := by decide +kernel
theorem dX11_count_78 : decode cX11_count 78 = .ok (.getfield 12, 3) := by decide +kernel
theorem dX11_count_81 : decode cX11_count 81 = .ok (.getfield 82, 3) := by decide +kernel
theorem dX11_count_84 : decode cX11_count 84 = .ok (.getfield 116, 3) := by decide +kernel
theorem dX11_count_87 : decode cX11_count 87 = .ok (.ireturn, 1) := by decide +kernel
theorem dX11_count_88 : decode cX11_count 88 = .ok (.aload_n 0, 1) := by decide +kernel
theorem dX11_count_89 : decode cX11_count 89 = .ok (.getfield 12, 3) := by decide +kernel
theorem dX11_count_92 : decode cX11_count 92 = .ok (.getfield 82, 3) := by decide +kernel
theorem dX11_count_95 : decode cX11_count 95 = .ok (.getfield 119, 3) := by decide +kernel
theorem dX11_count_98 : decode cX11_count 98 = .ok (.ireturn, 1) := by decide +kernel
theorem dX11_count_99 : decode cX11_count 99 = .ok (.aload_n 0, 1) := by decide +kernel
theorem dX11_count_100 : decode cX11_count 100 = .ok (.getfield 35, 3) := by decide +kernel
theorem dX11_count_103 : decode cX11_count 103 = .ok (.getfield 321, 3) := by decide +kernel
theorem dX11_count_106 : decode cX11_count 106 = .ok (.ireturn, 1) := by decide +kernel
theorem dX11_count_107 : decode cX11_count 107 = .ok (.aload_n 0, 1) := by decide +kernel
theorem dX11_count_108 : decode cX11_count 108 = .ok (.getfield 12, 3) := by decide +kernel
theorem dX11_count_111 : decode cX11_count 111 = .ok (.getfield 182, 3) := by decide +kernel
theorem dX11_count_114 : decode cX11_count 114 = .ok (.invokevirtual 383, 3) := by decide +kernel
theorem dX11_count_117 : decode cX11_count 117 = .ok (.ireturn, 1) := by decide +kernel
theorem dX11_count_118 : decode cX11_count 118 = .ok (.iconst (-1), 1) := by decide +kernel
theorem dX11_count_119 : decode cX11_count 119 = .ok (.ireturn, 1) := by decide +kernel
theorem dX11_isWithin_0 : decode cX11_isWithin 0 = .ok (.iload_n 0, 1) := by decide +kernel
theorem dX11_isWithin_1 : decode cX11_isWithin 1 = .ok (.iload_n 1, 1) := by decide +kernel
theorem dX11_isWithin_2 : decode cX11_isWithin 2 = .ok (.if_icmp .lt 12, 3) := by decide +kernel
theorem dX11_isWithin_5 : decode cX11_isWithin 5 = .ok (.iload_n 0, 1) := by decide +kernel
theorem dX11_isWithin_6 : decode cX11_isWithin 6 = .ok (.iload_n 2, 1) := by decide +kernel
theorem dX11_isWithin_7 : decode cX11_isWithin 7 = .ok (.if_icmp .gt 7, 3) := by decide +kernel
theorem dX11_isWithin_10 : decode cX11_isWithin 10 = .ok (.iconst 1, 1) := by decide +kernel
theorem dX11_isWithin_11 : decode cX11_isWithin 11 = .ok (.goto 4, 3) := by decide +kernel
theorem dX11_isWithin_14 : decode cX11_isWithin 14 = .ok (.iconst 0, 1) := by decide +kernel
theorem dX11_isWithin_15 : decode cX11_isWithin 15 = .ok (.ireturn, 1) := by decide +kernel
theorem dX11_held_0 : decode cX11_held 0 = .ok (.iload_n 1, 1) := by decide +kernel
theorem dX11_held_1 : decode cX11_held 1 = .ok (.iload_n 0, 1) := by decide +kernel
theorem dX11_held_2 : decode cX11_held 2 = .ok (.iload_n 2, 1) := by decide +kernel
theorem dX11_held_3 : decode cX11_held 3 = .ok (.invokestatic 386, 3) := by decide +kernel
theorem dX11_held_6 : decode cX11_held 6 = .ok (.invokestatic 254, 3) := by decide +kernel
theorem dX11_held_9 : decode cX11_held 9 = .ok (.ireturn, 1) := by decide +kernel
set_option maxRecDepth 20000 in
theorem ggX11_isName_X11_isWithin : GoodIn wsX11_isName wsX11_isWithin := goodIn_r _ [5] rfl (by decide +kernel)
set_option maxRecDepth 20000 in
theorem gX11_isName_X11_isWithin : GoodIn wsX11_isName (va_wsS RX11 78 yX11_isWithin wsX11_isWithin) := goodIn_app (goodIn_of _ (by decide +kernel)) ggX11_isName_X11_isWithin
theorem dX11_isName_0 : decode cX11_isName 0 = .ok (.iload_n 0, 1) := by decide +kernel
theorem dX11_isName_1 : decode cX11_isName 1 = .ok (.iconst 1, 1) := by decide +kernel
theorem dX11_isName_2 : decode cX11_isName 2 = .ok (.ldc_w 389, 3) := by decide +kernel
theorem dX11_isName_5 : decode cX11_isName 5 = .ok (.invokestatic 78, 3) := by decide +kernel
theorem dX11_isName_8 : decode cX11_isName 8 = .ok (.ifCond .ne 5, 3) := by decide +kernel
theorem dX11_isName_11 : decode cX11_isName 11 = .ok (.iconst 0, 1) := by decide +kernel
theorem dX11_isName_12 : decode cX11_isName 12 = .ok (.ireturn, 1) := by decide +kernel
theorem dX11_isName_13 : decode cX11_isName 13 = .ok (.iload_n 0, 1) := by decide +kernel
theorem dX11_isName_14 : decode cX11_isName 14 = .ok (.istore_n 1, 1) := by decide +kernel
theorem dX11_isName_15 : decode cX11_isName 15 = .ok (.iconst 0, 1) := by decide +kernel
theorem dX11_isName_16 : decode cX11_isName 16 = .ok (.istore_n 2, 1) := by decide +kernel
theorem dX11_isName_17 : decode cX11_isName 17 = .ok (.iload_n 2, 1) := by decide +kernel
theorem dX11_isName_18 : decode cX11_isName 18 = .ok (.iconst 4, 1) := by decide +kernel
theorem dX11_isName_19 : decode cX11_isName 19 = .ok (.if_icmp .ge 27, 3) := by decide +kernel
theorem dX11_isName_22 : decode cX11_isName 22 = .ok (.iload_n 1, 1) := by decide +kernel
theorem dX11_isName_23 : decode cX11_isName 23 = .ok (.ifCond .le 23, 3) := by decide +kernel
theorem dX11_isName_26 : decode cX11_isName 26 = .ok (.iload_n 1, 1) := by decide +kernel
theorem dX11_isName_27 : decode cX11_isName 27 = .ok (.bipush 27, 2) := by decide +kernel
theorem dX11_isName_29 : decode cX11_isName 29 = .ok (.irem, 1) := by decide +kernel
theorem dX11_isName_30 : decode cX11_isName 30 = .ok (.ifCond .ne 5, 3) := by decide +kernel
theorem dX11_isName_33 : decode cX11_isName 33 = .ok (.iconst 0, 1) := by decide +kernel
theorem dX11_isName_34 : decode cX11_isName 34 = .ok (.ireturn, 1) := by decide +kernel
theorem dX11_isName_35 : decode cX11_isName 35 = .ok (.iload_n 1, 1) := by decide +kernel
theorem dX11_isName_36 : decode cX11_isName 36 = .ok (.bipush 27, 2) := by decide +kernel
theorem dX11_isName_38 : decode cX11_isName 38 = .ok (.idiv, 1) := by decide +kernel
theorem dX11_isName_39 : decode cX11_isName 39 = .ok (.istore_n 1, 1) := by decide +kernel
theorem dX11_isName_40 : decode cX11_isName 40 = .ok (.iinc 2 1, 3) := by decide +kernel
theorem dX11_isName_43 : decode cX11_isName 43 = .ok (.goto (-26), 3) := by decide +kernel
theorem dX11_isName_46 : decode cX11_isName 46 = .ok (.iconst 1, 1) := by decide +kernel
theorem dX11_isName_47 : decode cX11_isName 47 = .ok (.ireturn, 1) := by decide +kernel
set_option maxRecDepth 20000 in
theorem ggX11_isKind_X11_isWithin : GoodIn wsX11_isKind wsX11_isWithin := goodIn_r _ [4] rfl (by decide +kernel)
set_option maxRecDepth 20000 in
theorem gX11_isKind_X11_isWithin : GoodIn wsX11_isKind (va_wsS RX11 78 yX11_isWithin wsX11_isWithin) := goodIn_app (goodIn_of _ (by decide +kernel)) ggX11_isKind_X11_isWithin
theorem dX11_isKind_0 : decode cX11_isKind 0 = .ok (.iload_n 0, 1) := by decide +kernel
theorem dX11_isKind_1 : decode cX11_isKind 1 = .ok (.iconst 0, 1) := by decide +kernel
theorem dX11_isKind_2 : decode cX11_isKind 2 = .ok (.iconst 4, 1) := by decide +kernel
theorem dX11_isKind_3 : decode cX11_isKind 3 = .ok (.invokestatic 78, 3) := by decide +kernel
theorem dX11_isKind_6 : decode cX11_isKind 6 = .ok (.ireturn, 1) := by decide +kernel
set_option maxRecDepth 20000 in
theorem ggX11_isSide_X11_isWithin : GoodIn wsX11_isSide wsX11_isWithin := goodIn_r _ [4] rfl (by decide +kernel)
set_option maxRecDepth 20000 in
theorem gX11_isSide_X11_isWithin : GoodIn wsX11_isSide (va_wsS RX11 78 yX11_isWithin wsX11_isWithin) := goodIn_app (goodIn_of _ (by decide +kernel)) ggX11_isSide_X11_isWithin
theorem dX11_isSide_0 : decode cX11_isSide 0 = .ok (.iload_n 0, 1) := by decide +kernel
theorem dX11_isSide_1 : decode cX11_isSide 1 = .ok (.bipush (-20), 2) := by decide +kernel
theorem dX11_isSide_3 : decode cX11_isSide 3 = .ok (.bipush 20, 2) := by decide +kernel
theorem dX11_isSide_5 : decode cX11_isSide 5 = .ok (.invokestatic 78, 3) := by decide +kernel
theorem dX11_isSide_8 : decode cX11_isSide 8 = .ok (.ireturn, 1) := by decide +kernel
set_option maxRecDepth 20000 in
theorem ggX11_isTank_X11_isWithin : GoodIn wsX11_isTank wsX11_isWithin := goodIn_r _ [4] rfl (by decide +kernel)
set_option maxRecDepth 20000 in
theorem gX11_isTank_X11_isWithin : GoodIn wsX11_isTank (va_wsS RX11 78 yX11_isWithin wsX11_isWithin) := goodIn_app (goodIn_of _ (by decide +kernel)) ggX11_isTank_X11_isWithin
theorem dX11_isTank_0 : decode cX11_isTank 0 = .ok (.iload_n 0, 1) := by decide +kernel
theorem dX11_isTank_1 : decode cX11_isTank 1 = .ok (.iconst 0, 1) := by decide +kernel
theorem dX11_isTank_2 : decode cX11_isTank 2 = .ok (.iconst 3, 1) := by decide +kernel
theorem dX11_isTank_3 : decode cX11_isTank 3 = .ok (.invokestatic 78, 3) := by decide +kernel
theorem dX11_isTank_6 : decode cX11_isTank 6 = .ok (.ireturn, 1) := by decide +kernel
set_option maxRecDepth 20000 in
theorem ggX11_isRow_X11_isWithin : GoodIn wsX11_isRow wsX11_isWithin := goodIn_r _ [4] rfl (by decide +kernel)
set_option maxRecDepth 20000 in
theorem gX11_isRow_X11_isWithin : GoodIn wsX11_isRow (va_wsS RX11 78 yX11_isWithin wsX11_isWithin) := goodIn_app (goodIn_of _ (by decide +kernel)) ggX11_isRow_X11_isWithin
theorem dX11_isRow_0 : decode cX11_isRow 0 = .ok (.iload_n 0, 1) := by decide +kernel
theorem dX11_isRow_1 : decode cX11_isRow 1 = .ok (.iconst 0, 1) := by decide +kernel
theorem dX11_isRow_2 : decode cX11_isRow 2 = .ok (.iconst 2, 1) := by decide +kernel
theorem dX11_isRow_3 : decode cX11_isRow 3 = .ok (.invokestatic 78, 3) := by decide +kernel
theorem dX11_isRow_6 : decode cX11_isRow 6 = .ok (.ireturn, 1) := by decide +kernel
set_option maxRecDepth 20000 in
theorem ggX11_isOfKind_X11_isKind : GoodIn wsX11_isOfKind wsX11_isKind := goodIn_r _ [5, 6, 7, 4, 8] rfl (by decide +kernel)
set_option maxRecDepth 20000 in
theorem gX11_isOfKind_X11_isKind : GoodIn wsX11_isOfKind (va_wsS RX11 125 yX11_isKind wsX11_isKind) := goodIn_app (goodIn_of _ (by decide +kernel)) ggX11_isOfKind_X11_isKind
theorem dX11_isOfKind_0 : decode cX11_isOfKind 0 = .ok (.iload_n 0, 1) := by decide +kernel
theorem dX11_isOfKind_1 : decode cX11_isOfKind 1 = .ok (.istore_n 2, 1) := by decide +kernel
theorem dX11_isOfKind_2 : decode cX11_isOfKind 2 = .ok (.iconst 0, 1) := by decide +kernel
theorem dX11_isOfKind_3 : decode cX11_isOfKind 3 = .ok (.istore_n 3, 1) := by decide +kernel
theorem dX11_isOfKind_4 : decode cX11_isOfKind 4 = .ok (.iload_n 3, 1) := by decide +kernel
theorem dX11_isOfKind_5 : decode cX11_isOfKind 5 = .ok (.getstatic 390, 3) := by decide +kernel
theorem dX11_isOfKind_8 : decode cX11_isOfKind 8 = .ok (.arraylength, 1) := by decide +kernel
theorem dX11_isOfKind_9 : decode cX11_isOfKind 9 = .ok (.if_icmp .ge 29, 3) := by decide +kernel
theorem dX11_isOfKind_12 : decode cX11_isOfKind 12 = .ok (.iload_n 2, 1) := by decide +kernel
theorem dX11_isOfKind_13 : decode cX11_isOfKind 13 = .ok (.invokestatic 125, 3) := by decide +kernel
theorem dX11_isOfKind_16 : decode cX11_isOfKind 16 = .ok (.ifCond .eq 22, 3) := by decide +kernel
theorem dX11_isOfKind_19 : decode cX11_isOfKind 19 = .ok (.iload_n 2, 1) := by decide +kernel
theorem dX11_isOfKind_20 : decode cX11_isOfKind 20 = .ok (.iload_n 1, 1) := by decide +kernel
theorem dX11_isOfKind_21 : decode cX11_isOfKind 21 = .ok (.if_icmp .ne 5, 3) := by decide +kernel
theorem dX11_isOfKind_24 : decode cX11_isOfKind 24 = .ok (.iconst 1, 1) := by decide +kernel
theorem dX11_isOfKind_25 : decode cX11_isOfKind 25 = .ok (.ireturn, 1) := by decide +kernel
theorem dX11_isOfKind_26 : decode cX11_isOfKind 26 = .ok (.getstatic 390, 3) := by decide +kernel
theorem dX11_isOfKind_29 : decode cX11_isOfKind 29 = .ok (.iload_n 2, 1) := by decide +kernel
theorem dX11_isOfKind_30 : decode cX11_isOfKind 30 = .ok (.iaload, 1) := by decide +kernel
theorem dX11_isOfKind_31 : decode cX11_isOfKind 31 = .ok (.istore_n 2, 1) := by decide +kernel
theorem dX11_isOfKind_32 : decode cX11_isOfKind 32 = .ok (.iinc 3 1, 3) := by decide +kernel
theorem dX11_isOfKind_35 : decode cX11_isOfKind 35 = .ok (.goto (-31), 3) := by decide +kernel
theorem dX11_isOfKind_38 : decode cX11_isOfKind 38 = .ok (.iconst 0, 1) := by decide +kernel
theorem dX11_isOfKind_39 : decode cX11_isOfKind 39 = .ok (.ireturn, 1) := by decide +kernel
theorem dX11_rollsOf_0 : decode cX11_rollsOf 0 = .ok (.iload_n 1, 1) := by decide +kernel
theorem dX11_rollsOf_1 : decode cX11_rollsOf 1 = .ok (.ldc 167, 2) := by decide +kernel
theorem dX11_rollsOf_3 : decode cX11_rollsOf 3 = .ok (.if_icmp .ne 5, 3) := by decide +kernel
theorem dX11_rollsOf_6 : decode cX11_rollsOf 6 = .ok (.iconst 0, 1) := by decide +kernel
theorem dX11_rollsOf_7 : decode cX11_rollsOf 7 = .ok (.ireturn, 1) := by decide +kernel
theorem dX11_rollsOf_8 : decode cX11_rollsOf 8 = .ok (.iload_n 0, 1) := by decide +kernel
theorem dX11_rollsOf_9 : decode cX11_rollsOf 9 = .ok (.lookupswitch 39 #[(1, 27), (3, 32)], 27) := by decide +kernel
theorem dX11_rollsOf_36 : decode cX11_rollsOf 36 = .ok (.iload_n 1, 1) := by decide +kernel
theorem dX11_rollsOf_37 : decode cX11_rollsOf 37 = .ok (.bipush 32, 2) := by decide +kernel
theorem dX11_rollsOf_39 : decode cX11_rollsOf 39 = .ok (.idiv, 1) := by decide +kernel
theorem dX11_rollsOf_40 : decode cX11_rollsOf 40 = .ok (.ireturn, 1) := by decide +kernel
theorem dX11_rollsOf_41 : decode cX11_rollsOf 41 = .ok (.iconst 2, 1) := by decide +kernel
theorem dX11_rollsOf_42 : decode cX11_rollsOf 42 = .ok (.iload_n 1, 1) := by decide +kernel
theorem dX11_rollsOf_43 : decode cX11_rollsOf 43 = .ok (.bipush 32, 2) := by decide +kernel
theorem dX11_rollsOf_45 : decode cX11_rollsOf 45 = .ok (.idiv, 1) := by decide +kernel
theorem dX11_rollsOf_46 : decode cX11_rollsOf 46 = .ok (.imul, 1) := by decide +kernel
theorem dX11_rollsOf_47 : decode cX11_rollsOf 47 = .ok (.ireturn, 1) := by decide +kernel
theorem dX11_rollsOf_48 : decode cX11_rollsOf 48 = .ok (.iconst 0, 1) := by decide +kernel
theorem dX11_rollsOf_49 : decode cX11_rollsOf 49 = .ok (.ireturn, 1) := by decide +kernel
theorem dX11_cubeByTwelve_0 : decode cX11_cubeByTwelve 0 = .ok (.iload_n 0, 1) := by decide +kernel
theorem dX11_cubeByTwelve_1 : decode cX11_cubeByTwelve 1 = .ok (.iload_n 0, 1) := by decide +kernel
theorem dX11_cubeByTwelve_2 : decode cX11_cubeByTwelve 2 = .ok (.imul, 1) := by decide +kernel
theorem dX11_cubeByTwelve_3 : decode cX11_cubeByTwelve 3 = .ok (.iload_n 0, 1) := by decide +kernel
theorem dX11_cubeByTwelve_4 : decode cX11_cubeByTwelve 4 = .ok (.imul, 1) := by decide +kernel
theorem dX11_cubeByTwelve_5 : decode cX11_cubeByTwelve 5 = .ok (.bipush 12, 2) := by decide +kernel
theorem dX11_cubeByTwelve_7 : decode cX11_cubeByTwelve 7 = .ok (.idiv, 1) := by decide +kernel
theorem dX11_cubeByTwelve_8 : decode cX11_cubeByTwelve 8 = .ok (.ireturn, 1) := by decide +kernel
set_option maxRecDepth 20000 in
theorem ggX12_init_X12_anew : GoodIn wsX12_init wsX12_anew := goodIn_r _ [36, 4, 5, 6, 37, 38, 8, 9, 16, 17, 18, 19, 39, 40, 41, 42, 43, 44, 45, 46, 47, 48, 49, 50, 51, 52, 53, 54, 55, 56, 57, 58, 59, 60, 61, 62, 63, 64, 65, 66, 67, 68, 69, 70] rfl (by decide +kernel)
set_option maxRecDepth 20000 in
theorem gX12_init_X12_anew : GoodIn wsX12_init (wsV RX12 91 RX12 yX12_anew wsX12_anew) := goodIn_app (goodIn_of _ (by decide +kernel)) ggX12_init_X12_anew
theorem dX12_init_0 : decode cX12_init 0 = .ok (.aload_n 0, 1) := by decide +kernel
theorem dX12_init_1 : decode cX12_init 1 = .ok (.invokespecial 3, 3) := by decide +kernel
theorem dX12_init_4 : decode cX12_init 4 = .ok (.aload_n 0, 1) := by decide +kernel
theorem dX12_init_5 : decode cX12_init 5 = .ok (.iconst 4, 1) := by decide +kernel
theorem dX12_init_6 : decode cX12_init 6 = .ok (.putfield 9, 3) := by decide +kernel
theorem dX12_init_9 : decode cX12_init 9 = .ok (.aload_n 0, 1) := by decide +kernel
theorem dX12_init_10 : decode cX12_init 10 = .ok (.bipush 20, 2) := by decide +kernel
theorem dX12_init_12 : decode cX12_init 12 = .ok (.putfield 15, 3) := by decide +kernel
theorem dX12_init_15 : decode cX12_init 15 = .ok (.aload_n 0, 1) := by decide +kernel
theorem dX12_init_16 : decode cX12_init 16 = .ok (.bipush 100, 2) := by decide +kernel
theorem dX12_init_18 : decode cX12_init 18 = .ok (.putfield 18, 3) := by decide +kernel
theorem dX12_init_21 : decode cX12_init 21 = .ok (.aload_n 0, 1) := by decide +kernel
theorem dX12_init_22 : decode cX12_init 22 = .ok (.bipush 10, 2) := by decide +kernel
theorem dX12_init_24 : decode cX12_init 24 = .ok (.newarray .int, 2) := by decide +kernel
theorem dX12_init_26 : decode cX12_init 26 = .ok (.putfield 21, 3) := by decide +kernel
theorem dX12_init_29 : decode cX12_init 29 = .ok (.aload_n 0, 1) := by decide +kernel
theorem dX12_init_30 : decode cX12_init 30 = .ok (.bipush 10, 2) := by decide +kernel
theorem dX12_init_32 : decode cX12_init 32 = .ok (.newarray .int, 2) := by decide +kernel
theorem dX12_init_34 : decode cX12_init 34 = .ok (.putfield 25, 3) := by decide +kernel
theorem dX12_init_37 : decode cX12_init 37 = .ok (.aload_n 0, 1) := by decide +kernel
theorem dX12_init_38 : decode cX12_init 38 = .ok (.bipush 16, 2) := by decide +kernel
theorem dX12_init_40 : decode cX12_init 40 = .ok (.newarray .int, 2) := by decide +kernel
theorem dX12_init_42 : decode cX12_init 42 = .ok (.putfield 28, 3) := by decide +kernel
theorem dX12_init_45 : decode cX12_init 45 = .ok (.aload_n 0, 1) := by decide +kernel
theorem dX12_init_46 : decode cX12_init 46 = .ok (.bipush 16, 2) := by decide +kernel
theorem dX12_init_48 : decode cX12_init 48 = .ok (.newarray .int, 2) := by decide +kernel
theorem dX12_init_50 : decode cX12_init 50 = .ok (.putfield 31, 3) := by decide +kernel
theorem dX12_init_53 : decode cX12_init 53 = .ok (.aload_n 0, 1) := by decide +kernel
theorem dX12_init_54 : decode cX12_init 54 = .ok (.bipush 16, 2) := by decide +kernel
theorem dX12_init_56 : decode cX12_init 56 = .ok (.newarray .int, 2) := by decide +kernel
theorem dX12_init_58 : decode cX12_init 58 = .ok (.putfield 34, 3) := by decide +kernel
theorem dX12_init_61 : decode cX12_init 61 = .ok (.aload_n 0, 1) := by decide +kernel
theorem dX12_init_62 : decode cX12_init 62 = .ok (.bipush 16, 2) := by decide +kernel
theorem dX12_init_64 : decode cX12_init 64 = .ok (.newarray .int, 2) := by decide +kernel
theorem dX12_init_66 : decode cX12_init 66 = .ok (.putfield 37, 3) := by decide +kernel
theorem dX12_init_69 : decode cX12_init 69 = .ok (.aload_n 0, 1) := by decide +kernel
theorem dX12_init_70 : decode cX12_init 70 = .ok (.bipush 16, 2) := by decide +kernel
theorem dX12_init_72 : decode cX12_init 72 = .ok (.newarray .int, 2) := by decide +kernel
theorem dX12_init_74 : decode cX12_init 74 = .ok (.putfield 40, 3) := by decide +kernel
theorem dX12_init_77 : decode cX12_init 77 = .ok (.aload_n 0, 1) := by decide +kernel
theorem dX12_init_78 : decode cX12_init 78 = .ok (.bipush 16, 2) := by decide +kernel
theorem dX12_init_80 : decode cX12_init 80 = .ok (.newarray .int, 2) := by decide +kernel
theorem dX12_init_82 : decode cX12_init 82 = .ok (.putfield 43, 3) := by decide +kernel
theorem dX12_init_85 : decode cX12_init 85 = .ok (.aload_n 0, 1) := by decide +kernel
theorem dX12_init_86 : decode cX12_init 86 = .ok (.iconst 4, 1) := by decide +kernel
theorem dX12_init_87 : decode cX12_init 87 = .ok (.newarray .int, 2) := by decide +kernel
theorem dX12_init_89 : decode cX12_init 89 = .ok (.putfield 46, 3) := by decide +kernel
theorem dX12_init_92 : decode cX12_init 92 = .ok (.aload_n 0, 1) := by decide +kernel
theorem dX12_init_93 : decode cX12_init 93 = .ok (.iconst 4, 1) := by decide +kernel
theorem dX12_init_94 : decode cX12_init 94 = .ok (.newarray .int, 2) := by decide +kernel
theorem dX12_init_96 : decode cX12_init 96 = .ok (.putfield 49, 3) := by decide +kernel
theorem dX12_init_99 : decode cX12_init 99 = .ok (.aload_n 0, 1) := by decide +kernel
theorem dX12_init_100 : decode cX12_init 100 = .ok (.iconst 4, 1) := by decide +kernel
theorem dX12_init_101 : decode cX12_init 101 = .ok (.newarray .int, 2) := by decide +kernel
theorem dX12_init_103 : decode cX12_init 103 = .ok (.putfield 52, 3) := by decide +kernel
theorem dX12_init_106 : decode cX12_init 106 = .ok (.aload_n 0, 1) := by decide +kernel
theorem dX12_init_107 : decode cX12_init 107 = .ok (.iconst 4, 1) := by decide +kernel
theorem dX12_init_108 : decode cX12_init 108 = .ok (.newarray .int, 2) := by decide +kernel
theorem dX12_init_110 : decode cX12_init 110 = .ok (.putfield 55, 3) := by decide +kernel
theorem dX12_init_113 : decode cX12_init 113 = .ok (.aload_n 0, 1) := by decide +kernel
theorem dX12_init_114 : decode cX12_init 114 = .ok (.bipush 16, 2) := by decide +kernel
theorem dX12_init_116 : decode cX12_init 116 = .ok (.newarray .int, 2) := by decide +kernel
theorem dX12_init_118 : decode cX12_init 118 = .ok (.putfield 58, 3) := by decide +kernel
theorem dX12_init_121 : decode cX12_init 121 = .ok (.aload_n 0, 1) := by decide +kernel
theorem dX12_init_122 : decode cX12_init 122 = .ok (.bipush 17, 2) := by decide +kernel
theorem dX12_init_124 : decode cX12_init 124 = .ok (.newarray .int, 2) := by decide +kernel
theorem dX12_init_126 : decode cX12_init 126 = .ok (.putfield 61, 3) := by decide +kernel
theorem dX12_init_129 : decode cX12_init 129 = .ok (.aload_n 0, 1) := by decide +kernel
theorem dX12_init_130 : decode cX12_init 130 = .ok (.sipush 320, 3) := by decide +kernel
theorem dX12_init_133 : decode cX12_init 133 = .ok (.newarray .byte, 2) := by decide +kernel
theorem dX12_init_135 : decode cX12_init 135 = .ok (.putfield 64, 3) := by decide +kernel
theorem dX12_init_138 : decode cX12_init 138 = .ok (.aload_n 0, 1) := by decide +kernel
theorem dX12_init_139 : decode cX12_init 139 = .ok (.bipush 80, 2) := by decide +kernel
theorem dX12_init_141 : decode cX12_init 141 = .ok (.newarray .byte, 2) := by decide +kernel
theorem dX12_init_143 : decode cX12_init 143 = .ok (.putfield 68, 3) := by decide +kernel
theorem dX12_init_146 : decode cX12_init 146 = .ok (.aload_n 0, 1) := by decide +kernel
theorem dX12_init_147 : decode cX12_init 147 = .ok (.bipush 80, 2) := by decide +kernel
theorem dX12_init_149 : decode cX12_init 149 = .ok (.newarray .int, 2) := by decide +kernel
theorem dX12_init_151 : decode cX12_init 151 = .ok (.putfield 71, 3) := by decide +kernel
theorem dX12_init_154 : decode cX12_init 154 = .ok (.aload_n 0, 1) := by decide +kernel
theorem dX12_init_155 : decode cX12_init 155 = .ok (.sipush 480, 3) := by decide +kernel
theorem dX12_init_158 : decode cX12_init 158 = .ok (.newarray .int, 2) := by decide +kernel
theorem dX12_init_160 : decode cX12_init 160 = .ok (.putfield 74, 3) := by decide +kernel
theorem dX12_init_163 : decode cX12_init 163 = .ok (.aload_n 0, 1) := by decide +kernel
theorem dX12_init_164 : decode cX12_init 164 = .ok (.iconst 3, 1) := by decide +kernel
theorem dX12_init_165 : decode cX12_init 165 = .ok (.newarray .int, 2) := by decide +kernel
theorem dX12_init_167 : decode cX12_init 167 = .ok (.putfield 77, 3) := by decide +kernel
theorem dX12_init_170 : decode cX12_init 170 = .ok (.aload_n 0, 1) := by decide +kernel
theorem dX12_init_171 : decode cX12_init 171 = .ok (.iconst 3, 1) := by decide +kernel
theorem dX12_init_172 : decode cX12_init 172 = .ok (.bipush 40, 2) := by decide +kernel
theorem dX12_init_174 : decode cX12_init 174 = .ok (.multianewarray 80 2, 4) := by decide +kernel
theorem dX12_init_178 : decode cX12_init 178 = .ok (.putfield 82, 3) := by decide +kernel
theorem dX12_init_181 : decode cX12_init 181 = .ok (.aload_n 0, 1) := by decide +kernel
theorem dX12_init_182 : decode cX12_init 182 = .ok (.iconst 5, 1) := by decide +kernel
theorem dX12_init_183 : decode cX12_init 183 = .ok (.newarray .int, 2) := by decide +kernel
theorem dX12_init_185 : decode cX12_init 185 = .ok (.putfield 85, 3) := by decide +kernel
theorem dX12_init_188 : decode cX12_init 188 = .ok (.aload_n 0, 1) := by decide +kernel
theorem dX12_init_189 : decode cX12_init 189 = .ok (.bipush 12, 2) := by decide +kernel
theorem dX12_init_191 : decode cX12_init 191 = .ok (.bipush 16, 2) := by decide +kernel
theorem dX12_init_193 : decode cX12_init 193 = .ok (.multianewarray 80 2, 4) := by decide +kernel
theorem dX12_init_197 : decode cX12_init 197 = .ok (.putfield 88, 3) := by decide +kernel
theorem dX12_init_200 : decode cX12_init 200 = .ok (.aload_n 0, 1) := by decide +kernel
theorem dX12_init_201 : decode cX12_init 201 = .ok (.iconst 4, 1) := by decide +kernel
theorem dX12_init_202 : decode cX12_init 202 = .ok (.invokevirtual 91, 3) := by decide +kernel
theorem dX12_init_205 : decode cX12_init 205 = .ok (.iconst 0, 1) := by decide +kernel
theorem dX12_init_206 : decode cX12_init 206 = .ok (.istore_n 1, 1) := by decide +kernel
theorem dX12_init_207 : decode cX12_init 207 = .ok (.iload_n 1, 1) := by decide +kernel
theorem dX12_init_208 : decode cX12_init 208 = .ok (.iconst 3, 1) := by decide +kernel
theorem dX12_init_209 : decode cX12_init 209 = .ok (.if_icmp .ge 16, 3) := by decide +kernel
theorem dX12_init_212 : decode cX12_init 212 = .ok (.aload_n 0, 1) := by decide +kernel
theorem dX12_init_213 : decode cX12_init 213 = .ok (.getfield 77, 3) := by decide +kernel
theorem dX12_init_216 : decode cX12_init 216 = .ok (.iload_n 1, 1) := by decide +kernel
theorem dX12_init_217 : decode cX12_init 217 = .ok (.iconst (-1), 1) := by decide +kernel
theorem dX12_init_218 : decode cX12_init 218 = .ok (.iastore, 1) := by decide +kernel
theorem dX12_init_219 : decode cX12_init 219 = .ok (.iinc 1 1, 3) := by decide +kernel
theorem dX12_init_222 : decode cX12_init 222 = .ok (.goto (-15), 3) := by decide +kernel
theorem dX12_init_225 : decode cX12_init 225 = .ok (.return_, 1) := by decide +kernel
theorem dX12_in_0 : decode cX12_in 0 = .ok (.iload_n 0, 1) := by decide +kernel
theorem dX12_in_1 : decode cX12_in 1 = .ok (.iload_n 1, 1) := by decide +kernel
theorem dX12_in_2 : decode cX12_in 2 = .ok (.if_icmp .lt 12, 3) := by decide +kernel
theorem dX12_in_5 : decode cX12_in 5 = .ok (.iload_n 0, 1) := by decide +kernel
theorem dX12_in_6 : decode cX12_in 6 = .ok (.iload_n 2, 1) := by decide +kernel
theorem dX12_in_7 : decode cX12_in 7 = .ok (.if_icmp .gt 7, 3) := by decide +kernel
theorem dX12_in_10 : decode cX12_in 10 = .ok (.iconst 1, 1) := by decide +kernel
theorem dX12_in_11 : decode cX12_in 11 = .ok (.goto 4, 3) := by decide +kernel
theorem dX12_in_14 : decode cX12_in 14 = .ok (.iconst 0, 1) := by decide +kernel
theorem dX12_in_15 : decode cX12_in 15 = .ok (.ireturn, 1) := by decide +kernel
theorem dX12_anew_0 : decode cX12_anew 0 = .ok (.aload_n 0, 1) := by decide +kernel
theorem dX12_anew_1 : decode cX12_anew 1 = .ok (.iload_n 1, 1) := by decide +kernel
theorem dX12_anew_2 : decode cX12_anew 2 = .ok (.putfield 9, 3) := by decide +kernel
theorem dX12_anew_5 : decode cX12_anew 5 = .ok (.aload_n 0, 1) := by decide +kernel
theorem dX12_anew_6 : decode cX12_anew 6 = .ok (.bipush 20, 2) := by decide +kernel
theorem dX12_anew_8 : decode cX12_anew 8 = .ok (.putfield 15, 3) := by decide +kernel
theorem dX12_anew_11 : decode cX12_anew 11 = .ok (.aload_n 0, 1) := by decide +kernel
theorem dX12_anew_12 : decode cX12_anew 12 = .ok (.bipush 100, 2) := by decide +kernel
theorem dX12_anew_14 : decode cX12_anew 14 = .ok (.putfield 18, 3) := by decide +kernel
theorem dX12_anew_17 : decode cX12_anew 17 = .ok (.aload_n 0, 1) := by decide +kernel
theorem dX12_anew_18 : decode cX12_anew 18 = .ok (.iconst 0, 1) := by decide +kernel
theorem dX12_anew_19 : decode cX12_anew 19 = .ok (.putfield 95, 3) := by decide +kernel
theorem dX12_anew_22 : decode cX12_anew 22 = .ok (.aload_n 0, 1) := by decide +kernel
theorem dX12_anew_23 : decode cX12_anew 23 = .ok (.iconst 0, 1) := by decide +kernel
theorem dX12_anew_24 : decode cX12_anew 24 = .ok (.putfield 98, 3) := by decide +kernel
theorem dX12_anew_27 : decode cX12_anew 27 = .ok (.iconst 0, 1) := by decide +kernel
theorem dX12_anew_28 : decode cX12_anew 28 = .ok (.istore_n 2, 1) := by decide +kernel
theorem dX12_anew_29 : decode cX12_anew 29 = .ok (.iload_n 2, 1) := by decide +kernel
theorem dX12_anew_30 : decode cX12_anew 30 = .ok (.bipush 10, 2) := by decide +kernel
theorem dX12_anew_32 : decode cX12_anew 32 = .ok (.if_icmp .ge 24, 3) := by decide +kernel
theorem dX12_anew_35 : decode cX12_anew 35 = .ok (.aload_n 0, 1) := by decide +kernel
theorem dX12_anew_36 : decode cX12_anew 36 = .ok (.getfield 21, 3) := by decide +kernel
theorem dX12_anew_39 : decode cX12_anew 39 = .ok (.iload_n 2, 1) := by decide +kernel
theorem dX12_anew_40 : decode cX12_anew 40 = .ok (.bipush 10, 2) := by decide +kernel
theorem dX12_anew_42 : decode cX12_anew 42 = .ok (.iastore, 1) := by decide +kernel
theorem dX12_anew_43 : decode cX12_anew 43 = .ok (.aload_n 0, 1) := by decide +kernel
theorem dX12_anew_44 : decode cX12_anew 44 = .ok (.getfield 25, 3) := by decide +kernel
theorem dX12_anew_47 : decode cX12_anew 47 = .ok (.iload_n 2, 1) := by decide +kernel
theorem dX12_anew_48 : decode cX12_anew 48 = .ok (.iconst 0, 1) := by decide +kernel
theorem dX12_anew_49 : decode cX12_anew 49 = .ok (.iastore, 1) := by decide +kernel
theorem dX12_anew_50 : decode cX12_anew 50 = .ok (.iinc 2 1, 3) := by decide +kernel
theorem dX12_anew_53 : decode cX12_anew 53 = .ok (.goto (-24), 3) := by decide +kernel
theorem dX12_anew_56 : decode cX12_anew 56 = .ok (.iconst 0, 1) := by decide +kernel
theorem dX12_anew_57 : decode cX12_anew 57 = .ok (.istore_n 2, 1) := by decide +kernel
theorem dX12_anew_58 : decode cX12_anew 58 = .ok (.iload_n 2, 1) := by decide +kernel
theorem dX12_anew_59 : decode cX12_anew 59 = .ok (.iconst 4, 1) := by decide +kernel
theorem dX12_anew_60 : decode cX12_anew 60 = .ok (.if_icmp .ge 37, 3) := by decide +kernel
theorem dX12_anew_63 : decode cX12_anew 63 = .ok (.aload_n 0, 1) := by decide +kernel
theorem dX12_anew_64 : decode cX12_anew 64 = .ok (.getfield 46, 3) := by decide +kernel
theorem dX12_anew_67 : decode cX12_anew 67 = .ok (.iload_n 2, 1) := by decide +kernel
theorem dX12_anew_68 : decode cX12_anew 68 = .ok (.iconst 0, 1) := by decide +kernel
theorem dX12_anew_69 : decode cX12_anew 69 = .ok (.iastore, 1) := by decide +kernel
theorem dX12_anew_70 : decode cX12_anew 70 = .ok (.aload_n 0, 1) := by decide +kernel
theorem dX12_anew_71 : decode cX12_anew 71 = .ok (.getfield 49, 3) := by decide +kernel
theorem dX12_anew_74 : decode cX12_anew 74 = .ok (.iload_n 2, 1) := by decide +kernel
theorem dX12_anew_75 : decode cX12_anew 75 = .ok (.iconst 0, 1) := by decide +kernel
theorem dX12_anew_76 : decode cX12_anew 76 = .ok (.iastore, 1) := by decide +kernel
theorem dX12_anew_77 : decode cX12_anew 77 = .ok (.aload_n 0, 1) := by decide +kernel
theorem dX12_anew_78 : decode cX12_anew 78 = .ok (.getfield 52, 3) := by decide +kernel
theorem dX12_anew_81 : decode cX12_anew 81 = .ok (.iload_n 2, 1) := by decide +kernel
theorem dX12_anew_82 : decode cX12_anew 82 = .ok (.iconst 0, 1) := by decide +kernel
theorem dX12_anew_83 : decode cX12_anew 83 = .ok (.iastore, 1) := by decide +kernel
theorem dX12_anew_84 : decode cX12_anew 84 = .ok (.aload_n 0, 1) := by decide +kernel
theorem dX12_anew_85 : decode cX12_anew 85 = .ok (.getfield 55, 3) := by decide +kernel
theorem dX12_anew_88 : decode cX12_anew 88 = .ok (.iload_n 2, 1) := by decide +kernel
theorem dX12_anew_89 : decode cX12_anew 89 = .ok (.iconst 0, 1) := by decide +kernel
theorem dX12_anew_90 : decode cX12_anew 90 = .ok (.iastore, 1) := by decide +kernel
theorem dX12_anew_91 : decode cX12_anew 91 = .ok (.iinc 2 1, 3) := by decide +kernel
theorem dX12_anew_94 : decode cX12_anew 94 = .ok (.goto (-36), 3) := by decide +kernel
theorem dX12_anew_97 : decode cX12_anew 97 = .ok (.return_, 1) := by decide +kernel
set_option maxRecDepth 20000 in
theorem ggX12_isSection_X12_in : GoodIn wsX12_isSection wsX12_in := goodIn_r _ [5] rfl (by decide +kernel)
set_option maxRecDepth 20000 in
theorem gX12_isSection_X12_in : GoodIn wsX12_isSection (va_wsS RX12 101 yX12_in wsX12_in) := goodIn_app (goodIn_of _ (by decide +kernel)) ggX12_isSection_X12_in
theorem dX12_isSection_0 : decode cX12_isSection 0 = .ok (.iload_n 1, 1) := by decide +kernel
theorem dX12_isSection_1 : decode cX12_isSection 1 = .ok (.iconst 0, 1) := by decide +kernel
theorem dX12_isSection_2 : decode cX12_isSection 2 = .ok (.aload_n 0, 1) := by decide +kernel
theorem dX12_isSection_3 : decode cX12_isSection 3 = .ok (.getfield 9, 3) := by decide +kernel
theorem dX12_isSection_6 : decode cX12_isSection 6 = .ok (.iconst 1, 1) := by decide +kernel
theorem dX12_isSection_7 : decode cX12_isSection 7 = .ok (.isub, 1) := by decide +kernel
theorem dX12_isSection_8 : decode cX12_isSection 8 = .ok (.invokestatic 101, 3) := by decide +kernel
theorem dX12_isSection_11 : decode cX12_isSection 11 = .ok (.ireturn, 1) := by decide +kernel
set_option maxRecDepth 20000 in
theorem ggX12_isTank_X12_in : GoodIn wsX12_isTank wsX12_in := goodIn_r _ [4] rfl (by decide +kernel)
set_option maxRecDepth 20000 in
theorem gX12_isTank_X12_in : GoodIn wsX12_isTank (va_wsS RX12 101 yX12_in wsX12_in) := goodIn_app (goodIn_of _ (by decide +kernel)) ggX12_isTank_X12_in
theorem dX12_isTank_0 : decode cX12_isTank 0 = .ok (.iload_n 0, 1) := by decide +kernel
theorem dX12_isTank_1 : decode cX12_isTank 1 = .ok (.iconst 0, 1) := by decide +kernel
theorem dX12_isTank_2 : decode cX12_isTank 2 = .ok (.iconst 3, 1) := by decide +kernel
theorem dX12_isTank_3 : decode cX12_isTank 3 = .ok (.invokestatic 101, 3) := by decide +kernel
theorem dX12_isTank_6 : decode cX12_isTank 6 = .ok (.ireturn, 1) := by decide +kernel
set_option maxRecDepth 20000 in
theorem ggX12_hull_X12_in : GoodIn wsX12_hull wsX12_in := goodIn_r _ [5] rfl (by decide +kernel)
set_option maxRecDepth 20000 in
theorem gX12_hull_X12_in : GoodIn wsX12_hull (va_wsS RX12 101 yX12_in wsX12_in) := goodIn_app (goodIn_of _ (by decide +kernel)) ggX12_hull_X12_in
set_option maxRecDepth 20000 in
theorem ggX12_hull_X12_anew : GoodIn wsX12_hull wsX12_anew := goodIn_r _ [9, 1, 10, 11, 12, 13, 14, 15, 16, 17, 18, 19, 20, 21, 22, 23, 24, 25, 26, 27, 28, 29, 30, 31, 32, 33, 34, 35, 36, 37, 38, 39, 40, 41, 42, 43, 44, 45, 46, 47, 48, 49, 50, 51] rfl (by decide +kernel)
set_option maxRecDepth 20000 in
theorem gX12_hull_X12_anew : GoodIn wsX12_hull (wsV RX12 91 RX12 yX12_anew wsX12_anew) := goodIn_app (goodIn_of _ (by decide +kernel)) ggX12_hull_X12_anew
theorem dX12_hull_0 : decode cX12_hull 0 = .ok (.iload_n 1, 1) := by decide +kernel
theorem dX12_hull_1 : decode cX12_hull 1 = .ok (.iconst 2, 1) := by decide +kernel
theorem dX12_hull_2 : decode cX12_hull 2 = .ok (.bipush 10, 2) := by decide +kernel
theorem dX12_hull_4 : decode cX12_hull 4 = .ok (.invokestatic 101, 3) := by decide +kernel
theorem dX12_hull_7 : decode cX12_hull 7 = .ok (.ifCond .ne 5, 3) := by decide +kernel
theorem dX12_hull_10 : decode cX12_hull 10 = .ok (.iconst (-1), 1) := by decide +kernel
theorem dX12_hull_11 : decode cX12_hull 11 = .ok (.ireturn, 1) := by decide +kernel
theorem dX12_hull_12 : decode cX12_hull 12 = .ok (.aload_n 0, 1) := by decide +kernel
theorem dX12_hull_13 : decode cX12_hull 13 = .ok (.getfield 9, 3) := by decide +kernel
theorem dX12_hull_16 : decode cX12_hull 16 = .ok (.istore_n 2, 1) := by decide +kernel
theorem dX12_hull_17 : decode cX12_hull 17 = .ok (.aload_n 0, 1) := by decide +kernel
theorem dX12_hull_18 : decode cX12_hull 18 = .ok (.iload_n 1, 1) := by decide +kernel
theorem dX12_hull_19 : decode cX12_hull 19 = .ok (.invokevirtual 91, 3) := by decide +kernel
theorem dX12_hull_22 : decode cX12_hull 22 = .ok (.iload_n 2, 1) := by decide +kernel
theorem dX12_hull_23 : decode cX12_hull 23 = .ok (.ireturn, 1) := by decide +kernel
set_option maxRecDepth 20000 in
theorem ggX12_section_X12_isSection : GoodIn wsX12_section wsX12_isSection := goodIn_r _ [7, 8, 9, 10, 6, 11, 12, 13, 14, 15, 16, 17, 18, 19, 20, 21, 22, 23, 24, 25, 26, 27, 28, 29, 30, 31, 32, 33, 34, 35, 36, 37, 38, 39, 40, 41, 42, 43] rfl (by decide +kernel)
set_option maxRecDepth 20000 in
theorem gX12_section_X12_isSection : GoodIn wsX12_section (wsV RX12 105 RX12 yX12_isSection wsX12_isSection) := goodIn_app (goodIn_of _ (by decide +kernel)) ggX12_section_X12_isSection
set_option maxRecDepth 20000 in
theorem ggX12_section_X12_in : GoodIn wsX12_section wsX12_in := goodIn_r _ [11] rfl (by decide +kernel)
set_option maxRecDepth 20000 in
theorem gX12_section_X12_in : GoodIn wsX12_section (va_wsS RX12 101 yX12_in wsX12_in) := goodIn_app (goodIn_of _ (by decide +kernel)) ggX12_section_X12_in
theorem dX12_section_0 : decode cX12_section 0 = .ok (.aload_n 0, 1) := by decide +kernel
theorem dX12_section_1 : decode cX12_section 1 = .ok (.iload_n 1, 1) := by decide +kernel
theorem dX12_section_2 : decode cX12_section 2 = .ok (.invokevirtual 105, 3) := by decide +kernel
theorem dX12_section_5 : decode cX12_section 5 = .ok (.ifCond .eq 23, 3) := by decide +kernel
theorem dX12_section_8 : decode cX12_section 8 = .ok (.iload_n 2, 1) := by decide +kernel
theorem dX12_section_9 : decode cX12_section 9 = .ok (.iconst 1, 1) := by decide +kernel
theorem dX12_section_10 : decode cX12_section 10 = .ok (.bipush 40, 2) := by decide +kernel
theorem dX12_section_12 : decode cX12_section 12 = .ok (.invokestatic 101, 3) := by decide +kernel
theorem dX12_section_15 : decode cX12_section 15 = .ok (.ifCond .eq 13, 3) := by decide +kernel
theorem dX12_section_18 : decode cX12_section 18 = .ok (.iload_n 3, 1) := by decide +kernel
theorem dX12_section_19 : decode cX12_section 19 = .ok (.iconst 0, 1) := by decide +kernel
theorem dX12_section_20 : decode cX12_section 20 = .ok (.bipush 30, 2) := by decide +kernel
theorem dX12_section_22 : decode cX12_section 22 = .ok (.invokestatic 101, 3) := by decide +kernel
theorem dX12_section_25 : decode cX12_section 25 = .ok (.ifCond .ne 5, 3) := by decide +kernel
theorem dX12_section_28 : decode cX12_section 28 = .ok (.iconst (-1), 1) := by decide +kernel
theorem dX12_section_29 : decode cX12_section 29 = .ok (.ireturn, 1) := by decide +kernel
theorem dX12_section_30 : decode cX12_section 30 = .ok (.bipush 100, 2) := by decide +kernel
theorem dX12_section_32 : decode cX12_section 32 = .ok (.aload_n 0, 1) := by decide +kernel
theorem dX12_section_33 : decode cX12_section 33 = .ok (.getfield 21, 3) := by decide +kernel
theorem dX12_section_36 : decode cX12_section 36 = .ok (.iload_n 1, 1) := by decide +kernel
theorem dX12_section_37 : decode cX12_section 37 = .ok (.iaload, 1) := by decide +kernel
theorem dX12_section_38 : decode cX12_section 38 = .ok (.imul, 1) := by decide +kernel
theorem dX12_section_39 : decode cX12_section 39 = .ok (.aload_n 0, 1) := by decide +kernel
theorem dX12_section_40 : decode cX12_section 40 = .ok (.getfield 25, 3) := by decide +kernel
theorem dX12_section_43 : decode cX12_section 43 = .ok (.iload_n 1, 1) := by decide +kernel
theorem dX12_section_44 : decode cX12_section 44 = .ok (.iaload, 1) := by decide +kernel
theorem dX12_section_45 : decode cX12_section 45 = .ok (.iadd, 1) := by decide +kernel
theorem dX12_section_46 : decode cX12_section 46 = .ok (.istore 4, 2) := by decide +kernel
theorem dX12_section_48 : decode cX12_section 48 = .ok (.aload_n 0, 1) := by decide +kernel
theorem dX12_section_49 : decode cX12_section 49 = .ok (.getfield 21, 3) := by decide +kernel
theorem dX12_section_52 : decode cX12_section 52 = .ok (.iload_n 1, 1) := by decide +kernel
theorem dX12_section_53 : decode cX12_section 53 = .ok (.iload_n 2, 1) := by decide +kernel
theorem dX12_section_54 : decode cX12_section 54 = .ok (.iastore, 1) := by decide +kernel
theorem dX12_section_55 : decode cX12_section 55 = .ok (.aload_n 0, 1) := by decide +kernel
theorem dX12_section_56 : decode cX12_section 56 = .ok (.getfield 25, 3) := by decide +kernel
theorem dX12_section_59 : decode cX12_section 59 = .ok (.iload_n 1, 1) := by decide +kernel
theorem dX12_section_60 : decode cX12_section 60 = .ok (.iload_n 3, 1) := by decide +kernel
theorem dX12_section_61 : decode cX12_section 61 = .ok (.iastore, 1) := by decide +kernel
theorem dX12_section_62 : decode cX12_section 62 = .ok (.iload 4, 2) := by decide +kernel
theorem dX12_section_64 : decode cX12_section 64 = .ok (.ireturn, 1) := by decide +kernel
set_option maxRecDepth 20000 in
theorem ggX12_set_X12_in : GoodIn wsX12_set wsX12_in := goodIn_r _ [7] rfl (by decide +kernel)
set_option maxRecDepth 20000 in
theorem gX12_set_X12_in : GoodIn wsX12_set (va_wsS RX12 101 yX12_in wsX12_in) := goodIn_app (goodIn_of _ (by decide +kernel)) ggX12_set_X12_in
theorem dX12_set_0 : decode cX12_set 0 = .ok (.iload_n 1, 1) := by decide +kernel
theorem dX12_set_1 : decode cX12_set 1 = .ok (.tableswitch 99 0 2 #[27, 51, 76], 27) := by decide +kernel
theorem dX12_set_28 : decode cX12_set 28 = .ok (.iload_n 2, 1) := by decide +kernel
theorem dX12_set_29 : decode cX12_set 29 = .ok (.iconst 1, 1) := by decide +kernel
theorem dX12_set_30 : decode cX12_set 30 = .ok (.bipush 60, 2) := by decide +kernel
theorem dX12_set_32 : decode cX12_set 32 = .ok (.invokestatic 101, 3) := by decide +kernel
theorem dX12_set_35 : decode cX12_set 35 = .ok (.ifCond .ne 5, 3) := by decide +kernel
theorem dX12_set_38 : decode cX12_set 38 = .ok (.iconst (-1), 1) := by decide +kernel
theorem dX12_set_39 : decode cX12_set 39 = .ok (.ireturn, 1) := by decide +kernel
theorem dX12_set_40 : decode cX12_set 40 = .ok (.aload_n 0, 1) := by decide +kernel
theorem dX12_set_41 : decode cX12_set 41 = .ok (.getfield 15, 3) := by decide +kernel
theorem dX12_set_44 : decode cX12_set 44 = .ok (.istore_n 3, 1) := by decide +kernel
theorem dX12_set_45 : decode cX12_set 45 = .ok (.aload_n 0, 1) := by decide +kernel
theorem dX12_set_46 : decode cX12_set 46 = .ok (.iload_n 2, 1) := by decide +kernel
theorem dX12_set_47 : decode cX12_set 47 = .ok (.putfield 15, 3) := by decide +kernel
theorem dX12_set_50 : decode cX12_set 50 = .ok (.iload_n 3, 1) := by decide +kernel
theorem dX12_set_51 : decode cX12_set 51 = .ok (.ireturn, 1) := by decide +kernel
theorem dX12_set_52 : decode cX12_set 52 = .ok (.iload_n 2, 1) := by decide +kernel
theorem dX12_set_53 : decode cX12_set 53 = .ok (.iconst 1, 1) := by decide +kernel
theorem dX12_set_54 : decode cX12_set 54 = .ok (.sipush 9999, 3) := by decide +kernel
theorem dX12_set_57 : decode cX12_set 57 = .ok (.invokestatic 101, 3) := by decide +kernel
theorem dX12_set_60 : decode cX12_set 60 = .ok (.ifCond .ne 5, 3) := by decide +kernel
theorem dX12_set_63 : decode cX12_set 63 = .ok (.iconst (-1), 1) := by decide +kernel
theorem dX12_set_64 : decode cX12_set 64 = .ok (.ireturn, 1) := by decide +kernel
theorem dX12_set_65 : decode cX12_set 65 = .ok (.aload_n 0, 1) := by decide +kernel
theorem dX12_set_66 : decode cX12_set 66 = .ok (.getfield 18, 3) := by decide +kernel
theorem dX12_set_69 : decode cX12_set 69 = .ok (.istore_n 3, 1) := by decide +kernel
theorem dX12_set_70 : decode cX12_set 70 = .ok (.aload_n 0, 1) := by decide +kernel
theorem dX12_set_71 : decode cX12_set 71 = .ok (.iload_n 2, 1) := by decide +kernel
theorem dX12_set_72 : decode cX12_set 72 = .ok (.putfield 18, 3) := by decide +kernel
theorem dX12_set_75 : decode cX12_set 75 = .ok (.iload_n 3, 1) := by decide +kernel
theorem dX12_set_76 : decode cX12_set 76 = .ok (.ireturn, 1) := by decide +kernel
theorem dX12_set_77 : decode cX12_set 77 = .ok (.iload_n 2, 1) := by decide +kernel
theorem dX12_set_78 : decode cX12_set 78 = .ok (.iconst 0, 1) := by decide +kernel
theorem dX12_set_79 : decode cX12_set 79 = .ok (.iconst 1, 1) := by decide +kernel
theorem dX12_set_80 : decode cX12_set 80 = .ok (.invokestatic 101, 3) := by decide +kernel
theorem dX12_set_83 : decode cX12_set 83 = .ok (.ifCond .ne 5, 3) := by decide +kernel
theorem dX12_set_86 : decode cX12_set 86 = .ok (.iconst (-1), 1) := by decide +kernel
theorem dX12_set_87 : decode cX12_set 87 = .ok (.ireturn, 1) := by decide +kernel
theorem dX12_set_88 : decode cX12_set 88 = .ok (.aload_n 0, 1) := by decide +kernel
theorem dX12_set_89 : decode cX12_set 89 = .ok (.getfield 95, 3) := by decide +kernel
theorem dX12_set_92 : decode cX12_set 92 = .ok (.istore_n 3, 1) := by decide +kernel
theorem dX12_set_93 : decode cX12_set 93 = .ok (.aload_n 0, 1) := by decide +kernel
theorem dX12_set_94 : decode cX12_set 94 = .ok (.iload_n 2, 1) := by decide +kernel
theorem dX12_set_95 : decode cX12_set 95 = .ok (.putfield 95, 3) := by decide +kernel
theorem dX12_set_98 : decode cX12_set 98 = .ok (.iload_n 3, 1) := by decide +kernel
theorem dX12_set_99 : decode cX12_set 99 = .ok (.ireturn, 1) := by decide +kernel
theorem dX12_set_100 : decode cX12_set 100 = .ok (.iconst (-1), 1) := by decide +kernel
theorem dX12_set_101 : decode cX12_set 101 = .ok (.ireturn, 1) := by decide +kernel
theorem dX12_isName_0 : decode cX12_isName 0 = .ok (.iload_n 0, 1) := by decide +kernel
theorem dX12_isName_1 : decode cX12_isName 1 = .ok (.iconst 1, 1) := by decide +kernel
theorem dX12_isName_2 : decode cX12_isName 2 = .ok (.if_icmp .lt 9, 3) := by decide +kernel
theorem dX12_isName_5 : decode cX12_isName 5 = .ok (.iload_n 0, 1) := by decide +kernel
theorem dX12_isName_6 : decode cX12_isName 6 = .ok (.ldc 109, 2) := by decide +kernel
theorem dX12_isName_8 : decode cX12_isName 8 = .ok (.if_icmp .le 5, 3) := by decide +kernel
theorem dX12_isName_11 : decode cX12_isName 11 = .ok (.iconst 0, 1) := by decide +kernel
theorem dX12_isName_12 : decode cX12_isName 12 = .ok (.ireturn, 1) := by decide +kernel
theorem dX12_isName_13 : decode cX12_isName 13 = .ok (.iload_n 0, 1) := by decide +kernel
theorem dX12_isName_14 : decode cX12_isName 14 = .ok (.istore_n 1, 1) := by decide +kernel
theorem dX12_isName_15 : decode cX12_isName 15 = .ok (.iload_n 1, 1) := by decide +kernel
theorem dX12_isName_16 : decode cX12_isName 16 = .ok (.ifCond .le 20, 3) := by decide +kernel
theorem dX12_isName_19 : decode cX12_isName 19 = .ok (.iload_n 1, 1) := by decide +kernel
theorem dX12_isName_20 : decode cX12_isName 20 = .ok (.bipush 27, 2) := by decide +kernel
theorem dX12_isName_22 : decode cX12_isName 22 = .ok (.irem, 1) := by decide +kernel
theorem dX12_isName_23 : decode cX12_isName 23 = .ok (.ifCond .ne 5, 3) := by decide +kernel
theorem dX12_isName_26 : decode cX12_isName 26 = .ok (.iconst 0, 1) := by decide +kernel
theorem dX12_isName_27 : decode cX12_isName 27 = .ok (.ireturn, 1) := by decide +kernel
theorem dX12_isName_28 : decode cX12_isName 28 = .ok (.iload_n 1, 1) := by decide +kernel
theorem dX12_isName_29 : decode cX12_isName 29 = .ok (.bipush 27, 2) := by decide +kernel
theorem dX12_isName_31 : decode cX12_isName 31 = .ok (.idiv, 1) := by decide +kernel
theorem dX12_isName_32 : decode cX12_isName 32 = .ok (.istore_n 1, 1) := by decide +kernel
theorem dX12_isName_33 : decode cX12_isName 33 = .ok (.goto (-18), 3) := by decide +kernel
theorem dX12_isName_36 : decode cX12_isName 36 = .ok (.iconst 1, 1) := by decide +kernel
theorem dX12_isName_37 : decode cX12_isName 37 = .ok (.ireturn, 1) := by decide +kernel
theorem dX12_find_0 : decode cX12_find 0 = .ok (.iconst 0, 1) := by decide +kernel
theorem dX12_find_1 : decode cX12_find 1 = .ok (.istore_n 2, 1) := by decide +kernel
theorem dX12_find_2 : decode cX12_find 2 = .ok (.iload_n 2, 1) := by decide +kernel
theorem dX12_find_3 : decode cX12_find 3 = .ok (.aload_n 0, 1) := by decide +kernel
theorem dX12_find_4 : decode cX12_find 4 = .ok (.getfield 98, 3) := by decide +kernel
theorem dX12_find_7 : decode cX12_find 7 = .ok (.if_icmp .ge 21, 3) := by decide +kernel
theorem dX12_find_10 : decode cX12_find 10 = .ok (.aload_n 0, 1) := by decide +kernel
theorem dX12_find_11 : decode cX12_find 11 = .ok (.getfield 28, 3) := by decide +kernel
theorem dX12_find_14 : decode cX12_find 14 = .ok (.iload_n 2, 1) := by decide +kernel
theorem dX12_find_15 : decode cX12_find 15 = .ok (.iaload, 1) := by decide +kernel
theorem dX12_find_16 : decode cX12_find 16 = .ok (.iload_n 1, 1) := by decide +kernel
theorem dX12_find_17 : decode cX12_find 17 = .ok (.if_icmp .ne 5, 3) := by decide +kernel
theorem dX12_find_20 : decode cX12_find 20 = .ok (.iload_n 2, 1) := by decide +kernel
theorem dX12_find_21 : decode cX12_find 21 = .ok (.ireturn, 1) := by decide +kernel
theorem dX12_find_22 : decode cX12_find 22 = .ok (.iinc 2 1, 3) := by decide +kernel
theorem dX12_find_25 : decode cX12_find 25 = .ok (.goto (-23), 3) := by decide +kernel
theorem dX12_find_28 : decode cX12_find 28 = .ok (.iconst (-1), 1) := by decide +kernel
theorem dX12_find_29 : decode cX12_find 29 = .ok (.ireturn, 1) := by decide +kernel
theorem dX12_lay_0 : decode cX12_lay 0 = .ok (.aload_n 0, 1) := by decide +kernel
theorem dX12_lay_1 : decode cX12_lay 1 = .ok (.getfield 28, 3) := by decide +kernel
theorem dX12_lay_4 : decode cX12_lay 4 = .ok (.iload_n 1, 1) := by decide +kernel
theorem dX12_lay_5 : decode cX12_lay 5 = .ok (.aload_n 0, 1) := by decide +kernel
theorem dX12_lay_6 : decode cX12_lay 6 = .ok (.getfield 28, 3) := by decide +kernel
theorem dX12_lay_9 : decode cX12_lay 9 = .ok (.iload_n 2, 1) := by decide +kernel
theorem dX12_lay_10 : decode cX12_lay 10 = .ok (.iaload, 1) := by decide +kernel
theorem dX12_lay_11 : decode cX12_lay 11 = .ok (.iastore, 1) := by decide +kernel
theorem dX12_lay_12 : decode cX12_lay 12 = .ok (.aload_n 0, 1) := by decide +kernel
theorem dX12_lay_13 : decode cX12_lay 13 = .ok (.getfield 31, 3) := by decide +kernel
theorem dX12_lay_16 : decode cX12_lay 16 = .ok (.iload_n 1, 1) := by decide +kernel
theorem dX12_lay_17 : decode cX12_lay 17 = .ok (.aload_n 0, 1) := by decide +kernel
theorem dX12_lay_18 : decode cX12_lay 18 = .ok (.getfield 31, 3) := by decide +kernel
theorem dX12_lay_21 : decode cX12_lay 21 = .ok (.iload_n 2, 1) := by decide +kernel
theorem dX12_lay_22 : decode cX12_lay 22 = .ok (.iaload, 1) := by decide +kernel
theorem dX12_lay_23 : decode cX12_lay 23 = .ok (.iastore, 1) := by decide +kernel
theorem dX12_lay_24 : decode cX12_lay 24 = .ok (.aload_n 0, 1) := by decide +kernel
theorem dX12_lay_25 : decode cX12_lay 25 = .ok (.getfield 34, 3) := by decide +kernel
theorem dX12_lay_28 : decode cX12_lay 28 = .ok (.iload_n 1, 1) := by decide +kernel
theorem dX12_lay_29 : decode cX12_lay 29 = .ok (.aload_n 0, 1) := by decide +kernel
theorem dX12_lay_30 : decode cX12_lay 30 = .ok (.getfield 34, 3) := by decide +kernel
theorem dX12_lay_33 : decode cX12_lay 33 = .ok (.iload_n 2, 1) := by decide +kernel
theorem dX12_lay_34 : decode cX12_lay 34 = .ok (.iaload, 1) := by decide +kernel
theorem dX12_lay_35 : decode cX12_lay 35 = .ok (.iastore, 1) := by decide +kernel
theorem dX12_lay_36 : decode cX12_lay 36 = .ok (.aload_n 0, 1) := by decide +kernel
theorem dX12_lay_37 : decode cX12_lay 37 = .ok (.getfield 37, 3) := by decide +kernel
theorem dX12_lay_40 : decode cX12_lay 40 = .ok (.iload_n 1, 1) := by decide +kernel
theorem dX12_lay_41 : decode cX12_lay 41 = .ok (.aload_n 0, 1) := by decide +kernel
theorem dX12_lay_42 : decode cX12_lay 42 = .ok (.getfield 37, 3) := by decide +kernel
theorem dX12_lay_45 : decode cX12_lay 45 = .ok (.iload_n 2, 1) := by decide +kernel
theorem dX12_lay_46 : decode cX12_lay 46 = .ok (.iaload, 1) := by decide +kernel
theorem dX12_lay_47 : decode cX12_lay 47 = .ok (.iastore, 1) := by decide +kernel
theorem dX12_lay_48 : decode cX12_lay 48 = .ok (.aload_n 0, 1) := by decide +kernel
theorem dX12_lay_49 : decode cX12_lay 49 = .ok (.getfield 40, 3) := by decide +kernel
theorem dX12_lay_52 : decode cX12_lay 52 = .ok (.iload_n 1, 1) := by decide +kernel
theorem dX12_lay_53 : decode cX12_lay 53 = .ok (.aload_n 0, 1) := by decide +kernel
theorem dX12_lay_54 : decode cX12_lay 54 = .ok (.getfield 40, 3) := by decide +kernel
theorem dX12_lay_57 : decode cX12_lay 57 = .ok (.iload_n 2, 1) := by decide +kernel
theorem dX12_lay_58 : decode cX12_lay 58 = .ok (.iaload, 1) := by decide +kernel
theorem dX12_lay_59 : decode cX12_lay 59 = .ok (.iastore, 1) := by decide +kernel
theorem dX12_lay_60 : decode cX12_lay 60 = .ok (.aload_n 0, 1) := by decide +kernel
theorem dX12_lay_61 : decode cX12_lay 61 = .ok (.getfield 43, 3) := by decide +kernel
theorem dX12_lay_64 : decode cX12_lay 64 = .ok (.iload_n 1, 1) := by decide +kernel
theorem dX12_lay_65 : decode cX12_lay 65 = .ok (.aload_n 0, 1) := by decide +kernel
theorem dX12_lay_66 : decode cX12_lay 66 = .ok (.getfield 43, 3) := by decide +kernel
theorem dX12_lay_69 : decode cX12_lay 69 = .ok (.iload_n 2, 1) := by decide +kernel
theorem dX12_lay_70 : decode cX12_lay 70 = .ok (.iaload, 1) := by decide +kernel
theorem dX12_lay_71 : decode cX12_lay 71 = .ok (.iastore, 1) := by decide +kernel
theorem dX12_lay_72 : decode cX12_lay 72 = .ok (.return_, 1) := by decide +kernel
set_option maxRecDepth 20000 in
theorem ggX12_put_X12_isName : GoodIn wsX12_put wsX12_isName := goodIn_r _ [11, 12] rfl (by decide +kernel)
set_option maxRecDepth 20000 in
theorem gX12_put_X12_isName : GoodIn wsX12_put (va_wsS RX12 110 yX12_isName wsX12_isName) := goodIn_app (goodIn_of _ (by decide +kernel)) ggX12_put_X12_isName
set_option maxRecDepth 20000 in
theorem ggX12_put_X12_in : GoodIn wsX12_put wsX12_in := goodIn_r _ [15] rfl (by decide +kernel)
set_option maxRecDepth 20000 in
theorem gX12_put_X12_in : GoodIn wsX12_put (va_wsS RX12 101 yX12_in wsX12_in) := goodIn_app (goodIn_of _ (by decide +kernel)) ggX12_put_X12_in
set_option maxRecDepth 20000 in
theorem ggX12_put_X12_isSection : GoodIn wsX12_put wsX12_isSection := goodIn_r _ [19, 20, 13, 14, 10, 15, 29, 30, 31, 32, 33, 34, 35, 36, 37, 38, 39, 40, 41, 42, 43, 44, 45, 46, 47, 48, 49, 50, 51, 52, 53, 54, 55, 56, 57, 58, 59, 60] rfl (by decide +kernel)
set_option maxRecDepth 20000 in
theorem gX12_put_X12_isSection : GoodIn wsX12_put (wsV RX12 105 RX12 yX12_isSection wsX12_isSection) := goodIn_app (goodIn_of _ (by decide +kernel)) ggX12_put_X12_isSection
set_option maxRecDepth 20000 in
theorem ggX12_put_X12_find : GoodIn wsX12_put wsX12_find := goodIn_r _ [24, 1, 2, 29, 30, 31, 32, 33, 34, 35, 36, 37, 38, 39, 40, 41, 42, 43, 44, 45, 46, 47, 48, 49, 50, 51, 52, 53, 54, 55, 56, 57, 58, 59, 60] rfl (by decide +kernel)
set_option maxRecDepth 20000 in
theorem gX12_put_X12_find : GoodIn wsX12_put (wsV RX12 113 RX12 yX12_find wsX12_find) := goodIn_app (goodIn_of _ (by decide +kernel)) ggX12_put_X12_find
set_option maxRecDepth 20000 in
theorem ggX12_put_X12_lay : GoodIn wsX12_put wsX12_lay := goodIn_r _ [28, 2, 3, 4, 5, 6, 7, 29, 30, 31, 32, 33, 34, 35, 36, 37, 38, 39, 40, 41, 42, 43, 44, 45, 46, 47, 48, 49, 50, 51, 52, 53, 54, 55, 56, 57, 58, 59, 60] rfl (by decide +kernel)
set_option maxRecDepth 20000 in
theorem gX12_put_X12_lay : GoodIn wsX12_put (wsV RX12 117 RX12 yX12_lay wsX12_lay) := goodIn_app (goodIn_of _ (by decide +kernel)) ggX12_put_X12_lay
theorem dX12_put_0 : decode cX12_put 0 = .ok (.iload_n 1, 1) := by decide +kernel
theorem dX12_put_1 : decode cX12_put 1 = .ok (.invokestatic 110, 3) := by decide +kernel
theorem dX12_put_4 : decode cX12_put 4 = .ok (.ifCond .eq 55, 3) := by decide +kernel
theorem dX12_put_7 : decode cX12_put 7 = .ok (.iload_n 2, 1) := by decide +kernel
theorem dX12_put_8 : decode cX12_put 8 = .ok (.iconst 0, 1) := by decide +kernel
theorem dX12_put_9 : decode cX12_put 9 = .ok (.iconst 4, 1) := by decide +kernel
theorem dX12_put_10 : decode cX12_put 10 = .ok (.invokestatic 101, 3) := by decide +kernel
theorem dX12_put_13 : decode cX12_put 13 = .ok (.ifCond .eq 46, 3) := by decide +kernel
theorem dX12_put_16 : decode cX12_put 16 = .ok (.iload_n 3, 1) := by decide +kernel
theorem dX12_put_17 : decode cX12_put 17 = .ok (.iconst 1, 1) := by decide +kernel
theorem dX12_put_18 : decode cX12_put 18 = .ok (.sipush 999, 3) := by decide +kernel
theorem dX12_put_21 : decode cX12_put 21 = .ok (.invokestatic 101, 3) := by decide +kernel
theorem dX12_put_24 : decode cX12_put 24 = .ok (.ifCond .eq 35, 3) := by decide +kernel
theorem dX12_put_27 : decode cX12_put 27 = .ok (.aload_n 0, 1) := by decide +kernel
theorem dX12_put_28 : decode cX12_put 28 = .ok (.iload 4, 2) := by decide +kernel
theorem dX12_put_30 : decode cX12_put 30 = .ok (.invokevirtual 105, 3) := by decide +kernel
theorem dX12_put_33 : decode cX12_put 33 = .ok (.ifCond .eq 26, 3) := by decide +kernel
theorem dX12_put_36 : decode cX12_put 36 = .ok (.iload 5, 2) := by decide +kernel
theorem dX12_put_38 : decode cX12_put 38 = .ok (.bipush (-20), 2) := by decide +kernel
theorem dX12_put_40 : decode cX12_put 40 = .ok (.bipush 20, 2) := by decide +kernel
theorem dX12_put_42 : decode cX12_put 42 = .ok (.invokestatic 101, 3) := by decide +kernel
theorem dX12_put_45 : decode cX12_put 45 = .ok (.ifCond .eq 14, 3) := by decide +kernel
theorem dX12_put_48 : decode cX12_put 48 = .ok (.iload 6, 2) := by decide +kernel
theorem dX12_put_50 : decode cX12_put 50 = .ok (.iconst 0, 1) := by decide +kernel
theorem dX12_put_51 : decode cX12_put 51 = .ok (.bipush 40, 2) := by decide +kernel
theorem dX12_put_53 : decode cX12_put 53 = .ok (.invokestatic 101, 3) := by decide +kernel
theorem dX12_put_56 : decode cX12_put 56 = .ok (.ifCond .ne 5, 3) := by decide +kernel
theorem dX12_put_59 : decode cX12_put 59 = .ok (.iconst (-1), 1) := by decide +kernel
theorem dX12_put_60 : decode cX12_put 60 = .ok (.ireturn, 1) := by decide +kernel
theorem dX12_put_61 : decode cX12_put 61 = .ok (.aload_n 0, 1) := by decide +kernel
theorem dX12_put_62 : decode cX12_put 62 = .ok (.iload_n 1, 1) := by decide +kernel
theorem dX12_put_63 : decode cX12_put 63 = .ok (.invokevirtual 113, 3) := by decide +kernel
theorem dX12_put_66 : decode cX12_put 66 = .ok (.ifCond .lt 6, 3) := by decide +kernel
theorem dX12_put_69 : decode cX12_put 69 = .ok (.bipush (-5), 2) := by decide +kernel
theorem dX12_put_71 : decode cX12_put 71 = .ok (.ireturn, 1) := by decide +kernel
theorem dX12_put_72 : decode cX12_put 72 = .ok (.aload_n 0, 1) := by decide +kernel
theorem dX12_put_73 : decode cX12_put 73 = .ok (.getfield 98, 3) := by decide +kernel
theorem dX12_put_76 : decode cX12_put 76 = .ok (.bipush 16, 2) := by decide +kernel
theorem dX12_put_78 : decode cX12_put 78 = .ok (.if_icmp .ne 6, 3) := by decide +kernel
theorem dX12_put_81 : decode cX12_put 81 = .ok (.bipush (-3), 2) := by decide +kernel
theorem dX12_put_83 : decode cX12_put 83 = .ok (.ireturn, 1) := by decide +kernel
theorem dX12_put_84 : decode cX12_put 84 = .ok (.aload_n 0, 1) := by decide +kernel
theorem dX12_put_85 : decode cX12_put 85 = .ok (.getfield 98, 3) := by decide +kernel
theorem dX12_put_88 : decode cX12_put 88 = .ok (.istore 7, 2) := by decide +kernel
theorem dX12_put_90 : decode cX12_put 90 = .ok (.iload 7, 2) := by decide +kernel
theorem dX12_put_92 : decode cX12_put 92 = .ok (.ifCond .le 32, 3) := by decide +kernel
theorem dX12_put_95 : decode cX12_put 95 = .ok (.aload_n 0, 1) := by decide +kernel
theorem dX12_put_96 : decode cX12_put 96 = .ok (.getfield 28, 3) := by decide +kernel
theorem dX12_put_99 : decode cX12_put 99 = .ok (.iload 7, 2) := by decide +kernel
theorem dX12_put_101 : decode cX12_put 101 = .ok (.iconst 1, 1) := by decide +kernel
theorem dX12_put_102 : decode cX12_put 102 = .ok (.isub, 1) := by decide +kernel
theorem dX12_put_103 : decode cX12_put 103 = .ok (.iaload, 1) := by decide +kernel
theorem dX12_put_104 : decode cX12_put 104 = .ok (.iload_n 1, 1) := by decide +kernel
theorem dX12_put_105 : decode cX12_put 105 = .ok (.if_icmp .le 19, 3) := by decide +kernel
theorem dX12_put_108 : decode cX12_put 108 = .ok (.aload_n 0, 1) := by decide +kernel
theorem dX12_put_109 : decode cX12_put 109 = .ok (.iload 7, 2) := by decide +kernel
theorem dX12_put_111 : decode cX12_put 111 = .ok (.iload 7, 2) := by decide +kernel
theorem dX12_put_113 : decode cX12_put 113 = .ok (.iconst 1, 1) := by decide +kernel
theorem dX12_put_114 : decode cX12_put 114 = .ok (.isub, 1) := by decide +kernel
theorem dX12_put_115 : decode cX12_put 115 = .ok (.invokevirtual 117, 3) := by decide +kernel
theorem dX12_put_118 : decode cX12_put 118 = .ok (.iinc 7 (-1), 3) := by decide +kernel
theorem dX12_put_121 : decode cX12_put 121 = .ok (.goto (-31), 3) := by decide +kernel
theorem dX12_put_124 : decode cX12_put 124 = .ok (.aload_n 0, 1) := by decide +kernel
theorem dX12_put_125 : decode cX12_put 125 = .ok (.getfield 28, 3) := by decide +kernel
theorem dX12_put_128 : decode cX12_put 128 = .ok (.iload 7, 2) := by decide +kernel
theorem dX12_put_130 : decode cX12_put 130 = .ok (.iload_n 1, 1) := by decide +kernel
theorem dX12_put_131 : decode cX12_put 131 = .ok (.iastore, 1) := by decide +kernel
theorem dX12_put_132 : decode cX12_put 132 = .ok (.aload_n 0, 1) := by decide +kernel
theorem dX12_put_133 : decode cX12_put 133 = .ok (.getfield 31, 3) := by decide +kernel
theorem dX12_put_136 : decode cX12_put 136 = .ok (.iload 7, 2) := by decide +kernel
theorem dX12_put_138 : decode cX12_put 138 = .ok (.iload_n 2, 1) := by decide +kernel
theorem dX12_put_139 : decode cX12_put 139 = .ok (.iastore, 1) := by decide +kernel
theorem dX12_put_140 : decode cX12_put 140 = .ok (.aload_n 0, 1) := by decide +kernel
theorem dX12_put_141 : decode cX12_put 141 = .ok (.getfield 34, 3) := by decide +kernel
theorem dX12_put_144 : decode cX12_put 144 = .ok (.iload 7, 2) := by decide +kernel
theorem dX12_put_146 : decode cX12_put 146 = .ok (.iload_n 3, 1) := by decide +kernel
theorem dX12_put_147 : decode cX12_put 147 = .ok (.iastore, 1) := by decide +kernel
theorem dX12_put_148 : decode cX12_put 148 = .ok (.aload_n 0, 1) := by decide +kernel
theorem dX12_put_149 : decode cX12_put 149 = .ok (.getfield 37, 3) := by decide +kernel
theorem dX12_put_152 : decode cX12_put 152 = .ok (.iload 7, 2) := by decide +kernel
theorem dX12_put_154 : decode cX12_put 154 = .ok (.iload 4, 2) := by decide +kernel
theorem dX12_put_156 : decode cX12_put 156 = .ok (.iastore, 1) := by decide +kernel
theorem dX12_put_157 : decode cX12_put 157 = .ok (.aload_n 0, 1) := by decide +kernel
theorem dX12_put_158 : decode cX12_put 158 = .ok (.getfield 40, 3) := by decide +kernel
theorem dX12_put_161 : decode cX12_put 161 = .ok (.iload 7, 2) := by decide +kernel
theorem dX12_put_163 : decode cX12_put 163 = .ok (.iload 5, 2) := by decide +kernel
theorem dX12_put_165 : decode cX12_put 165 = .ok (.iastore, 1) := by decide +kernel
theorem dX12_put_166 : decode cX12_put 166 = .ok (.aload_n 0, 1) := by decide +kernel
theorem dX12_put_167 : decode cX12_put 167 = .ok (.getfield 43, 3) := by decide +kernel
theorem dX12_put_170 : decode cX12_put 170 = .ok (.iload 7, 2) := by decide +kernel
theorem dX12_put_172 : decode cX12_put 172 = .ok (.iload 6, 2) := by decide +kernel
theorem dX12_put_174 : decode cX12_put 174 = .ok (.iastore, 1) := by decide +kernel
theorem dX12_put_175 : decode cX12_put 175 = .ok (.aload_n 0, 1) := by decide +kernel
theorem dX12_put_176 : decode cX12_put 176 = .ok (.dup, 1) := by decide +kernel
theorem dX12_put_177 : decode cX12_put 177 = .ok (.getfield 98, 3) := by decide +kernel
theorem dX12_put_180 : decode cX12_put 180 = .ok (.iconst 1, 1) := by decide +kernel
theorem dX12_put_181 : decode cX12_put 181 = .ok (.iadd, 1) := by decide +kernel
theorem dX12_put_182 : decode cX12_put 182 = .ok (.putfield 98, 3) := by decide +kernel
theorem dX12_put_185 : decode cX12_put 185 = .ok (.aload_n 0, 1) := by decide +kernel
theorem dX12_put_186 : decode cX12_put 186 = .ok (.getfield 98, 3) := by decide +kernel
theorem dX12_put_189 : decode cX12_put 189 = .ok (.ireturn, 1) := by decide +kernel
set_option maxRecDepth 20000 in
theorem ggX12_take_X12_isName : GoodIn wsX12_take wsX12_isName := goodIn_r _ [5, 6] rfl (by decide +kernel)
set_option maxRecDepth 20000 in
theorem gX12_take_X12_isName : GoodIn wsX12_take (va_wsS RX12 110 yX12_isName wsX12_isName) := goodIn_app (goodIn_of _ (by decide +kernel)) ggX12_take_X12_isName
set_option maxRecDepth 20000 in
theorem ggX12_take_X12_find : GoodIn wsX12_take wsX12_find := goodIn_r _ [10, 1, 11, 26, 27, 28, 29, 30, 31, 32, 33, 34, 35, 36, 37, 38, 39, 40, 41, 42, 43, 44, 45, 46, 47, 48, 49, 50, 51, 52, 53, 54, 55, 56, 57] rfl (by decide +kernel)
set_option maxRecDepth 20000 in
theorem gX12_take_X12_find : GoodIn wsX12_take (wsV RX12 113 RX12 yX12_find wsX12_find) := goodIn_app (goodIn_of _ (by decide +kernel)) ggX12_take_X12_find
set_option maxRecDepth 20000 in
theorem ggX12_take_X12_weighs : GoodIn wsX12_take wsX12_weighs := goodIn_r _ [15, 16, 17, 18, 26, 27, 28, 29, 30, 31, 32, 33, 34, 35, 36, 37, 38, 39, 40, 41, 42, 43, 44, 45, 46, 47, 48, 49, 50, 51, 52, 53, 54, 55, 56, 57] rfl (by decide +kernel)
set_option maxRecDepth 20000 in
theorem gX12_take_X12_weighs : GoodIn wsX12_take (wsV RX12 121 RX12 yX12_weighs wsX12_weighs) := goodIn_app (goodIn_of _ (by decide +kernel)) ggX12_take_X12_weighs
set_option maxRecDepth 20000 in
theorem ggX12_take_X12_lay : GoodIn wsX12_take wsX12_lay := goodIn_r _ [22, 11, 18, 16, 23, 24, 25, 26, 27, 28, 29, 30, 31, 32, 33, 34, 35, 36, 37, 38, 39, 40, 41, 42, 43, 44, 45, 46, 47, 48, 49, 50, 51, 52, 53, 54, 55, 56, 57] rfl (by decide +kernel)
set_option maxRecDepth 20000 in
theorem gX12_take_X12_lay : GoodIn wsX12_take (wsV RX12 117 RX12 yX12_lay wsX12_lay) := goodIn_app (goodIn_of _ (by decide +kernel)) ggX12_take_X12_lay
theorem dX12_take_0 : decode cX12_take 0 = .ok (.iload_n 1, 1) := by decide +kernel
theorem dX12_take_1 : decode cX12_take 1 = .ok (.invokestatic 110, 3) := by decide +kernel
theorem dX12_take_4 : decode cX12_take 4 = .ok (.ifCond .ne 5, 3) := by decide +kernel
theorem dX12_take_7 : decode cX12_take 7 = .ok (.iconst (-1), 1) := by decide +kernel
theorem dX12_take_8 : decode cX12_take 8 = .ok (.ireturn, 1) := by decide +kernel
theorem dX12_take_9 : decode cX12_take 9 = .ok (.aload_n 0, 1) := by decide +kernel
theorem dX12_take_10 : decode cX12_take 10 = .ok (.iload_n 1, 1) := by decide +kernel
theorem dX12_take_11 : decode cX12_take 11 = .ok (.invokevirtual 113, 3) := by decide +kernel
theorem dX12_take_14 : decode cX12_take 14 = .ok (.istore_n 2, 1) := by decide +kernel
theorem dX12_take_15 : decode cX12_take 15 = .ok (.iload_n 2, 1) := by decide +kernel
theorem dX12_take_16 : decode cX12_take 16 = .ok (.ifCond .ge 6, 3) := by decide +kernel
theorem dX12_take_19 : decode cX12_take 19 = .ok (.bipush (-2), 2) := by decide +kernel
theorem dX12_take_21 : decode cX12_take 21 = .ok (.ireturn, 1) := by decide +kernel
theorem dX12_take_22 : decode cX12_take 22 = .ok (.aload_n 0, 1) := by decide +kernel
theorem dX12_take_23 : decode cX12_take 23 = .ok (.iload_n 2, 1) := by decide +kernel
theorem dX12_take_24 : decode cX12_take 24 = .ok (.invokevirtual 121, 3) := by decide +kernel
theorem dX12_take_27 : decode cX12_take 27 = .ok (.istore_n 3, 1) := by decide +kernel
theorem dX12_take_28 : decode cX12_take 28 = .ok (.iload_n 2, 1) := by decide +kernel
theorem dX12_take_29 : decode cX12_take 29 = .ok (.istore 4, 2) := by decide +kernel
theorem dX12_take_31 : decode cX12_take 31 = .ok (.iload 4, 2) := by decide +kernel
theorem dX12_take_33 : decode cX12_take 33 = .ok (.iconst 1, 1) := by decide +kernel
theorem dX12_take_34 : decode cX12_take 34 = .ok (.iadd, 1) := by decide +kernel
theorem dX12_take_35 : decode cX12_take 35 = .ok (.aload_n 0, 1) := by decide +kernel
theorem dX12_take_36 : decode cX12_take 36 = .ok (.getfield 98, 3) := by decide +kernel
theorem dX12_take_39 : decode cX12_take 39 = .ok (.if_icmp .ge 19, 3) := by decide +kernel
theorem dX12_take_42 : decode cX12_take 42 = .ok (.aload_n 0, 1) := by decide +kernel
theorem dX12_take_43 : decode cX12_take 43 = .ok (.iload 4, 2) := by decide +kernel
theorem dX12_take_45 : decode cX12_take 45 = .ok (.iload 4, 2) := by decide +kernel
theorem dX12_take_47 : decode cX12_take 47 = .ok (.iconst 1, 1) := by decide +kernel
theorem dX12_take_48 : decode cX12_take 48 = .ok (.iadd, 1) := by decide +kernel
theorem dX12_take_49 : decode cX12_take 49 = .ok (.invokevirtual 117, 3) := by decide +kernel
theorem dX12_take_52 : decode cX12_take 52 = .ok (.iinc 4 1, 3) := by decide +kernel
theorem dX12_take_55 : decode cX12_take 55 = .ok (.goto (-24), 3) := by decide +kernel
theorem dX12_take_58 : decode cX12_take 58 = .ok (.aload_n 0, 1) := by decide +kernel
theorem dX12_take_59 : decode cX12_take 59 = .ok (.dup, 1) := by decide +kernel
theorem dX12_take_60 : decode cX12_take 60 = .ok (.getfield 98, 3) := by decide +kernel
theorem dX12_take_63 : decode cX12_take 63 = .ok (.iconst 1, 1) := by decide +kernel
theorem dX12_take_64 : decode cX12_take 64 = .ok (.isub, 1) := by decide +kernel
theorem dX12_take_65 : decode cX12_take 65 = .ok (.putfield 98, 3) := by decide +kernel
theorem dX12_take_68 : decode cX12_take 68 = .ok (.iload_n 3, 1) := by decide +kernel
theorem dX12_take_69 : decode cX12_take 69 = .ok (.ireturn, 1) := by decide +kernel
set_option maxRecDepth 20000 in
theorem ggX12_move_X12_isName : GoodIn wsX12_move wsX12_isName := goodIn_r _ [6, 7] rfl (by decide +kernel)
set_option maxRecDepth 20000 in
theorem gX12_move_X12_isName : GoodIn wsX12_move (va_wsS RX12 110 yX12_isName wsX12_isName) := goodIn_app (goodIn_of _ (by decide +kernel)) ggX12_move_X12_isName
set_option maxRecDepth 20000 in
theorem ggX12_move_X12_isSection : GoodIn wsX12_move wsX12_isSection := goodIn_r _ [11, 12, 13, 14, 5, 15, 22, 23, 24, 25, 26, 27, 28, 29, 30, 31, 32, 33, 34, 35, 36, 37, 38, 39, 40, 41, 42, 43, 44, 45, 46, 47, 48, 49, 50, 51, 52, 53] rfl (by decide +kernel)
set_option maxRecDepth 20000 in
theorem gX12_move_X12_isSection : GoodIn wsX12_move (wsV RX12 105 RX12 yX12_isSection wsX12_isSection) := goodIn_app (goodIn_of _ (by decide +kernel)) ggX12_move_X12_isSection
set_option maxRecDepth 20000 in
theorem ggX12_move_X12_in : GoodIn wsX12_move wsX12_in := goodIn_r _ [15] rfl (by decide +kernel)
set_option maxRecDepth 20000 in
theorem gX12_move_X12_in : GoodIn wsX12_move (va_wsS RX12 101 yX12_in wsX12_in) := goodIn_app (goodIn_of _ (by decide +kernel)) ggX12_move_X12_in
set_option maxRecDepth 20000 in
theorem ggX12_move_X12_find : GoodIn wsX12_move wsX12_find := goodIn_r _ [19, 20, 21, 22, 23, 24, 25, 26, 27, 28, 29, 30, 31, 32, 33, 34, 35, 36, 37, 38, 39, 40, 41, 42, 43, 44, 45, 46, 47, 48, 49, 50, 51, 52, 53] rfl (by decide +kernel)
set_option maxRecDepth 20000 in
theorem gX12_move_X12_find : GoodIn wsX12_move (wsV RX12 113 RX12 yX12_find wsX12_find) := goodIn_app (goodIn_of _ (by decide +kernel)) ggX12_move_X12_find
theorem dX12_move_0 : decode cX12_move 0 = .ok (.iload_n 1, 1) := by decide +kernel
theorem dX12_move_1 : decode cX12_move 1 = .ok (.invokestatic 110, 3) := by decide +kernel
theorem dX12_move_4 : decode cX12_move 4 = .ok (.ifCond .eq 22, 3) := by decide +kernel
theorem dX12_move_7 : decode cX12_move 7 = .ok (.aload_n 0, 1) := by decide +kernel
theorem dX12_move_8 : decode cX12_move 8 = .ok (.iload_n 2, 1) := by decide +kernel
theorem dX12_move_9 : decode cX12_move 9 = .ok (.invokevirtual 105, 3) := by decide +kernel
theorem dX12_move_12 : decode cX12_move 12 = .ok (.ifCond .eq 14, 3) := by decide +kernel
theorem dX12_move_15 : decode cX12_move 15 = .ok (.iload_n 3, 1) := by decide +kernel
theorem dX12_move_16 : decode cX12_move 16 = .ok (.bipush (-20), 2) := by decide +kernel
theorem dX12_move_18 : decode cX12_move 18 = .ok (.bipush 20, 2) := by decide +kernel
theorem dX12_move_20 : decode cX12_move 20 = .ok (.invokestatic 101, 3) := by decide +kernel
theorem dX12_move_23 : decode cX12_move 23 = .ok (.ifCond .ne 5, 3) := by decide +kernel
theorem dX12_move_26 : decode cX12_move 26 = .ok (.iconst (-1), 1) := by decide +kernel
theorem dX12_move_27 : decode cX12_move 27 = .ok (.ireturn, 1) := by decide +kernel
theorem dX12_move_28 : decode cX12_move 28 = .ok (.aload_n 0, 1) := by decide +kernel
theorem dX12_move_29 : decode cX12_move 29 = .ok (.iload_n 1, 1) := by decide +kernel
theorem dX12_move_30 : decode cX12_move 30 = .ok (.invokevirtual 113, 3) := by decide +kernel
theorem dX12_move_33 : decode cX12_move 33 = .ok (.istore 4, 2) := by decide +kernel
theorem dX12_move_35 : decode cX12_move 35 = .ok (.iload 4, 2) := by decide +kernel
theorem dX12_move_37 : decode cX12_move 37 = .ok (.ifCond .ge 6, 3) := by decide +kernel
theorem dX12_move_40 : decode cX12_move 40 = .ok (.bipush (-2), 2) := by decide +kernel
theorem dX12_move_42 : decode cX12_move 42 = .ok (.ireturn, 1) := by decide +kernel
theorem dX12_move_43 : decode cX12_move 43 = .ok (.aload_n 0, 1) := by decide +kernel
theorem dX12_move_44 : decode cX12_move 44 = .ok (.getfield 37, 3) := by decide +kernel
theorem dX12_move_47 : decode cX12_move 47 = .ok (.iload 4, 2) := by decide +kernel
theorem dX12_move_49 : decode cX12_move 49 = .ok (.iaload, 1) := by decide +kernel
theorem dX12_move_50 : decode cX12_move 50 = .ok (.istore 5, 2) := by decide +kernel
theorem dX12_move_52 : decode cX12_move 52 = .ok (.aload_n 0, 1) := by decide +kernel
theorem dX12_move_53 : decode cX12_move 53 = .ok (.getfield 37, 3) := by decide +kernel
theorem dX12_move_56 : decode cX12_move 56 = .ok (.iload 4, 2) := by decide +kernel
theorem dX12_move_58 : decode cX12_move 58 = .ok (.iload_n 2, 1) := by decide +kernel
theorem dX12_move_59 : decode cX12_move 59 = .ok (.iastore, 1) := by decide +kernel
theorem dX12_move_60 : decode cX12_move 60 = .ok (.aload_n 0, 1) := by decide +kernel
theorem dX12_move_61 : decode cX12_move 61 = .ok (.getfield 40, 3) := by decide +kernel
theorem dX12_move_64 : decode cX12_move 64 = .ok (.iload 4, 2) := by decide +kernel
theorem dX12_move_66 : decode cX12_move 66 = .ok (.iload_n 3, 1) := by decide +kernel
theorem dX12_move_67 : decode cX12_move 67 = .ok (.iastore, 1) := by decide +kernel
theorem dX12_move_68 : decode cX12_move 68 = .ok (.iload 5, 2) := by decide +kernel
theorem dX12_move_70 : decode cX12_move 70 = .ok (.ireturn, 1) := by decide +kernel
theorem dX12_weighs_0 : decode cX12_weighs 0 = .ok (.aload_n 0, 1) := by decide +kernel
theorem dX12_weighs_1 : decode cX12_weighs 1 = .ok (.getfield 34, 3) := by decide +kernel
theorem dX12_weighs_4 : decode cX12_weighs 4 = .ok (.iload_n 1, 1) := by decide +kernel
theorem dX12_weighs_5 : decode cX12_weighs 5 = .ok (.iaload, 1) := by decide +kernel
theorem dX12_weighs_6 : decode cX12_weighs 6 = .ok (.istore_n 2, 1) := by decide +kernel
theorem dX12_weighs_7 : decode cX12_weighs 7 = .ok (.iload_n 2, 1) := by decide +kernel
theorem dX12_weighs_8 : decode cX12_weighs 8 = .ok (.aload_n 0, 1) := by decide +kernel
theorem dX12_weighs_9 : decode cX12_weighs 9 = .ok (.getfield 95, 3) := by decide +kernel
theorem dX12_weighs_12 : decode cX12_weighs 12 = .ok (.iconst 1, 1) := by decide +kernel
theorem dX12_weighs_13 : decode cX12_weighs 13 = .ok (.if_icmp .ne 9, 3) := by decide +kernel
theorem dX12_weighs_16 : decode cX12_weighs 16 = .ok (.iload_n 2, 1) := by decide +kernel
theorem dX12_weighs_17 : decode cX12_weighs 17 = .ok (.iconst 4, 1) := by decide +kernel
theorem dX12_weighs_18 : decode cX12_weighs 18 = .ok (.idiv, 1) := by decide +kernel
theorem dX12_weighs_19 : decode cX12_weighs 19 = .ok (.goto 4, 3) := by decide +kernel
theorem dX12_weighs_22 : decode cX12_weighs 22 = .ok (.iconst 0, 1) := by decide +kernel
theorem dX12_weighs_23 : decode cX12_weighs 23 = .ok (.iadd, 1) := by decide +kernel
theorem dX12_weighs_24 : decode cX12_weighs 24 = .ok (.istore_n 3, 1) := by decide +kernel
theorem dX12_weighs_25 : decode cX12_weighs 25 = .ok (.aload_n 0, 1) := by decide +kernel
theorem dX12_weighs_26 : decode cX12_weighs 26 = .ok (.getfield 31, 3) := by decide +kernel
theorem dX12_weighs_29 : decode cX12_weighs 29 = .ok (.iload_n 1, 1) := by decide +kernel
theorem dX12_weighs_30 : decode cX12_weighs 30 = .ok (.iaload, 1) := by decide +kernel
theorem dX12_weighs_31 : decode cX12_weighs 31 = .ok (.iconst 2, 1) := by decide +kernel
theorem dX12_weighs_32 : decode cX12_weighs 32 = .ok (.if_icmp .ne 7, 3) := by decide +kernel
theorem dX12_weighs_35 : decode cX12_weighs 35 = .ok (.iload_n 3, 1) := by decide +kernel
theorem dX12_weighs_36 : decode cX12_weighs 36 = .ok (.goto 20, 3) := by decide +kernel
theorem dX12_weighs_39 : decode cX12_weighs 39 = .ok (.aload_n 0, 1) := by decide +kernel
theorem dX12_weighs_40 : decode cX12_weighs 40 = .ok (.getfield 31, 3) := by decide +kernel
theorem dX12_weighs_43 : decode cX12_weighs 43 = .ok (.iload_n 1, 1) := by decide +kernel
theorem dX12_weighs_44 : decode cX12_weighs 44 = .ok (.iaload, 1) := by decide +kernel
theorem dX12_weighs_45 : decode cX12_weighs 45 = .ok (.iconst 4, 1) := by decide +kernel
theorem dX12_weighs_46 : decode cX12_weighs 46 = .ok (.if_icmp .ne 9, 3) := by decide +kernel
theorem dX12_weighs_49 : decode cX12_weighs 49 = .ok (.iload_n 3, 1) := by decide +kernel
theorem dX12_weighs_50 : decode cX12_weighs 50 = .ok (.iconst 3, 1) := by decide +kernel
theorem dX12_weighs_51 : decode cX12_weighs 51 = .ok (.iadd, 1) := by decide +kernel
theorem dX12_weighs_52 : decode cX12_weighs 52 = .ok (.goto 4, 3) := by decide +kernel
theorem dX12_weighs_55 : decode cX12_weighs 55 = .ok (.iload_n 2, 1) := by decide +kernel
theorem dX12_weighs_56 : decode cX12_weighs 56 = .ok (.ireturn, 1) := by decide +kernel
theorem dX12_rolls_0 : decode cX12_rolls 0 = .ok (.aload_n 0, 1) := by decide +kernel
theorem dX12_rolls_1 : decode cX12_rolls 1 = .ok (.getfield 31, 3) := by decide +kernel
theorem dX12_rolls_4 : decode cX12_rolls 4 = .ok (.iload_n 1, 1) := by decide +kernel
theorem dX12_rolls_5 : decode cX12_rolls 5 = .ok (.iaload, 1) := by decide +kernel
theorem dX12_rolls_6 : decode cX12_rolls 6 = .ok (.iconst 1, 1) := by decide +kernel
theorem dX12_rolls_7 : decode cX12_rolls 7 = .ok (.if_icmp .ne 10, 3) := by decide +kernel
theorem dX12_rolls_10 : decode cX12_rolls 10 = .ok (.iload_n 2, 1) := by decide +kernel
theorem dX12_rolls_11 : decode cX12_rolls 11 = .ok (.bipush 32, 2) := by decide +kernel
theorem dX12_rolls_13 : decode cX12_rolls 13 = .ok (.idiv, 1) := by decide +kernel
theorem dX12_rolls_14 : decode cX12_rolls 14 = .ok (.goto 23, 3) := by decide +kernel
theorem dX12_rolls_17 : decode cX12_rolls 17 = .ok (.aload_n 0, 1) := by decide +kernel
theorem dX12_rolls_18 : decode cX12_rolls 18 = .ok (.getfield 31, 3) := by decide +kernel
theorem dX12_rolls_21 : decode cX12_rolls 21 = .ok (.iload_n 1, 1) := by decide +kernel
theorem dX12_rolls_22 : decode cX12_rolls 22 = .ok (.iaload, 1) := by decide +kernel
theorem dX12_rolls_23 : decode cX12_rolls 23 = .ok (.iconst 3, 1) := by decide +kernel
theorem dX12_rolls_24 : decode cX12_rolls 24 = .ok (.if_icmp .ne 12, 3) := by decide +kernel
theorem dX12_rolls_27 : decode cX12_rolls 27 = .ok (.iconst 2, 1) := by decide +kernel
theorem dX12_rolls_28 : decode cX12_rolls 28 = .ok (.iload_n 2, 1) := by decide +kernel
theorem dX12_rolls_29 : decode cX12_rolls 29 = .ok (.bipush 32, 2) := by decide +kernel
theorem dX12_rolls_31 : decode cX12_rolls 31 = .ok (.idiv, 1) := by decide +kernel
theorem dX12_rolls_32 : decode cX12_rolls 32 = .ok (.imul, 1) := by decide +kernel
theorem dX12_rolls_33 : decode cX12_rolls 33 = .ok (.goto 4, 3) := by decide +kernel
theorem dX12_rolls_36 : decode cX12_rolls 36 = .ok (.iconst 0, 1) := by decide +kernel
theorem dX12_rolls_37 : decode cX12_rolls 37 = .ok (.ireturn, 1) := by decide +kernel
theorem dX12_isUnder_0 : decode cX12_isUnder 0 = .ok (.iload_n 1, 1) := by decide +kernel
theorem dX12_isUnder_1 : decode cX12_isUnder 1 = .ok (.ifCond .eq 28, 3) := by decide +kernel
theorem dX12_isUnder_4 : decode cX12_isUnder 4 = .ok (.iload_n 0, 1) := by decide +kernel
theorem dX12_isUnder_5 : decode cX12_isUnder 5 = .ok (.iload_n 1, 1) := by decide +kernel
theorem dX12_isUnder_6 : decode cX12_isUnder 6 = .ok (.if_icmp .eq 23, 3) := by decide +kernel
theorem dX12_isUnder_9 : decode cX12_isUnder 9 = .ok (.iload_n 0, 1) := by decide +kernel
theorem dX12_isUnder_10 : decode cX12_isUnder 10 = .ok (.iconst 3, 1) := by decide +kernel
theorem dX12_isUnder_11 : decode cX12_isUnder 11 = .ok (.if_icmp .ne 8, 3) := by decide +kernel
theorem dX12_isUnder_14 : decode cX12_isUnder 14 = .ok (.iload_n 1, 1) := by decide +kernel
theorem dX12_isUnder_15 : decode cX12_isUnder 15 = .ok (.iconst 1, 1) := by decide +kernel
theorem dX12_isUnder_16 : decode cX12_isUnder 16 = .ok (.if_icmp .eq 13, 3) := by decide +kernel
theorem dX12_isUnder_19 : decode cX12_isUnder 19 = .ok (.iload_n 0, 1) := by decide +kernel
theorem dX12_isUnder_20 : decode cX12_isUnder 20 = .ok (.iconst 4, 1) := by decide +kernel
theorem dX12_isUnder_21 : decode cX12_isUnder 21 = .ok (.if_icmp .ne 12, 3) := by decide +kernel
theorem dX12_isUnder_24 : decode cX12_isUnder 24 = .ok (.iload_n 1, 1) := by decide +kernel
theorem dX12_isUnder_25 : decode cX12_isUnder 25 = .ok (.iconst 2, 1) := by decide +kernel
theorem dX12_isUnder_26 : decode cX12_isUnder 26 = .ok (.if_icmp .ne 7, 3) := by decide +kernel
theorem dX12_isUnder_29 : decode cX12_isUnder 29 = .ok (.iconst 1, 1) := by decide +kernel
theorem dX12_isUnder_30 : decode cX12_isUnder 30 = .ok (.goto 4, 3) := by decide +kernel
theorem dX12_isUnder_33 : decode cX12_isUnder 33 = .ok (.iconst 0, 1) := by decide +kernel
theorem dX12_isUnder_34 : decode cX12_isUnder 34 = .ok (.ireturn, 1) := by decide +kernel
set_option maxRecDepth 20000 in
theorem ggX12_goods_X12_isName : GoodIn wsX12_goods wsX12_isName := goodIn_r _ [10, 11] rfl (by decide +kernel)
set_option maxRecDepth 20000 in
theorem gX12_goods_X12_isName : GoodIn wsX12_goods (va_wsS RX12 110 yX12_isName wsX12_isName) := goodIn_app (goodIn_of _ (by decide +kernel)) ggX12_goods_X12_isName
set_option maxRecDepth 20000 in
theorem ggX12_goods_X12_find : GoodIn wsX12_goods wsX12_find := goodIn_r _ [15, 16, 17, 89, 90, 91, 92, 93, 94, 95, 96, 97, 98, 99, 100, 101, 102, 103, 104, 105, 106, 107, 108, 109, 110, 111, 112, 113, 114, 115, 116, 117, 118, 119, 120] rfl (by decide +kernel)
set_option maxRecDepth 20000 in
theorem gX12_goods_X12_find : GoodIn wsX12_goods (wsV RX12 113 RX12 yX12_find wsX12_find) := goodIn_app (goodIn_of _ (by decide +kernel)) ggX12_goods_X12_find
set_option maxRecDepth 20000 in
theorem ggX12_goods_X12_weighs : GoodIn wsX12_goods wsX12_weighs := goodIn_r _ [21, 3, 22, 2, 89, 90, 91, 92, 93, 94, 95, 96, 97, 98, 99, 100, 101, 102, 103, 104, 105, 106, 107, 108, 109, 110, 111, 112, 113, 114, 115, 116, 117, 118, 119, 120] rfl (by decide +kernel)
set_option maxRecDepth 20000 in
theorem gX12_goods_X12_weighs : GoodIn wsX12_goods (wsV RX12 121 RX12 yX12_weighs wsX12_weighs) := goodIn_app (goodIn_of _ (by decide +kernel)) ggX12_goods_X12_weighs
set_option maxRecDepth 20000 in
theorem ggX12_goods_X12_isUpright : GoodIn wsX12_goods wsX12_isUpright := goodIn_r _ [26, 27, 28, 29, 9, 30, 31, 32, 33, 34, 35, 16, 36, 18, 19, 20, 21, 3, 22, 2, 37, 38, 39, 40, 41, 42, 43, 44, 45, 46, 47, 48, 49, 50, 51, 52, 53, 54, 55, 56, 57, 58, 59, 60, 61, 62, 63, 64, 65, 66, 67, 68, 69, 70, 71, 72, 73, 74, 75, 76, 6, 89, 90, 91, 92, 93, 94, 95, 96, 97, 98, 99, 100, 101, 102, 103, 104, 105, 106, 107, 108, 109, 110, 111, 112, 113, 114, 115, 116, 117, 118, 119, 120] rfl (by decide +kernel)
set_option maxRecDepth 20000 in
theorem gX12_goods_X12_isUpright : GoodIn wsX12_goods (wsV RX12 125 RX12 yX12_isUpright wsX12_isUpright) := goodIn_app (goodIn_of _ (by decide +kernel)) ggX12_goods_X12_isUpright
set_option maxRecDepth 20000 in
theorem ggX12_goods_X12_heelNow : GoodIn wsX12_goods wsX12_heelNow := goodIn_r _ [80, 81, 82, 83, 9, 84, 16, 5, 18, 19, 20, 21, 3, 22, 2, 60, 61, 62, 63, 46, 58, 64, 27, 28, 29, 30, 31, 32, 33, 34, 35, 36, 37, 38, 39, 40, 41, 42, 43, 44, 45, 47, 48, 49, 50, 51, 52, 53, 54, 55, 56, 57, 59, 65, 66, 67, 68, 69, 70, 71, 72, 73, 74, 75, 76, 6, 89, 90, 91, 92, 93, 94, 95, 96, 97, 98, 99, 100, 101, 102, 103, 104, 105, 106, 107, 108, 109, 110, 111, 112, 113, 114, 115, 116, 117, 118, 119, 120] rfl (by decide +kernel)
set_option maxRecDepth 20000 in
theorem gX12_goods_X12_heelNow : GoodIn wsX12_goods (wsV RX12 129 RX12 yX12_heelNow wsX12_heelNow) := goodIn_app (goodIn_of _ (by decide +kernel)) ggX12_goods_X12_heelNow
set_option maxRecDepth 20000 in
theorem ggX12_goods_X12_rolls : GoodIn wsX12_goods wsX12_rolls := goodIn_r _ [88, 2, 89, 90, 91, 92, 93, 94, 95, 96, 97, 98, 99, 100, 101, 102, 103, 104, 105, 106, 107, 108, 109, 110, 111, 112, 113, 114, 115, 116, 117, 118, 119, 120] rfl (by decide +kernel)
set_option maxRecDepth 20000 in
theorem gX12_goods_X12_rolls : GoodIn wsX12_goods (wsV RX12 133 RX12 yX12_rolls wsX12_rolls) := goodIn_app (goodIn_of _ (by decide +kernel)) ggX12_goods_X12_rolls
theorem dX12_goods_0 : decode cX12_goods 0 = .ok (.iload_n 1, 1) := by decide +kernel
theorem dX12_goods_1 : decode cX12_goods 1 = .ok (.invokestatic 110, 3) := by decide +kernel
theorem dX12_goods_4 : decode cX12_goods 4 = .ok (.ifCond .eq 11, 3) := by decide +kernel
theorem dX12_goods_7 : decode cX12_goods 7 = .ok (.aload_n 0, 1) := by decide +kernel
theorem dX12_goods_8 : decode cX12_goods 8 = .ok (.iload_n 1, 1) := by decide +kernel
theorem dX12_goods_9 : decode cX12_goods 9 = .ok (.invokevirtual 113, 3) := by decide +kernel
theorem dX12_goods_12 : decode cX12_goods 12 = .ok (.goto 4, 3) := by decide +kernel
theorem dX12_goods_15 : decode cX12_goods 15 = .ok (.iconst (-1), 1) := by decide +kernel
theorem dX12_goods_16 : decode cX12_goods 16 = .ok (.istore_n 3, 1) := by decide +kernel
theorem dX12_goods_17 : decode cX12_goods 17 = .ok (.iload_n 3, 1) := by decide +kernel
theorem dX12_goods_18 : decode cX12_goods 18 = .ok (.ifCond .ge 6, 3) := by decide +kernel
theorem dX12_goods_21 : decode cX12_goods 21 = .ok (.ldc 124, 2) := by decide +kernel
theorem dX12_goods_23 : decode cX12_goods 23 = .ok (.ireturn, 1) := by decide +kernel
theorem dX12_goods_24 : decode cX12_goods 24 = .ok (.iload_n 2, 1) := by decide +kernel
theorem dX12_goods_25 : decode cX12_goods 25 = .ok (.tableswitch 105 0 6 #[43, 50, 57, 64, 71, 78, 84], 43) := by decide +kernel
theorem dX12_goods_68 : decode cX12_goods 68 = .ok (.aload_n 0, 1) := by decide +kernel
theorem dX12_goods_69 : decode cX12_goods 69 = .ok (.getfield 31, 3) := by decide +kernel
theorem dX12_goods_72 : decode cX12_goods 72 = .ok (.iload_n 3, 1) := by decide +kernel
theorem dX12_goods_73 : decode cX12_goods 73 = .ok (.iaload, 1) := by decide +kernel
theorem dX12_goods_74 : decode cX12_goods 74 = .ok (.ireturn, 1) := by decide +kernel
theorem dX12_goods_75 : decode cX12_goods 75 = .ok (.aload_n 0, 1) := by decide +kernel
theorem dX12_goods_76 : decode cX12_goods 76 = .ok (.getfield 34, 3) := by decide +kernel
theorem dX12_goods_79 : decode cX12_goods 79 = .ok (.iload_n 3, 1) := by decide +kernel
theorem dX12_goods_80 : decode cX12_goods 80 = .ok (.iaload, 1) := by decide +kernel
theorem dX12_goods_81 : decode cX12_goods 81 = .ok (.ireturn, 1) := by decide +kernel
theorem dX12_goods_82 : decode cX12_goods 82 = .ok (.aload_n 0, 1) := by decide +kernel
theorem dX12_goods_83 : decode cX12_goods 83 = .ok (.getfield 37, 3) := by decide +kernel
theorem dX12_goods_86 : decode cX12_goods 86 = .ok (.iload_n 3, 1) := by decide +kernel
theorem dX12_goods_87 : decode cX12_goods 87 = .ok (.iaload, 1) := by decide +kernel
theorem dX12_goods_88 : decode cX12_goods 88 = .ok (.ireturn, 1) := by decide +kernel
theorem dX12_goods_89 : decode cX12_goods 89 = .ok (.aload_n 0, 1) := by decide +kernel
theorem dX12_goods_90 : decode cX12_goods 90 = .ok (.getfield 40, 3) := by decide +kernel
theorem dX12_goods_93 : decode cX12_goods 93 = .ok (.iload_n 3, 1) := by decide +kernel
theorem dX12_goods_94 : decode cX12_goods 94 = .ok (.iaload, 1) := by decide +kernel
theorem dX12_goods_95 : decode cX12_goods 95 = .ok (.ireturn, 1) := by decide +kernel
theorem dX12_goods_96 : decode cX12_goods 96 = .ok (.aload_n 0, 1) := by decide +kernel
theorem dX12_goods_97 : decode cX12_goods 97 = .ok (.getfield 43, 3) := by decide +kernel
theorem dX12_goods_100 : decode cX12_goods 100 = .ok (.iload_n 3, 1) := by decide +kernel
theorem dX12_goods_101 : decode cX12_goods 101 = .ok (.iaload, 1) := by decide +kernel
theorem dX12_goods_102 : decode cX12_goods 102 = .ok (.ireturn, 1) := by decide +kernel
theorem dX12_goods_103 : decode cX12_goods 103 = .ok (.aload_n 0, 1) := by decide +kernel
theorem dX12_goods_104 : decode cX12_goods 104 = .ok (.iload_n 3, 1) := by decide +kernel
theorem dX12_goods_105 : decode cX12_goods 105 = .ok (.invokevirtual 121, 3) := by decide +kernel
theorem dX12_goods_108 : decode cX12_goods 108 = .ok (.ireturn, 1) := by decide +kernel
theorem dX12_goods_109 : decode cX12_goods 109 = .ok (.aload_n 0, 1) := by decide +kernel
theorem dX12_goods_110 : decode cX12_goods 110 = .ok (.invokevirtual 125, 3) := by decide +kernel
theorem dX12_goods_113 : decode cX12_goods 113 = .ok (.ifCond .eq 15, 3) := by decide +kernel
theorem dX12_goods_116 : decode cX12_goods 116 = .ok (.aload_n 0, 1) := by decide +kernel
theorem dX12_goods_117 : decode cX12_goods 117 = .ok (.iload_n 3, 1) := by decide +kernel
theorem dX12_goods_118 : decode cX12_goods 118 = .ok (.aload_n 0, 1) := by decide +kernel
theorem dX12_goods_119 : decode cX12_goods 119 = .ok (.invokevirtual 129, 3) := by decide +kernel
theorem dX12_goods_122 : decode cX12_goods 122 = .ok (.invokevirtual 133, 3) := by decide +kernel
theorem dX12_goods_125 : decode cX12_goods 125 = .ok (.goto 4, 3) := by decide +kernel
theorem dX12_goods_128 : decode cX12_goods 128 = .ok (.iconst 0, 1) := by decide +kernel
theorem dX12_goods_129 : decode cX12_goods 129 = .ok (.ireturn, 1) := by decide +kernel
theorem dX12_goods_130 : decode cX12_goods 130 = .ok (.ldc 124, 2) := by decide +kernel
theorem dX12_goods_132 : decode cX12_goods 132 = .ok (.ireturn, 1) := by decide +kernel
set_option maxRecDepth 20000 in
theorem ggX12_taken_X12_isName : GoodIn wsX12_taken wsX12_isName := goodIn_r _ [6, 7] rfl (by decide +kernel)
set_option maxRecDepth 20000 in
theorem gX12_taken_X12_isName : GoodIn wsX12_taken (va_wsS RX12 110 yX12_isName wsX12_isName) := goodIn_app (goodIn_of _ (by decide +kernel)) ggX12_taken_X12_isName
set_option maxRecDepth 20000 in
theorem ggX12_taken_X12_in : GoodIn wsX12_taken wsX12_in := goodIn_r _ [10] rfl (by decide +kernel)
set_option maxRecDepth 20000 in
theorem gX12_taken_X12_in : GoodIn wsX12_taken (va_wsS RX12 101 yX12_in wsX12_in) := goodIn_app (goodIn_of _ (by decide +kernel)) ggX12_taken_X12_in
set_option maxRecDepth 20000 in
theorem ggX12_taken_X12_find : GoodIn wsX12_taken wsX12_find := goodIn_r _ [14, 15, 16, 20, 21, 22, 23, 24, 25, 26, 27, 28, 29, 30, 31, 32, 33, 34, 35, 36, 37, 38, 39, 40, 41, 42, 43, 44, 45, 46, 47, 48, 49, 50, 51] rfl (by decide +kernel)
set_option maxRecDepth 20000 in
theorem gX12_taken_X12_find : GoodIn wsX12_taken (wsV RX12 113 RX12 yX12_find wsX12_find) := goodIn_app (goodIn_of _ (by decide +kernel)) ggX12_taken_X12_find
set_option maxRecDepth 20000 in
theorem ggX12_taken_X12_isUnder : GoodIn wsX12_taken wsX12_isUnder := goodIn_r _ [19] rfl (by decide +kernel)
set_option maxRecDepth 20000 in
theorem gX12_taken_X12_isUnder : GoodIn wsX12_taken (va_wsS RX12 137 yX12_isUnder wsX12_isUnder) := goodIn_app (goodIn_of _ (by decide +kernel)) ggX12_taken_X12_isUnder
theorem dX12_taken_0 : decode cX12_taken 0 = .ok (.iload_n 1, 1) := by decide +kernel
theorem dX12_taken_1 : decode cX12_taken 1 = .ok (.invokestatic 110, 3) := by decide +kernel
theorem dX12_taken_4 : decode cX12_taken 4 = .ok (.ifCond .eq 12, 3) := by decide +kernel
theorem dX12_taken_7 : decode cX12_taken 7 = .ok (.iload_n 2, 1) := by decide +kernel
theorem dX12_taken_8 : decode cX12_taken 8 = .ok (.iconst 0, 1) := by decide +kernel
theorem dX12_taken_9 : decode cX12_taken 9 = .ok (.iconst 4, 1) := by decide +kernel
theorem dX12_taken_10 : decode cX12_taken 10 = .ok (.invokestatic 101, 3) := by decide +kernel
theorem dX12_taken_13 : decode cX12_taken 13 = .ok (.ifCond .ne 5, 3) := by decide +kernel
theorem dX12_taken_16 : decode cX12_taken 16 = .ok (.iconst (-1), 1) := by decide +kernel
theorem dX12_taken_17 : decode cX12_taken 17 = .ok (.ireturn, 1) := by decide +kernel
theorem dX12_taken_18 : decode cX12_taken 18 = .ok (.aload_n 0, 1) := by decide +kernel
theorem dX12_taken_19 : decode cX12_taken 19 = .ok (.iload_n 1, 1) := by decide +kernel
theorem dX12_taken_20 : decode cX12_taken 20 = .ok (.invokevirtual 113, 3) := by decide +kernel
theorem dX12_taken_23 : decode cX12_taken 23 = .ok (.istore_n 3, 1) := by decide +kernel
theorem dX12_taken_24 : decode cX12_taken 24 = .ok (.iload_n 3, 1) := by decide +kernel
theorem dX12_taken_25 : decode cX12_taken 25 = .ok (.ifCond .ge 6, 3) := by decide +kernel
theorem dX12_taken_28 : decode cX12_taken 28 = .ok (.bipush (-2), 2) := by decide +kernel
theorem dX12_taken_30 : decode cX12_taken 30 = .ok (.ireturn, 1) := by decide +kernel
theorem dX12_taken_31 : decode cX12_taken 31 = .ok (.aload_n 0, 1) := by decide +kernel
theorem dX12_taken_32 : decode cX12_taken 32 = .ok (.getfield 31, 3) := by decide +kernel
theorem dX12_taken_35 : decode cX12_taken 35 = .ok (.iload_n 3, 1) := by decide +kernel
theorem dX12_taken_36 : decode cX12_taken 36 = .ok (.iaload, 1) := by decide +kernel
theorem dX12_taken_37 : decode cX12_taken 37 = .ok (.iload_n 2, 1) := by decide +kernel
theorem dX12_taken_38 : decode cX12_taken 38 = .ok (.invokestatic 137, 3) := by decide +kernel
theorem dX12_taken_41 : decode cX12_taken 41 = .ok (.ifCond .eq 12, 3) := by decide +kernel
theorem dX12_taken_44 : decode cX12_taken 44 = .ok (.aload_n 0, 1) := by decide +kernel
theorem dX12_taken_45 : decode cX12_taken 45 = .ok (.getfield 34, 3) := by decide +kernel
theorem dX12_taken_48 : decode cX12_taken 48 = .ok (.iload_n 3, 1) := by decide +kernel
theorem dX12_taken_49 : decode cX12_taken 49 = .ok (.iaload, 1) := by decide +kernel
theorem dX12_taken_50 : decode cX12_taken 50 = .ok (.goto 5, 3) := by decide +kernel
theorem dX12_taken_53 : decode cX12_taken 53 = .ok (.bipush (-5), 2) := by decide +kernel
theorem dX12_taken_55 : decode cX12_taken 55 = .ok (.ireturn, 1) := by decide +kernel
set_option maxRecDepth 20000 in
theorem ggX12_tank_X12_isTank : GoodIn wsX12_tank wsX12_isTank := goodIn_r _ [8, 9, 10, 7, 11] rfl (by decide +kernel)
set_option maxRecDepth 20000 in
theorem gX12_tank_X12_isTank : GoodIn wsX12_tank (va_wsS RX12 141 yX12_isTank wsX12_isTank) := goodIn_app (goodIn_of _ (by decide +kernel)) ggX12_tank_X12_isTank
set_option maxRecDepth 20000 in
theorem ggX12_tank_X12_isSection : GoodIn wsX12_tank wsX12_isSection := goodIn_r _ [15, 16, 9, 10, 7, 11, 17, 18, 19, 20, 21, 22, 23, 24, 25, 26, 27, 28, 29, 30, 31, 32, 33, 34, 35, 36, 37, 38, 39, 40, 41, 42, 43, 44, 45, 46, 47, 48] rfl (by decide +kernel)
set_option maxRecDepth 20000 in
theorem gX12_tank_X12_isSection : GoodIn wsX12_tank (wsV RX12 105 RX12 yX12_isSection wsX12_isSection) := goodIn_app (goodIn_of _ (by decide +kernel)) ggX12_tank_X12_isSection
set_option maxRecDepth 20000 in
theorem ggX12_tank_X12_in : GoodIn wsX12_tank wsX12_in := goodIn_r _ [11] rfl (by decide +kernel)
set_option maxRecDepth 20000 in
theorem gX12_tank_X12_in : GoodIn wsX12_tank (va_wsS RX12 101 yX12_in wsX12_in) := goodIn_app (goodIn_of _ (by decide +kernel)) ggX12_tank_X12_in
theorem dX12_tank_0 : decode cX12_tank 0 = .ok (.iload_n 1, 1) := by decide +kernel
theorem dX12_tank_1 : decode cX12_tank 1 = .ok (.invokestatic 141, 3) := by decide +kernel
theorem dX12_tank_4 : decode cX12_tank 4 = .ok (.ifCond .eq 33, 3) := by decide +kernel
theorem dX12_tank_7 : decode cX12_tank 7 = .ok (.aload_n 0, 1) := by decide +kernel
theorem dX12_tank_8 : decode cX12_tank 8 = .ok (.iload_n 2, 1) := by decide +kernel
theorem dX12_tank_9 : decode cX12_tank 9 = .ok (.invokevirtual 105, 3) := by decide +kernel
theorem dX12_tank_12 : decode cX12_tank 12 = .ok (.ifCond .eq 25, 3) := by decide +kernel
theorem dX12_tank_15 : decode cX12_tank 15 = .ok (.iload_n 3, 1) := by decide +kernel
theorem dX12_tank_16 : decode cX12_tank 16 = .ok (.iconst 0, 1) := by decide +kernel
theorem dX12_tank_17 : decode cX12_tank 17 = .ok (.bipush 20, 2) := by decide +kernel
theorem dX12_tank_19 : decode cX12_tank 19 = .ok (.invokestatic 101, 3) := by decide +kernel
theorem dX12_tank_22 : decode cX12_tank 22 = .ok (.ifCond .eq 15, 3) := by decide +kernel
theorem dX12_tank_25 : decode cX12_tank 25 = .ok (.iload 4, 2) := by decide +kernel
theorem dX12_tank_27 : decode cX12_tank 27 = .ok (.iconst 0, 1) := by decide +kernel
theorem dX12_tank_28 : decode cX12_tank 28 = .ok (.sipush 999, 3) := by decide +kernel
theorem dX12_tank_31 : decode cX12_tank 31 = .ok (.invokestatic 101, 3) := by decide +kernel
theorem dX12_tank_34 : decode cX12_tank 34 = .ok (.ifCond .ne 5, 3) := by decide +kernel
theorem dX12_tank_37 : decode cX12_tank 37 = .ok (.iconst (-1), 1) := by decide +kernel
theorem dX12_tank_38 : decode cX12_tank 38 = .ok (.ireturn, 1) := by decide +kernel
theorem dX12_tank_39 : decode cX12_tank 39 = .ok (.aload_n 0, 1) := by decide +kernel
theorem dX12_tank_40 : decode cX12_tank 40 = .ok (.getfield 46, 3) := by decide +kernel
theorem dX12_tank_43 : decode cX12_tank 43 = .ok (.iload_n 1, 1) := by decide +kernel
theorem dX12_tank_44 : decode cX12_tank 44 = .ok (.iload_n 2, 1) := by decide +kernel
theorem dX12_tank_45 : decode cX12_tank 45 = .ok (.iastore, 1) := by decide +kernel
theorem dX12_tank_46 : decode cX12_tank 46 = .ok (.aload_n 0, 1) := by decide +kernel
theorem dX12_tank_47 : decode cX12_tank 47 = .ok (.getfield 49, 3) := by decide +kernel
theorem dX12_tank_50 : decode cX12_tank 50 = .ok (.iload_n 1, 1) := by decide +kernel
theorem dX12_tank_51 : decode cX12_tank 51 = .ok (.iload_n 3, 1) := by decide +kernel
theorem dX12_tank_52 : decode cX12_tank 52 = .ok (.iastore, 1) := by decide +kernel
theorem dX12_tank_53 : decode cX12_tank 53 = .ok (.aload_n 0, 1) := by decide +kernel
theorem dX12_tank_54 : decode cX12_tank 54 = .ok (.getfield 52, 3) := by decide +kernel
theorem dX12_tank_57 : decode cX12_tank 57 = .ok (.iload_n 1, 1) := by decide +kernel
theorem dX12_tank_58 : decode cX12_tank 58 = .ok (.iload 4, 2) := by decide +kernel
theorem dX12_tank_60 : decode cX12_tank 60 = .ok (.iastore, 1) := by decide +kernel
theorem dX12_tank_61 : decode cX12_tank 61 = .ok (.aload_n 0, 1) := by decide +kernel
theorem dX12_tank_62 : decode cX12_tank 62 = .ok (.getfield 55, 3) := by decide +kernel
theorem dX12_tank_65 : decode cX12_tank 65 = .ok (.iload_n 1, 1) := by decide +kernel
theorem dX12_tank_66 : decode cX12_tank 66 = .ok (.iconst 0, 1) := by decide +kernel
theorem dX12_tank_67 : decode cX12_tank 67 = .ok (.iastore, 1) := by decide +kernel
theorem dX12_tank_68 : decode cX12_tank 68 = .ok (.iconst 1, 1) := by decide +kernel
theorem dX12_tank_69 : decode cX12_tank 69 = .ok (.ireturn, 1) := by decide +kernel
set_option maxRecDepth 20000 in
theorem ggX12_fill_X12_isTank : GoodIn wsX12_fill wsX12_isTank := goodIn_r _ [7, 8, 9, 6, 10] rfl (by decide +kernel)
set_option maxRecDepth 20000 in
theorem gX12_fill_X12_isTank : GoodIn wsX12_fill (va_wsS RX12 141 yX12_isTank wsX12_isTank) := goodIn_app (goodIn_of _ (by decide +kernel)) ggX12_fill_X12_isTank
theorem dX12_fill_0 : decode cX12_fill 0 = .ok (.iload_n 1, 1) := by decide +kernel
theorem dX12_fill_1 : decode cX12_fill 1 = .ok (.invokestatic 141, 3) := by decide +kernel
theorem dX12_fill_4 : decode cX12_fill 4 = .ok (.ifCond .eq 7, 3) := by decide +kernel
theorem dX12_fill_7 : decode cX12_fill 7 = .ok (.iload_n 2, 1) := by decide +kernel
theorem dX12_fill_8 : decode cX12_fill 8 = .ok (.ifCond .ge 5, 3) := by decide +kernel
theorem dX12_fill_11 : decode cX12_fill 11 = .ok (.iconst (-1), 1) := by decide +kernel
theorem dX12_fill_12 : decode cX12_fill 12 = .ok (.ireturn, 1) := by decide +kernel
theorem dX12_fill_13 : decode cX12_fill 13 = .ok (.aload_n 0, 1) := by decide +kernel
theorem dX12_fill_14 : decode cX12_fill 14 = .ok (.getfield 49, 3) := by decide +kernel
theorem dX12_fill_17 : decode cX12_fill 17 = .ok (.iload_n 1, 1) := by decide +kernel
theorem dX12_fill_18 : decode cX12_fill 18 = .ok (.iaload, 1) := by decide +kernel
theorem dX12_fill_19 : decode cX12_fill 19 = .ok (.ifCond .eq 13, 3) := by decide +kernel
theorem dX12_fill_22 : decode cX12_fill 22 = .ok (.iload_n 2, 1) := by decide +kernel
theorem dX12_fill_23 : decode cX12_fill 23 = .ok (.aload_n 0, 1) := by decide +kernel
theorem dX12_fill_24 : decode cX12_fill 24 = .ok (.getfield 52, 3) := by decide +kernel
theorem dX12_fill_27 : decode cX12_fill 27 = .ok (.iload_n 1, 1) := by decide +kernel
theorem dX12_fill_28 : decode cX12_fill 28 = .ok (.iaload, 1) := by decide +kernel
theorem dX12_fill_29 : decode cX12_fill 29 = .ok (.if_icmp .le 6, 3) := by decide +kernel
theorem dX12_fill_32 : decode cX12_fill 32 = .ok (.bipush (-5), 2) := by decide +kernel
theorem dX12_fill_34 : decode cX12_fill 34 = .ok (.ireturn, 1) := by decide +kernel
theorem dX12_fill_35 : decode cX12_fill 35 = .ok (.aload_n 0, 1) := by decide +kernel
theorem dX12_fill_36 : decode cX12_fill 36 = .ok (.getfield 55, 3) := by decide +kernel
theorem dX12_fill_39 : decode cX12_fill 39 = .ok (.iload_n 1, 1) := by decide +kernel
theorem dX12_fill_40 : decode cX12_fill 40 = .ok (.iaload, 1) := by decide +kernel
theorem dX12_fill_41 : decode cX12_fill 41 = .ok (.istore_n 3, 1) := by decide +kernel
theorem dX12_fill_42 : decode cX12_fill 42 = .ok (.aload_n 0, 1) := by decide +kernel
theorem dX12_fill_43 : decode cX12_fill 43 = .ok (.getfield 55, 3) := by decide +kernel
theorem dX12_fill_46 : decode cX12_fill 46 = .ok (.iload_n 1, 1) := by decide +kernel
theorem dX12_fill_47 : decode cX12_fill 47 = .ok (.iload_n 2, 1) := by decide +kernel
theorem dX12_fill_48 : decode cX12_fill 48 = .ok (.iastore, 1) := by decide +kernel
theorem dX12_fill_49 : decode cX12_fill 49 = .ok (.iload_n 3, 1) := by decide +kernel
theorem dX12_fill_50 : decode cX12_fill 50 = .ok (.ireturn, 1) := by decide +kernel
theorem dX12_isSlack_0 : decode cX12_isSlack 0 = .ok (.aload_n 0, 1) := by decide +kernel
theorem dX12_isSlack_1 : decode cX12_isSlack 1 = .ok (.getfield 49, 3) := by decide +kernel
theorem dX12_isSlack_4 : decode cX12_isSlack 4 = .ok (.iload_n 1, 1) := by decide +kernel
theorem dX12_isSlack_5 : decode cX12_isSlack 5 = .ok (.iaload, 1) := by decide +kernel
theorem dX12_isSlack_6 : decode cX12_isSlack 6 = .ok (.ifCond .le 31, 3) := by decide +kernel
theorem dX12_isSlack_9 : decode cX12_isSlack 9 = .ok (.aload_n 0, 1) := by decide +kernel
theorem dX12_isSlack_10 : decode cX12_isSlack 10 = .ok (.getfield 55, 3) := by decide +kernel
theorem dX12_isSlack_13 : decode cX12_isSlack 13 = .ok (.iload_n 1, 1) := by decide +kernel
theorem dX12_isSlack_14 : decode cX12_isSlack 14 = .ok (.iaload, 1) := by decide +kernel
theorem dX12_isSlack_15 : decode cX12_isSlack 15 = .ok (.ifCond .eq 22, 3) := by decide +kernel
theorem dX12_isSlack_18 : decode cX12_isSlack 18 = .ok (.aload_n 0, 1) := by decide +kernel
theorem dX12_isSlack_19 : decode cX12_isSlack 19 = .ok (.getfield 55, 3) := by decide +kernel
theorem dX12_isSlack_22 : decode cX12_isSlack 22 = .ok (.iload_n 1, 1) := by decide +kernel
theorem dX12_isSlack_23 : decode cX12_isSlack 23 = .ok (.iaload, 1) := by decide +kernel
theorem dX12_isSlack_24 : decode cX12_isSlack 24 = .ok (.aload_n 0, 1) := by decide +kernel
theorem dX12_isSlack_25 : decode cX12_isSlack 25 = .ok (.getfield 52, 3) := by decide +kernel
theorem dX12_isSlack_28 : decode cX12_isSlack 28 = .ok (.iload_n 1, 1) := by decide +kernel
theorem dX12_isSlack_29 : decode cX12_isSlack 29 = .ok (.iaload, 1) := by decide +kernel
theorem dX12_isSlack_30 : decode cX12_isSlack 30 = .ok (.if_icmp .eq 7, 3) := by decide +kernel
theorem dX12_isSlack_33 : decode cX12_isSlack 33 = .ok (.iconst 1, 1) := by decide +kernel
theorem dX12_isSlack_34 : decode cX12_isSlack 34 = .ok (.goto 4, 3) := by decide +kernel
theorem dX12_isSlack_37 : decode cX12_isSlack 37 = .ok (.iconst 0, 1) := by decide +kernel
theorem dX12_isSlack_38 : decode cX12_isSlack 38 = .ok (.ireturn, 1) := by decide +kernel
set_option maxRecDepth 20000 in
theorem ggX12_slacks_X12_isSlack : GoodIn wsX12_slacks wsX12_isSlack := goodIn_r _ [5, 6, 7, 8, 9, 10, 11, 12, 13, 14, 15, 16, 17, 18, 19, 20, 21, 22, 23, 24, 25, 26, 27, 28, 29, 30, 31, 32, 33, 34, 35, 36, 37, 38, 39, 40] rfl (by decide +kernel)
set_option maxRecDepth 20000 in
theorem gX12_slacks_X12_isSlack : GoodIn wsX12_slacks (wsV RX12 144 RX12 yX12_isSlack wsX12_isSlack) := goodIn_app (goodIn_of _ (by decide +kernel)) ggX12_slacks_X12_isSlack
theorem dX12_slacks_0 : decode cX12_slacks 0 = .ok (.iconst 0, 1) := by decide +kernel
theorem dX12_slacks_1 : decode cX12_slacks 1 = .ok (.istore_n 1, 1) := by decide +kernel
theorem dX12_slacks_2 : decode cX12_slacks 2 = .ok (.iconst 0, 1) := by decide +kernel
theorem dX12_slacks_3 : decode cX12_slacks 3 = .ok (.istore_n 2, 1) := by decide +kernel
theorem dX12_slacks_4 : decode cX12_slacks 4 = .ok (.iload_n 2, 1) := by decide +kernel
theorem dX12_slacks_5 : decode cX12_slacks 5 = .ok (.iconst 4, 1) := by decide +kernel
theorem dX12_slacks_6 : decode cX12_slacks 6 = .ok (.if_icmp .ge 20, 3) := by decide +kernel
theorem dX12_slacks_9 : decode cX12_slacks 9 = .ok (.aload_n 0, 1) := by decide +kernel
theorem dX12_slacks_10 : decode cX12_slacks 10 = .ok (.iload_n 2, 1) := by decide +kernel
theorem dX12_slacks_11 : decode cX12_slacks 11 = .ok (.invokevirtual 144, 3) := by decide +kernel
theorem dX12_slacks_14 : decode cX12_slacks 14 = .ok (.ifCond .eq 6, 3) := by decide +kernel
theorem dX12_slacks_17 : decode cX12_slacks 17 = .ok (.iinc 1 1, 3) := by decide +kernel
theorem dX12_slacks_20 : decode cX12_slacks 20 = .ok (.iinc 2 1, 3) := by decide +kernel
theorem dX12_slacks_23 : decode cX12_slacks 23 = .ok (.goto (-19), 3) := by decide +kernel
theorem dX12_slacks_26 : decode cX12_slacks 26 = .ok (.iload_n 1, 1) := by decide +kernel
theorem dX12_slacks_27 : decode cX12_slacks 27 = .ok (.ireturn, 1) := by decide +kernel
theorem dX12_tanksThere_0 : decode cX12_tanksThere 0 = .ok (.iconst 0, 1) := by decide +kernel
theorem dX12_tanksThere_1 : decode cX12_tanksThere 1 = .ok (.istore_n 1, 1) := by decide +kernel
theorem dX12_tanksThere_2 : decode cX12_tanksThere 2 = .ok (.iconst 0, 1) := by decide +kernel
theorem dX12_tanksThere_3 : decode cX12_tanksThere 3 = .ok (.istore_n 2, 1) := by decide +kernel
theorem dX12_tanksThere_4 : decode cX12_tanksThere 4 = .ok (.iload_n 2, 1) := by decide +kernel
theorem dX12_tanksThere_5 : decode cX12_tanksThere 5 = .ok (.iconst 4, 1) := by decide +kernel
theorem dX12_tanksThere_6 : decode cX12_tanksThere 6 = .ok (.if_icmp .ge 21, 3) := by decide +kernel
theorem dX12_tanksThere_9 : decode cX12_tanksThere 9 = .ok (.aload_n 0, 1) := by decide +kernel
theorem dX12_tanksThere_10 : decode cX12_tanksThere 10 = .ok (.getfield 49, 3) := by decide +kernel
theorem dX12_tanksThere_13 : decode cX12_tanksThere 13 = .ok (.iload_n 2, 1) := by decide +kernel
theorem dX12_tanksThere_14 : decode cX12_tanksThere 14 = .ok (.iaload, 1) := by decide +kernel
theorem dX12_tanksThere_15 : decode cX12_tanksThere 15 = .ok (.ifCond .le 6, 3) := by decide +kernel
theorem dX12_tanksThere_18 : decode cX12_tanksThere 18 = .ok (.iinc 1 1, 3) := by decide +kernel
theorem dX12_tanksThere_21 : decode cX12_tanksThere 21 = .ok (.iinc 2 1, 3) := by decide +kernel
theorem dX12_tanksThere_24 : decode cX12_tanksThere 24 = .ok (.goto (-20), 3) := by decide +kernel
theorem dX12_tanksThere_27 : decode cX12_tanksThere 27 = .ok (.iload_n 1, 1) := by decide +kernel
theorem dX12_tanksThere_28 : decode cX12_tanksThere 28 = .ok (.ireturn, 1) := by decide +kernel
set_option maxRecDepth 20000 in
theorem ggX12_allWeight_X12_weighs : GoodIn wsX12_allWeight wsX12_weighs := goodIn_r _ [8, 9, 10, 11, 12, 13, 14, 15, 16, 17, 18, 19, 20, 21, 22, 23, 24, 25, 26, 27, 28, 29, 30, 31, 32, 33, 34, 35, 36, 37, 38, 39, 40, 41, 42, 43] rfl (by decide +kernel)
set_option maxRecDepth 20000 in
theorem gX12_allWeight_X12_weighs : GoodIn wsX12_allWeight (wsV RX12 121 RX12 yX12_weighs wsX12_weighs) := goodIn_app (goodIn_of _ (by decide +kernel)) ggX12_allWeight_X12_weighs
theorem dX12_allWeight_0 : decode cX12_allWeight 0 = .ok (.aload_n 0, 1) := by decide +kernel
theorem dX12_allWeight_1 : decode cX12_allWeight 1 = .ok (.getfield 18, 3) := by decide +kernel
theorem dX12_allWeight_4 : decode cX12_allWeight 4 = .ok (.istore_n 1, 1) := by decide +kernel
theorem dX12_allWeight_5 : decode cX12_allWeight 5 = .ok (.iconst 0, 1) := by decide +kernel
theorem dX12_allWeight_6 : decode cX12_allWeight 6 = .ok (.istore_n 2, 1) := by decide +kernel
theorem dX12_allWeight_7 : decode cX12_allWeight 7 = .ok (.iload_n 2, 1) := by decide +kernel
theorem dX12_allWeight_8 : decode cX12_allWeight 8 = .ok (.aload_n 0, 1) := by decide +kernel
theorem dX12_allWeight_9 : decode cX12_allWeight 9 = .ok (.getfield 98, 3) := by decide +kernel
theorem dX12_allWeight_12 : decode cX12_allWeight 12 = .ok (.if_icmp .ge 17, 3) := by decide +kernel
theorem dX12_allWeight_15 : decode cX12_allWeight 15 = .ok (.iload_n 1, 1) := by decide +kernel
theorem dX12_allWeight_16 : decode cX12_allWeight 16 = .ok (.aload_n 0, 1) := by decide +kernel
theorem dX12_allWeight_17 : decode cX12_allWeight 17 = .ok (.iload_n 2, 1) := by decide +kernel
theorem dX12_allWeight_18 : decode cX12_allWeight 18 = .ok (.invokevirtual 121, 3) := by decide +kernel
theorem dX12_allWeight_21 : decode cX12_allWeight 21 = .ok (.iadd, 1) := by decide +kernel
theorem dX12_allWeight_22 : decode cX12_allWeight 22 = .ok (.istore_n 1, 1) := by decide +kernel
theorem dX12_allWeight_23 : decode cX12_allWeight 23 = .ok (.iinc 2 1, 3) := by decide +kernel
theorem dX12_allWeight_26 : decode cX12_allWeight 26 = .ok (.goto (-19), 3) := by decide +kernel
theorem dX12_allWeight_29 : decode cX12_allWeight 29 = .ok (.iconst 0, 1) := by decide +kernel
theorem dX12_allWeight_30 : decode cX12_allWeight 30 = .ok (.istore_n 2, 1) := by decide +kernel
theorem dX12_allWeight_31 : decode cX12_allWeight 31 = .ok (.iload_n 2, 1) := by decide +kernel
theorem dX12_allWeight_32 : decode cX12_allWeight 32 = .ok (.iconst 4, 1) := by decide +kernel
theorem dX12_allWeight_33 : decode cX12_allWeight 33 = .ok (.if_icmp .ge 18, 3) := by decide +kernel
theorem dX12_allWeight_36 : decode cX12_allWeight 36 = .ok (.iload_n 1, 1) := by decide +kernel
theorem dX12_allWeight_37 : decode cX12_allWeight 37 = .ok (.aload_n 0, 1) := by decide +kernel
theorem dX12_allWeight_38 : decode cX12_allWeight 38 = .ok (.getfield 55, 3) := by decide +kernel
theorem dX12_allWeight_41 : decode cX12_allWeight 41 = .ok (.iload_n 2, 1) := by decide +kernel
theorem dX12_allWeight_42 : decode cX12_allWeight 42 = .ok (.iaload, 1) := by decide +kernel
theorem dX12_allWeight_43 : decode cX12_allWeight 43 = .ok (.iadd, 1) := by decide +kernel
theorem dX12_allWeight_44 : decode cX12_allWeight 44 = .ok (.istore_n 1, 1) := by decide +kernel
theorem dX12_allWeight_45 : decode cX12_allWeight 45 = .ok (.iinc 2 1, 3) := by decide +kernel
theorem dX12_allWeight_48 : decode cX12_allWeight 48 = .ok (.goto (-17), 3) := by decide +kernel
theorem dX12_allWeight_51 : decode cX12_allWeight 51 = .ok (.iload_n 1, 1) := by decide +kernel
theorem dX12_allWeight_52 : decode cX12_allWeight 52 = .ok (.ireturn, 1) := by decide +kernel
set_option maxRecDepth 20000 in
theorem ggX12_along_X12_weighs : GoodIn wsX12_along wsX12_weighs := goodIn_r _ [11, 12, 13, 14, 15, 16, 17, 18, 19, 20, 21, 22, 23, 24, 25, 26, 27, 28, 29, 30, 31, 32, 33, 34, 35, 36, 37, 38, 39, 40, 41, 42, 43, 44, 45, 46] rfl (by decide +kernel)
set_option maxRecDepth 20000 in
theorem gX12_along_X12_weighs : GoodIn wsX12_along (wsV RX12 121 RX12 yX12_weighs wsX12_weighs) := goodIn_app (goodIn_of _ (by decide +kernel)) ggX12_along_X12_weighs
theorem dX12_along_0 : decode cX12_along 0 = .ok (.aload_n 0, 1) := by decide +kernel
theorem dX12_along_1 : decode cX12_along 1 = .ok (.getfield 18, 3) := by decide +kernel
theorem dX12_along_4 : decode cX12_along 4 = .ok (.aload_n 0, 1) := by decide +kernel
theorem dX12_along_5 : decode cX12_along 5 = .ok (.getfield 9, 3) := by decide +kernel
theorem dX12_along_8 : decode cX12_along 8 = .ok (.iconst 1, 1) := by decide +kernel
theorem dX12_along_9 : decode cX12_along 9 = .ok (.isub, 1) := by decide +kernel
theorem dX12_along_10 : decode cX12_along 10 = .ok (.imul, 1) := by decide +kernel
theorem dX12_along_11 : decode cX12_along 11 = .ok (.istore_n 1, 1) := by decide +kernel
theorem dX12_along_12 : decode cX12_along 12 = .ok (.iconst 0, 1) := by decide +kernel
theorem dX12_along_13 : decode cX12_along 13 = .ok (.istore_n 2, 1) := by decide +kernel
theorem dX12_along_14 : decode cX12_along 14 = .ok (.iload_n 2, 1) := by decide +kernel
theorem dX12_along_15 : decode cX12_along 15 = .ok (.aload_n 0, 1) := by decide +kernel
theorem dX12_along_16 : decode cX12_along 16 = .ok (.getfield 98, 3) := by decide +kernel
theorem dX12_along_19 : decode cX12_along 19 = .ok (.if_icmp .ge 26, 3) := by decide +kernel
theorem dX12_along_22 : decode cX12_along 22 = .ok (.iload_n 1, 1) := by decide +kernel
theorem dX12_along_23 : decode cX12_along 23 = .ok (.aload_n 0, 1) := by decide +kernel
theorem dX12_along_24 : decode cX12_along 24 = .ok (.iload_n 2, 1) := by decide +kernel
theorem dX12_along_25 : decode cX12_along 25 = .ok (.invokevirtual 121, 3) := by decide +kernel
theorem dX12_along_28 : decode cX12_along 28 = .ok (.iconst 2, 1) := by decide +kernel
theorem dX12_along_29 : decode cX12_along 29 = .ok (.imul, 1) := by decide +kernel
theorem dX12_along_30 : decode cX12_along 30 = .ok (.aload_n 0, 1) := by decide +kernel
theorem dX12_along_31 : decode cX12_along 31 = .ok (.getfield 37, 3) := by decide +kernel
theorem dX12_along_34 : decode cX12_along 34 = .ok (.iload_n 2, 1) := by decide +kernel
theorem dX12_along_35 : decode cX12_along 35 = .ok (.iaload, 1) := by decide +kernel
theorem dX12_along_36 : decode cX12_along 36 = .ok (.imul, 1) := by decide +kernel
theorem dX12_along_37 : decode cX12_along 37 = .ok (.iadd, 1) := by decide +kernel
theorem dX12_along_38 : decode cX12_along 38 = .ok (.istore_n 1, 1) := by decide +kernel
theorem dX12_along_39 : decode cX12_along 39 = .ok (.iinc 2 1, 3) := by decide +kernel
theorem dX12_along_42 : decode cX12_along 42 = .ok (.goto (-28), 3) := by decide +kernel
theorem dX12_along_45 : decode cX12_along 45 = .ok (.iconst 0, 1) := by decide +kernel
theorem dX12_along_46 : decode cX12_along 46 = .ok (.istore_n 2, 1) := by decide +kernel
theorem dX12_along_47 : decode cX12_along 47 = .ok (.iload_n 2, 1) := by decide +kernel
theorem dX12_along_48 : decode cX12_along 48 = .ok (.iconst 4, 1) := by decide +kernel
theorem dX12_along_49 : decode cX12_along 49 = .ok (.if_icmp .ge 27, 3) := by decide +kernel
theorem dX12_along_52 : decode cX12_along 52 = .ok (.iload_n 1, 1) := by decide +kernel
theorem dX12_along_53 : decode cX12_along 53 = .ok (.aload_n 0, 1) := by decide +kernel
theorem dX12_along_54 : decode cX12_along 54 = .ok (.getfield 55, 3) := by decide +kernel
theorem dX12_along_57 : decode cX12_along 57 = .ok (.iload_n 2, 1) := by decide +kernel
theorem dX12_along_58 : decode cX12_along 58 = .ok (.iaload, 1) := by decide +kernel
theorem dX12_along_59 : decode cX12_along 59 = .ok (.iconst 2, 1) := by decide +kernel
theorem dX12_along_60 : decode cX12_along 60 = .ok (.imul, 1) := by decide +kernel
theorem dX12_along_61 : decode cX12_along 61 = .ok (.aload_n 0, 1) := by decide +kernel
theorem dX12_along_62 : decode cX12_along 62 = .ok (.getfield 46, 3) := by decide +kernel
theorem dX12_along_65 : decode cX12_along 65 = .ok (.iload_n 2, 1) := by decide +kernel
theorem dX12_along_66 : decode cX12_along 66 = .ok (.iaload, 1) := by decide +kernel
theorem dX12_along_67 : decode cX12_along 67 = .ok (.imul, 1) := by decide +kernel
theorem dX12_along_68 : decode cX12_along 68 = .ok (.iadd, 1) := by decide +kernel
theorem dX12_along_69 : decode cX12_along 69 = .ok (.istore_n 1, 1) := by decide +kernel
theorem dX12_along_70 : decode cX12_along 70 = .ok (.iinc 2 1, 3) := by decide +kernel
theorem dX12_along_73 : decode cX12_along 73 = .ok (.goto (-26), 3) := by decide +kernel
theorem dX12_along_76 : decode cX12_along 76 = .ok (.iload_n 1, 1) := by decide +kernel
theorem dX12_along_77 : decode cX12_along 77 = .ok (.ireturn, 1) := by decide +kernel
set_option maxRecDepth 20000 in
theorem ggX12_aside_X12_weighs : GoodIn wsX12_aside wsX12_weighs := goodIn_r _ [7, 8, 9, 10, 11, 12, 13, 14, 15, 16, 17, 18, 19, 20, 21, 22, 23, 24, 25, 26, 27, 28, 29, 30, 31, 32, 33, 34, 35, 36, 37, 38, 39, 40, 41, 42] rfl (by decide +kernel)
set_option maxRecDepth 20000 in
theorem gX12_aside_X12_weighs : GoodIn wsX12_aside (wsV RX12 121 RX12 yX12_weighs wsX12_weighs) := goodIn_app (goodIn_of _ (by decide +kernel)) ggX12_aside_X12_weighs
theorem dX12_aside_0 : decode cX12_aside 0 = .ok (.iconst 0, 1) := by decide +kernel
theorem dX12_aside_1 : decode cX12_aside 1 = .ok (.istore_n 1, 1) := by decide +kernel
theorem dX12_aside_2 : decode cX12_aside 2 = .ok (.iconst 0, 1) := by decide +kernel
theorem dX12_aside_3 : decode cX12_aside 3 = .ok (.istore_n 2, 1) := by decide +kernel
theorem dX12_aside_4 : decode cX12_aside 4 = .ok (.iload_n 2, 1) := by decide +kernel
theorem dX12_aside_5 : decode cX12_aside 5 = .ok (.aload_n 0, 1) := by decide +kernel
theorem dX12_aside_6 : decode cX12_aside 6 = .ok (.getfield 98, 3) := by decide +kernel
theorem dX12_aside_9 : decode cX12_aside 9 = .ok (.if_icmp .ge 24, 3) := by decide +kernel
theorem dX12_aside_12 : decode cX12_aside 12 = .ok (.iload_n 1, 1) := by decide +kernel
theorem dX12_aside_13 : decode cX12_aside 13 = .ok (.aload_n 0, 1) := by decide +kernel
theorem dX12_aside_14 : decode cX12_aside 14 = .ok (.iload_n 2, 1) := by decide +kernel
theorem dX12_aside_15 : decode cX12_aside 15 = .ok (.invokevirtual 121, 3) := by decide +kernel
theorem dX12_aside_18 : decode cX12_aside 18 = .ok (.aload_n 0, 1) := by decide +kernel
theorem dX12_aside_19 : decode cX12_aside 19 = .ok (.getfield 40, 3) := by decide +kernel
theorem dX12_aside_22 : decode cX12_aside 22 = .ok (.iload_n 2, 1) := by decide +kernel
theorem dX12_aside_23 : decode cX12_aside 23 = .ok (.iaload, 1) := by decide +kernel
theorem dX12_aside_24 : decode cX12_aside 24 = .ok (.imul, 1) := by decide +kernel
theorem dX12_aside_25 : decode cX12_aside 25 = .ok (.iadd, 1) := by decide +kernel
theorem dX12_aside_26 : decode cX12_aside 26 = .ok (.istore_n 1, 1) := by decide +kernel
theorem dX12_aside_27 : decode cX12_aside 27 = .ok (.iinc 2 1, 3) := by decide +kernel
theorem dX12_aside_30 : decode cX12_aside 30 = .ok (.goto (-26), 3) := by decide +kernel
theorem dX12_aside_33 : decode cX12_aside 33 = .ok (.iload_n 1, 1) := by decide +kernel
theorem dX12_aside_34 : decode cX12_aside 34 = .ok (.ireturn, 1) := by decide +kernel
set_option maxRecDepth 20000 in
theorem ggX12_aloft_X12_weighs : GoodIn wsX12_aloft wsX12_weighs := goodIn_r _ [8, 9, 10, 11, 12, 13, 14, 15, 16, 17, 18, 19, 20, 21, 22, 23, 24, 25, 26, 27, 28, 29, 30, 31, 32, 33, 34, 35, 36, 37, 38, 39, 40, 41, 42, 43] rfl (by decide +kernel)
set_option maxRecDepth 20000 in
theorem gX12_aloft_X12_weighs : GoodIn wsX12_aloft (wsV RX12 121 RX12 yX12_weighs wsX12_weighs) := goodIn_app (goodIn_of _ (by decide +kernel)) ggX12_aloft_X12_weighs
theorem dX12_aloft_0 : decode cX12_aloft 0 = .ok (.iconst 0, 1) := by decide +kernel
theorem dX12_aloft_1 : decode cX12_aloft 1 = .ok (.istore_n 1, 1) := by decide +kernel
theorem dX12_aloft_2 : decode cX12_aloft 2 = .ok (.iconst 0, 1) := by decide +kernel
theorem dX12_aloft_3 : decode cX12_aloft 3 = .ok (.istore_n 2, 1) := by decide +kernel
theorem dX12_aloft_4 : decode cX12_aloft 4 = .ok (.iload_n 2, 1) := by decide +kernel
theorem dX12_aloft_5 : decode cX12_aloft 5 = .ok (.aload_n 0, 1) := by decide +kernel
theorem dX12_aloft_6 : decode cX12_aloft 6 = .ok (.getfield 98, 3) := by decide +kernel
theorem dX12_aloft_9 : decode cX12_aloft 9 = .ok (.if_icmp .ge 24, 3) := by decide +kernel
theorem dX12_aloft_12 : decode cX12_aloft 12 = .ok (.iload_n 1, 1) := by decide +kernel
theorem dX12_aloft_13 : decode cX12_aloft 13 = .ok (.aload_n 0, 1) := by decide +kernel
theorem dX12_aloft_14 : decode cX12_aloft 14 = .ok (.iload_n 2, 1) := by decide +kernel
theorem dX12_aloft_15 : decode cX12_aloft 15 = .ok (.invokevirtual 121, 3) := by decide +kernel
theorem dX12_aloft_18 : decode cX12_aloft 18 = .ok (.aload_n 0, 1) := by decide +kernel
theorem dX12_aloft_19 : decode cX12_aloft 19 = .ok (.getfield 43, 3) := by decide +kernel
theorem dX12_aloft_22 : decode cX12_aloft 22 = .ok (.iload_n 2, 1) := by decide +kernel
theorem dX12_aloft_23 : decode cX12_aloft 23 = .ok (.iaload, 1) := by decide +kernel
theorem dX12_aloft_24 : decode cX12_aloft 24 = .ok (.imul, 1) := by decide +kernel
theorem dX12_aloft_25 : decode cX12_aloft 25 = .ok (.iadd, 1) := by decide +kernel
theorem dX12_aloft_26 : decode cX12_aloft 26 = .ok (.istore_n 1, 1) := by decide +kernel
theorem dX12_aloft_27 : decode cX12_aloft 27 = .ok (.iinc 2 1, 3) := by decide +kernel
theorem dX12_aloft_30 : decode cX12_aloft 30 = .ok (.goto (-26), 3) := by decide +kernel
theorem dX12_aloft_33 : decode cX12_aloft 33 = .ok (.iconst 0, 1) := by decide +kernel
theorem dX12_aloft_34 : decode cX12_aloft 34 = .ok (.istore_n 2, 1) := by decide +kernel
theorem dX12_aloft_35 : decode cX12_aloft 35 = .ok (.iload_n 2, 1) := by decide +kernel
theorem dX12_aloft_36 : decode cX12_aloft 36 = .ok (.iconst 4, 1) := by decide +kernel
theorem dX12_aloft_37 : decode cX12_aloft 37 = .ok (.if_icmp .ge 20, 3) := by decide +kernel
theorem dX12_aloft_40 : decode cX12_aloft 40 = .ok (.iload_n 1, 1) := by decide +kernel
theorem dX12_aloft_41 : decode cX12_aloft 41 = .ok (.iconst 2, 1) := by decide +kernel
theorem dX12_aloft_42 : decode cX12_aloft 42 = .ok (.aload_n 0, 1) := by decide +kernel
theorem dX12_aloft_43 : decode cX12_aloft 43 = .ok (.getfield 55, 3) := by decide +kernel
theorem dX12_aloft_46 : decode cX12_aloft 46 = .ok (.iload_n 2, 1) := by decide +kernel
theorem dX12_aloft_47 : decode cX12_aloft 47 = .ok (.iaload, 1) := by decide +kernel
theorem dX12_aloft_48 : decode cX12_aloft 48 = .ok (.imul, 1) := by decide +kernel
theorem dX12_aloft_49 : decode cX12_aloft 49 = .ok (.iadd, 1) := by decide +kernel
theorem dX12_aloft_50 : decode cX12_aloft 50 = .ok (.istore_n 1, 1) := by decide +kernel
theorem dX12_aloft_51 : decode cX12_aloft 51 = .ok (.iinc 2 1, 3) := by decide +kernel
theorem dX12_aloft_54 : decode cX12_aloft 54 = .ok (.goto (-19), 3) := by decide +kernel
theorem dX12_aloft_57 : decode cX12_aloft 57 = .ok (.iload_n 1, 1) := by decide +kernel
theorem dX12_aloft_58 : decode cX12_aloft 58 = .ok (.ireturn, 1) := by decide +kernel
theorem dX12_leastRise_0 : decode cX12_leastRise 0 = .ok (.aload_n 0, 1) := by decide +kernel
theorem dX12_leastRise_1 : decode cX12_leastRise 1 = .ok (.getfield 25, 3) := by decide +kernel
theorem dX12_leastRise_4 : decode cX12_leastRise 4 = .ok (.iconst 0, 1) := by decide +kernel
theorem dX12_leastRise_5 : decode cX12_leastRise 5 = .ok (.iaload, 1) := by decide +kernel
theorem dX12_leastRise_6 : decode cX12_leastRise 6 = .ok (.istore_n 1, 1) := by decide +kernel
theorem dX12_leastRise_7 : decode cX12_leastRise 7 = .ok (.iconst 1, 1) := by decide +kernel
theorem dX12_leastRise_8 : decode cX12_leastRise 8 = .ok (.istore_n 2, 1) := by decide +kernel
theorem dX12_leastRise_9 : decode cX12_leastRise 9 = .ok (.iload_n 2, 1) := by decide +kernel
theorem dX12_leastRise_10 : decode cX12_leastRise 10 = .ok (.aload_n 0, 1) := by decide +kernel
theorem dX12_leastRise_11 : decode cX12_leastRise 11 = .ok (.getfield 9, 3) := by decide +kernel
theorem dX12_leastRise_14 : decode cX12_leastRise 14 = .ok (.if_icmp .ge 20, 3) := by decide +kernel
theorem dX12_leastRise_17 : decode cX12_leastRise 17 = .ok (.iload_n 1, 1) := by decide +kernel
theorem dX12_leastRise_18 : decode cX12_leastRise 18 = .ok (.aload_n 0, 1) := by decide +kernel
theorem dX12_leastRise_19 : decode cX12_leastRise 19 = .ok (.getfield 25, 3) := by decide +kernel
theorem dX12_leastRise_22 : decode cX12_leastRise 22 = .ok (.iload_n 2, 1) := by decide +kernel
theorem dX12_leastRise_23 : decode cX12_leastRise 23 = .ok (.iaload, 1) := by decide +kernel
theorem dX12_leastRise_24 : decode cX12_leastRise 24 = .ok (.invokestatic 147, 3) := by decide +kernel
theorem dX12_leastRise_27 : decode cX12_leastRise 27 = .ok (.istore_n 1, 1) := by decide +kernel
theorem dX12_leastRise_28 : decode cX12_leastRise 28 = .ok (.iinc 2 1, 3) := by decide +kernel
theorem dX12_leastRise_31 : decode cX12_leastRise 31 = .ok (.goto (-22), 3) := by decide +kernel
theorem dX12_leastRise_34 : decode cX12_leastRise 34 = .ok (.iload_n 1, 1) := by decide +kernel
theorem dX12_leastRise_35 : decode cX12_leastRise 35 = .ok (.ireturn, 1) := by decide +kernel
set_option maxRecDepth 20000 in
theorem ggX12_told_X12_allWeight : GoodIn wsX12_told wsX12_allWeight := goodIn_r _ [7, 8, 2, 9, 10, 11, 12, 6, 13, 14, 15, 16, 81, 82, 83, 84, 85, 86, 87, 88, 89, 90, 91, 92, 93, 94, 95, 96, 97, 98, 99, 100, 101, 102, 103, 104, 105, 106, 107, 108, 109, 110, 111, 112] rfl (by decide +kernel)
set_option maxRecDepth 20000 in
theorem gX12_told_X12_allWeight : GoodIn wsX12_told (wsV RX12 152 RX12 yX12_allWeight wsX12_allWeight) := goodIn_app (goodIn_of _ (by decide +kernel)) ggX12_told_X12_allWeight
set_option maxRecDepth 20000 in
theorem ggX12_told_X12_along : GoodIn wsX12_told wsX12_along := goodIn_r _ [20, 8, 21, 2, 22, 9, 23, 10, 11, 12, 6, 13, 14, 15, 16, 81, 82, 83, 84, 85, 86, 87, 88, 89, 90, 91, 92, 93, 94, 95, 96, 97, 98, 99, 100, 101, 102, 103, 104, 105, 106, 107, 108, 109, 110, 111, 112] rfl (by decide +kernel)
set_option maxRecDepth 20000 in
theorem gX12_told_X12_along : GoodIn wsX12_told (wsV RX12 155 RX12 yX12_along wsX12_along) := goodIn_app (goodIn_of _ (by decide +kernel)) ggX12_told_X12_along
set_option maxRecDepth 20000 in
theorem ggX12_told_X12_aside : GoodIn wsX12_told wsX12_aside := goodIn_r _ [27, 2, 28, 10, 11, 12, 6, 13, 14, 15, 16, 81, 82, 83, 84, 85, 86, 87, 88, 89, 90, 91, 92, 93, 94, 95, 96, 97, 98, 99, 100, 101, 102, 103, 104, 105, 106, 107, 108, 109, 110, 111, 112] rfl (by decide +kernel)
set_option maxRecDepth 20000 in
theorem gX12_told_X12_aside : GoodIn wsX12_told (wsV RX12 158 RX12 yX12_aside wsX12_aside) := goodIn_app (goodIn_of _ (by decide +kernel)) ggX12_told_X12_aside
set_option maxRecDepth 20000 in
theorem ggX12_told_X12_aloft : GoodIn wsX12_told wsX12_aloft := goodIn_r _ [32, 2, 33, 9, 10, 11, 12, 6, 13, 14, 15, 16, 81, 82, 83, 84, 85, 86, 87, 88, 89, 90, 91, 92, 93, 94, 95, 96, 97, 98, 99, 100, 101, 102, 103, 104, 105, 106, 107, 108, 109, 110, 111, 112] rfl (by decide +kernel)
set_option maxRecDepth 20000 in
theorem gX12_told_X12_aloft : GoodIn wsX12_told (wsV RX12 161 RX12 yX12_aloft wsX12_aloft) := goodIn_app (goodIn_of _ (by decide +kernel)) ggX12_told_X12_aloft
set_option maxRecDepth 20000 in
theorem ggX12_told_X12_line : GoodIn wsX12_told wsX12_line := goodIn_r _ [37, 3, 4, 5, 6, 7, 8, 2, 9, 10, 11, 12, 13, 14, 15, 16, 38, 39, 40, 41, 42, 43, 44, 45, 46, 21, 47, 48, 49, 50, 51, 52, 53, 54, 55, 56, 57, 58, 59, 81, 82, 83, 84, 85, 86, 87, 88, 89, 90, 91, 92, 93, 94, 95, 96, 97, 98, 99, 100, 101, 102, 103, 104, 105, 106, 107, 108, 109, 110, 111, 112] rfl (by decide +kernel)
set_option maxRecDepth 20000 in
theorem gX12_told_X12_line : GoodIn wsX12_told (wsV RX12 164 RX12 yX12_line wsX12_line) := goodIn_app (goodIn_of _ (by decide +kernel)) ggX12_told_X12_line
set_option maxRecDepth 20000 in
theorem ggX12_told_X12_righting : GoodIn wsX12_told wsX12_righting := goodIn_r _ [63, 21, 58, 64, 34, 35, 36, 6, 37, 3, 4, 5, 7, 8, 2, 9, 10, 11, 12, 13, 14, 15, 16, 38, 39, 40, 41, 42, 43, 44, 45, 46, 47, 48, 49, 50, 51, 52, 53, 54, 55, 56, 57, 59, 65, 66, 67, 68, 69, 70, 71, 72, 29, 30, 31, 32, 33, 81, 82, 83, 84, 85, 86, 87, 88, 89, 90, 91, 92, 93, 94, 95, 96, 97, 98, 99, 100, 101, 102, 103, 104, 105, 106, 107, 108, 109, 110, 111, 112] rfl (by decide +kernel)
set_option maxRecDepth 20000 in
theorem gX12_told_X12_righting : GoodIn wsX12_told (wsV RX12 167 RX12 yX12_righting wsX12_righting) := goodIn_app (goodIn_of _ (by decide +kernel)) ggX12_told_X12_righting
set_option maxRecDepth 20000 in
theorem ggX12_told_X12_slacks : GoodIn wsX12_told wsX12_slacks := goodIn_r _ [76, 68, 69, 70, 6, 71, 64, 9, 72, 81, 82, 83, 84, 85, 86, 87, 88, 89, 90, 91, 92, 93, 94, 95, 96, 97, 98, 99, 100, 101, 102, 103, 104, 105, 106, 107, 108, 109, 110, 111, 112] rfl (by decide +kernel)
set_option maxRecDepth 20000 in
theorem gX12_told_X12_slacks : GoodIn wsX12_told (wsV RX12 170 RX12 yX12_slacks wsX12_slacks) := goodIn_app (goodIn_of _ (by decide +kernel)) ggX12_told_X12_slacks
set_option maxRecDepth 20000 in
theorem ggX12_told_X12_leastRise : GoodIn wsX12_told wsX12_leastRise := goodIn_r _ [80, 59, 21, 51, 52, 53, 54, 81, 82, 83, 84, 85, 86, 87, 88, 89, 90, 91, 92, 93, 94, 95, 96, 97, 98, 99, 100, 101, 102, 103, 104, 105, 106, 107, 108, 109, 110, 111, 112] rfl (by decide +kernel)
set_option maxRecDepth 20000 in
theorem gX12_told_X12_leastRise : GoodIn wsX12_told (wsV RX12 173 RX12 yX12_leastRise wsX12_leastRise) := goodIn_app (goodIn_of _ (by decide +kernel)) ggX12_told_X12_leastRise
theorem dX12_told_0 : decode cX12_told 0 = .ok (.iload_n 1, 1) := by decide +kernel
theorem dX12_told_1 : decode cX12_told 1 = .ok (.tableswitch 101 0 7 #[47, 52, 57, 62, 67, 86, 91, 96], 47) := by decide +kernel
theorem dX12_told_48 : decode cX12_told 48 = .ok (.aload_n 0, 1) := by decide +kernel
theorem dX12_told_49 : decode cX12_told 49 = .ok (.invokevirtual 152, 3) := by decide +kernel
theorem dX12_told_52 : decode cX12_told 52 = .ok (.ireturn, 1) := by decide +kernel
theorem dX12_told_53 : decode cX12_told 53 = .ok (.aload_n 0, 1) := by decide +kernel
theorem dX12_told_54 : decode cX12_told 54 = .ok (.invokevirtual 155, 3) := by decide +kernel
theorem dX12_told_57 : decode cX12_told 57 = .ok (.ireturn, 1) := by decide +kernel
theorem dX12_told_58 : decode cX12_told 58 = .ok (.aload_n 0, 1) := by decide +kernel
theorem dX12_told_59 : decode cX12_told 59 = .ok (.invokevirtual 158, 3) := by decide +kernel
theorem dX12_told_62 : decode cX12_told 62 = .ok (.ireturn, 1) := by decide +kernel
theorem dX12_told_63 : decode cX12_told 63 = .ok (.aload_n 0, 1) := by decide +kernel
theorem dX12_told_64 : decode cX12_told 64 = .ok (.invokevirtual 161, 3) := by decide +kernel
theorem dX12_told_67 : decode cX12_told 67 = .ok (.ireturn, 1) := by decide +kernel
theorem dX12_told_68 : decode cX12_told 68 = .ok (.aload_n 0, 1) := by decide +kernel
theorem dX12_told_69 : decode cX12_told 69 = .ok (.invokevirtual 164, 3) := by decide +kernel
theorem dX12_told_72 : decode cX12_told 72 = .ok (.bipush (-2), 2) := by decide +kernel
theorem dX12_told_74 : decode cX12_told 74 = .ok (.if_icmp .ne 8, 3) := by decide +kernel
theorem dX12_told_77 : decode cX12_told 77 = .ok (.ldc 124, 2) := by decide +kernel
theorem dX12_told_79 : decode cX12_told 79 = .ok (.goto 7, 3) := by decide +kernel
theorem dX12_told_82 : decode cX12_told 82 = .ok (.aload_n 0, 1) := by decide +kernel
theorem dX12_told_83 : decode cX12_told 83 = .ok (.invokevirtual 167, 3) := by decide +kernel
theorem dX12_told_86 : decode cX12_told 86 = .ok (.ireturn, 1) := by decide +kernel
theorem dX12_told_87 : decode cX12_told 87 = .ok (.aload_n 0, 1) := by decide +kernel
theorem dX12_told_88 : decode cX12_told 88 = .ok (.getfield 98, 3) := by decide +kernel
theorem dX12_told_91 : decode cX12_told 91 = .ok (.ireturn, 1) := by decide +kernel
theorem dX12_told_92 : decode cX12_told 92 = .ok (.aload_n 0, 1) := by decide +kernel
theorem dX12_told_93 : decode cX12_told 93 = .ok (.invokevirtual 170, 3) := by decide +kernel
theorem dX12_told_96 : decode cX12_told 96 = .ok (.ireturn, 1) := by decide +kernel
theorem dX12_told_97 : decode cX12_told 97 = .ok (.aload_n 0, 1) := by decide +kernel
theorem dX12_told_98 : decode cX12_told 98 = .ok (.invokevirtual 173, 3) := by decide +kernel
theorem dX12_told_101 : decode cX12_told 101 = .ok (.ireturn, 1) := by decide +kernel
theorem dX12_told_102 : decode cX12_told 102 = .ok (.ldc 124, 2) := by decide +kernel
theorem dX12_told_104 : decode cX12_told 104 = .ok (.ireturn, 1) := by decide +kernel
theorem dX12_waterOf_0 : decode cX12_waterOf 0 = .ok (.iconst 0, 1) := by decide +kernel
theorem dX12_waterOf_1 : decode cX12_waterOf 1 = .ok (.bipush 64, 2) := by decide +kernel
theorem dX12_waterOf_3 : decode cX12_waterOf 3 = .ok (.aload_n 0, 1) := by decide +kernel
theorem dX12_waterOf_4 : decode cX12_waterOf 4 = .ok (.getfield 15, 3) := by decide +kernel
theorem dX12_waterOf_7 : decode cX12_waterOf 7 = .ok (.imul, 1) := by decide +kernel
theorem dX12_waterOf_8 : decode cX12_waterOf 8 = .ok (.iload_n 2, 1) := by decide +kernel
theorem dX12_waterOf_9 : decode cX12_waterOf 9 = .ok (.invokestatic 147, 3) := by decide +kernel
theorem dX12_waterOf_12 : decode cX12_waterOf 12 = .ok (.invokestatic 176, 3) := by decide +kernel
theorem dX12_waterOf_15 : decode cX12_waterOf 15 = .ok (.istore_n 3, 1) := by decide +kernel
theorem dX12_waterOf_16 : decode cX12_waterOf 16 = .ok (.aload_n 0, 1) := by decide +kernel
theorem dX12_waterOf_17 : decode cX12_waterOf 17 = .ok (.getfield 21, 3) := by decide +kernel
theorem dX12_waterOf_20 : decode cX12_waterOf 20 = .ok (.iload_n 1, 1) := by decide +kernel
theorem dX12_waterOf_21 : decode cX12_waterOf 21 = .ok (.iaload, 1) := by decide +kernel
theorem dX12_waterOf_22 : decode cX12_waterOf 22 = .ok (.iconst 0, 1) := by decide +kernel
theorem dX12_waterOf_23 : decode cX12_waterOf 23 = .ok (.iload_n 3, 1) := by decide +kernel
theorem dX12_waterOf_24 : decode cX12_waterOf 24 = .ok (.bipush 64, 2) := by decide +kernel
theorem dX12_waterOf_26 : decode cX12_waterOf 26 = .ok (.aload_n 0, 1) := by decide +kernel
theorem dX12_waterOf_27 : decode cX12_waterOf 27 = .ok (.getfield 25, 3) := by decide +kernel
theorem dX12_waterOf_30 : decode cX12_waterOf 30 = .ok (.iload_n 1, 1) := by decide +kernel
theorem dX12_waterOf_31 : decode cX12_waterOf 31 = .ok (.iaload, 1) := by decide +kernel
theorem dX12_waterOf_32 : decode cX12_waterOf 32 = .ok (.imul, 1) := by decide +kernel
theorem dX12_waterOf_33 : decode cX12_waterOf 33 = .ok (.isub, 1) := by decide +kernel
theorem dX12_waterOf_34 : decode cX12_waterOf 34 = .ok (.invokestatic 176, 3) := by decide +kernel
theorem dX12_waterOf_37 : decode cX12_waterOf 37 = .ok (.imul, 1) := by decide +kernel
theorem dX12_waterOf_38 : decode cX12_waterOf 38 = .ok (.ireturn, 1) := by decide +kernel
set_option maxRecDepth 20000 in
theorem ggX12_waterOfAll_X12_waterOf : GoodIn wsX12_waterOfAll wsX12_waterOf := goodIn_r _ [6, 7, 8, 9, 10, 11, 12, 13, 14, 15, 16, 17, 18, 19, 20, 21, 22, 23, 24, 25, 26, 27, 28, 29, 30, 31, 32, 33, 34, 35, 36, 37, 38, 39, 40, 41, 42, 43, 44, 45, 46, 47, 48] rfl (by decide +kernel)
set_option maxRecDepth 20000 in
theorem gX12_waterOfAll_X12_waterOf : GoodIn wsX12_waterOfAll (wsV RX12 179 RX12 yX12_waterOf wsX12_waterOf) := goodIn_app (goodIn_of _ (by decide +kernel)) ggX12_waterOfAll_X12_waterOf
theorem dX12_waterOfAll_0 : decode cX12_waterOfAll 0 = .ok (.iconst 0, 1) := by decide +kernel
theorem dX12_waterOfAll_1 : decode cX12_waterOfAll 1 = .ok (.istore_n 2, 1) := by decide +kernel
theorem dX12_waterOfAll_2 : decode cX12_waterOfAll 2 = .ok (.iconst 0, 1) := by decide +kernel
theorem dX12_waterOfAll_3 : decode cX12_waterOfAll 3 = .ok (.istore_n 3, 1) := by decide +kernel
theorem dX12_waterOfAll_4 : decode cX12_waterOfAll 4 = .ok (.iload_n 3, 1) := by decide +kernel
theorem dX12_waterOfAll_5 : decode cX12_waterOfAll 5 = .ok (.aload_n 0, 1) := by decide +kernel
theorem dX12_waterOfAll_6 : decode cX12_waterOfAll 6 = .ok (.getfield 9, 3) := by decide +kernel
theorem dX12_waterOfAll_9 : decode cX12_waterOfAll 9 = .ok (.if_icmp .ge 18, 3) := by decide +kernel
theorem dX12_waterOfAll_12 : decode cX12_waterOfAll 12 = .ok (.iload_n 2, 1) := by decide +kernel
theorem dX12_waterOfAll_13 : decode cX12_waterOfAll 13 = .ok (.aload_n 0, 1) := by decide +kernel
theorem dX12_waterOfAll_14 : decode cX12_waterOfAll 14 = .ok (.iload_n 3, 1) := by decide +kernel
theorem dX12_waterOfAll_15 : decode cX12_waterOfAll 15 = .ok (.iload_n 1, 1) := by decide +kernel
theorem dX12_waterOfAll_16 : decode cX12_waterOfAll 16 = .ok (.invokevirtual 179, 3) := by decide +kernel
theorem dX12_waterOfAll_19 : decode cX12_waterOfAll 19 = .ok (.iadd, 1) := by decide +kernel
theorem dX12_waterOfAll_20 : decode cX12_waterOfAll 20 = .ok (.istore_n 2, 1) := by decide +kernel
theorem dX12_waterOfAll_21 : decode cX12_waterOfAll 21 = .ok (.iinc 3 1, 3) := by decide +kernel
theorem dX12_waterOfAll_24 : decode cX12_waterOfAll 24 = .ok (.goto (-20), 3) := by decide +kernel
theorem dX12_waterOfAll_27 : decode cX12_waterOfAll 27 = .ok (.iload_n 2, 1) := by decide +kernel
theorem dX12_waterOfAll_28 : decode cX12_waterOfAll 28 = .ok (.ireturn, 1) := by decide +kernel
set_option maxRecDepth 20000 in
theorem ggX12_water_X12_isSection : GoodIn wsX12_water wsX12_isSection := goodIn_r _ [6, 7, 8, 9, 5, 10, 29, 30, 31, 32, 33, 34, 35, 36, 37, 38, 39, 40, 41, 42, 43, 44, 45, 46, 47, 48, 49, 50, 51, 52, 53, 54, 55, 56, 57, 58, 59, 60] rfl (by decide +kernel)
set_option maxRecDepth 20000 in
theorem gX12_water_X12_isSection : GoodIn wsX12_water (wsV RX12 105 RX12 yX12_isSection wsX12_isSection) := goodIn_app (goodIn_of _ (by decide +kernel)) ggX12_water_X12_isSection
set_option maxRecDepth 20000 in
theorem ggX12_water_X12_in : GoodIn wsX12_water wsX12_in := goodIn_r _ [10] rfl (by decide +kernel)
set_option maxRecDepth 20000 in
theorem gX12_water_X12_in : GoodIn wsX12_water (va_wsS RX12 101 yX12_in wsX12_in) := goodIn_app (goodIn_of _ (by decide +kernel)) ggX12_water_X12_in
set_option maxRecDepth 20000 in
theorem ggX12_water_X12_waterOfAll : GoodIn wsX12_water wsX12_waterOfAll := goodIn_r _ [14, 7, 15, 16, 17, 5, 18, 19, 20, 21, 22, 23, 24, 25, 26, 27, 28, 29, 30, 31, 32, 33, 34, 35, 36, 37, 38, 39, 40, 41, 42, 43, 44, 45, 46, 47, 48, 49, 50, 51, 52, 53, 54, 55, 56, 57, 58, 59, 60] rfl (by decide +kernel)
set_option maxRecDepth 20000 in
theorem gX12_water_X12_waterOfAll : GoodIn wsX12_water (wsV RX12 182 RX12 yX12_waterOfAll wsX12_waterOfAll) := goodIn_app (goodIn_of _ (by decide +kernel)) ggX12_water_X12_waterOfAll
set_option maxRecDepth 20000 in
theorem ggX12_water_X12_waterOf : GoodIn wsX12_water wsX12_waterOf := goodIn_r _ [18, 19, 20, 21, 22, 23, 24, 25, 26, 27, 28, 29, 30, 31, 32, 33, 34, 35, 36, 37, 38, 39, 40, 41, 42, 43, 44, 45, 46, 47, 48, 49, 50, 51, 52, 53, 54, 55, 56, 57, 58, 59, 60] rfl (by decide +kernel)
set_option maxRecDepth 20000 in
theorem gX12_water_X12_waterOf : GoodIn wsX12_water (wsV RX12 179 RX12 yX12_waterOf wsX12_waterOf) := goodIn_app (goodIn_of _ (by decide +kernel)) ggX12_water_X12_waterOf
theorem dX12_water_0 : decode cX12_water 0 = .ok (.iload_n 1, 1) := by decide +kernel
theorem dX12_water_1 : decode cX12_water 1 = .ok (.iconst (-1), 1) := by decide +kernel
theorem dX12_water_2 : decode cX12_water 2 = .ok (.if_icmp .eq 11, 3) := by decide +kernel
theorem dX12_water_5 : decode cX12_water 5 = .ok (.aload_n 0, 1) := by decide +kernel
theorem dX12_water_6 : decode cX12_water 6 = .ok (.iload_n 1, 1) := by decide +kernel
theorem dX12_water_7 : decode cX12_water 7 = .ok (.invokevirtual 105, 3) := by decide +kernel
theorem dX12_water_10 : decode cX12_water 10 = .ok (.ifCond .eq 16, 3) := by decide +kernel
theorem dX12_water_13 : decode cX12_water 13 = .ok (.iload_n 2, 1) := by decide +kernel
theorem dX12_water_14 : decode cX12_water 14 = .ok (.sipush (-9999), 3) := by decide +kernel
theorem dX12_water_17 : decode cX12_water 17 = .ok (.sipush 9999, 3) := by decide +kernel
theorem dX12_water_20 : decode cX12_water 20 = .ok (.invokestatic 101, 3) := by decide +kernel
theorem dX12_water_23 : decode cX12_water 23 = .ok (.ifCond .ne 6, 3) := by decide +kernel
theorem dX12_water_26 : decode cX12_water 26 = .ok (.ldc 124, 2) := by decide +kernel
theorem dX12_water_28 : decode cX12_water 28 = .ok (.ireturn, 1) := by decide +kernel
theorem dX12_water_29 : decode cX12_water 29 = .ok (.iload_n 1, 1) := by decide +kernel
theorem dX12_water_30 : decode cX12_water 30 = .ok (.iconst (-1), 1) := by decide +kernel
theorem dX12_water_31 : decode cX12_water 31 = .ok (.if_icmp .ne 11, 3) := by decide +kernel
theorem dX12_water_34 : decode cX12_water 34 = .ok (.aload_n 0, 1) := by decide +kernel
theorem dX12_water_35 : decode cX12_water 35 = .ok (.iload_n 2, 1) := by decide +kernel
theorem dX12_water_36 : decode cX12_water 36 = .ok (.invokevirtual 182, 3) := by decide +kernel
theorem dX12_water_39 : decode cX12_water 39 = .ok (.goto 9, 3) := by decide +kernel
theorem dX12_water_42 : decode cX12_water 42 = .ok (.aload_n 0, 1) := by decide +kernel
theorem dX12_water_43 : decode cX12_water 43 = .ok (.iload_n 1, 1) := by decide +kernel
theorem dX12_water_44 : decode cX12_water 44 = .ok (.iload_n 2, 1) := by decide +kernel
theorem dX12_water_45 : decode cX12_water 45 = .ok (.invokevirtual 179, 3) := by decide +kernel
theorem dX12_water_48 : decode cX12_water 48 = .ok (.ireturn, 1) := by decide +kernel
set_option maxRecDepth 20000 in
theorem ggX12_lineFor_X12_waterOfAll : GoodIn wsX12_lineFor wsX12_waterOfAll := goodIn_r _ [6, 7, 8, 9, 10, 5, 11, 1, 12, 13, 14, 15, 16, 17, 18, 19, 20, 21, 22, 23, 24, 25, 26, 27, 28, 29, 30, 31, 32, 33, 34, 35, 36, 37, 38, 39, 40, 41, 42, 43, 44, 45, 46, 47, 48, 49, 50, 51, 52] rfl (by decide +kernel)
set_option maxRecDepth 20000 in
theorem gX12_lineFor_X12_waterOfAll : GoodIn wsX12_lineFor (wsV RX12 182 RX12 yX12_waterOfAll wsX12_waterOfAll) := goodIn_app (goodIn_of _ (by decide +kernel)) ggX12_lineFor_X12_waterOfAll
theorem dX12_lineFor_0 : decode cX12_lineFor 0 = .ok (.aload_n 0, 1) := by decide +kernel
theorem dX12_lineFor_1 : decode cX12_lineFor 1 = .ok (.bipush 64, 2) := by decide +kernel
theorem dX12_lineFor_3 : decode cX12_lineFor 3 = .ok (.aload_n 0, 1) := by decide +kernel
theorem dX12_lineFor_4 : decode cX12_lineFor 4 = .ok (.getfield 15, 3) := by decide +kernel
theorem dX12_lineFor_7 : decode cX12_lineFor 7 = .ok (.imul, 1) := by decide +kernel
theorem dX12_lineFor_8 : decode cX12_lineFor 8 = .ok (.invokevirtual 182, 3) := by decide +kernel
theorem dX12_lineFor_11 : decode cX12_lineFor 11 = .ok (.bipush 64, 2) := by decide +kernel
theorem dX12_lineFor_13 : decode cX12_lineFor 13 = .ok (.iload_n 1, 1) := by decide +kernel
theorem dX12_lineFor_14 : decode cX12_lineFor 14 = .ok (.imul, 1) := by decide +kernel
theorem dX12_lineFor_15 : decode cX12_lineFor 15 = .ok (.if_icmp .ge 6, 3) := by decide +kernel
theorem dX12_lineFor_18 : decode cX12_lineFor 18 = .ok (.bipush (-2), 2) := by decide +kernel
theorem dX12_lineFor_20 : decode cX12_lineFor 20 = .ok (.ireturn, 1) := by decide +kernel
theorem dX12_lineFor_21 : decode cX12_lineFor 21 = .ok (.iconst 0, 1) := by decide +kernel
theorem dX12_lineFor_22 : decode cX12_lineFor 22 = .ok (.istore_n 2, 1) := by decide +kernel
theorem dX12_lineFor_23 : decode cX12_lineFor 23 = .ok (.bipush 64, 2) := by decide +kernel
theorem dX12_lineFor_25 : decode cX12_lineFor 25 = .ok (.aload_n 0, 1) := by decide +kernel
theorem dX12_lineFor_26 : decode cX12_lineFor 26 = .ok (.getfield 15, 3) := by decide +kernel
theorem dX12_lineFor_29 : decode cX12_lineFor 29 = .ok (.imul, 1) := by decide +kernel
theorem dX12_lineFor_30 : decode cX12_lineFor 30 = .ok (.istore_n 3, 1) := by decide +kernel
theorem dX12_lineFor_31 : decode cX12_lineFor 31 = .ok (.iload_n 2, 1) := by decide +kernel
theorem dX12_lineFor_32 : decode cX12_lineFor 32 = .ok (.iload_n 3, 1) := by decide +kernel
theorem dX12_lineFor_33 : decode cX12_lineFor 33 = .ok (.if_icmp .ge 37, 3) := by decide +kernel
theorem dX12_lineFor_36 : decode cX12_lineFor 36 = .ok (.iload_n 2, 1) := by decide +kernel
theorem dX12_lineFor_37 : decode cX12_lineFor 37 = .ok (.iload_n 3, 1) := by decide +kernel
theorem dX12_lineFor_38 : decode cX12_lineFor 38 = .ok (.iadd, 1) := by decide +kernel
theorem dX12_lineFor_39 : decode cX12_lineFor 39 = .ok (.iconst 2, 1) := by decide +kernel
theorem dX12_lineFor_40 : decode cX12_lineFor 40 = .ok (.idiv, 1) := by decide +kernel
theorem dX12_lineFor_41 : decode cX12_lineFor 41 = .ok (.istore 4, 2) := by decide +kernel
theorem dX12_lineFor_43 : decode cX12_lineFor 43 = .ok (.aload_n 0, 1) := by decide +kernel
theorem dX12_lineFor_44 : decode cX12_lineFor 44 = .ok (.iload 4, 2) := by decide +kernel
theorem dX12_lineFor_46 : decode cX12_lineFor 46 = .ok (.invokevirtual 182, 3) := by decide +kernel
theorem dX12_lineFor_49 : decode cX12_lineFor 49 = .ok (.bipush 64, 2) := by decide +kernel
theorem dX12_lineFor_51 : decode cX12_lineFor 51 = .ok (.iload_n 1, 1) := by decide +kernel
theorem dX12_lineFor_52 : decode cX12_lineFor 52 = .ok (.imul, 1) := by decide +kernel
theorem dX12_lineFor_53 : decode cX12_lineFor 53 = .ok (.if_icmp .lt 9, 3) := by decide +kernel
theorem dX12_lineFor_56 : decode cX12_lineFor 56 = .ok (.iload 4, 2) := by decide +kernel
theorem dX12_lineFor_58 : decode cX12_lineFor 58 = .ok (.istore_n 3, 1) := by decide +kernel
theorem dX12_lineFor_59 : decode cX12_lineFor 59 = .ok (.goto 8, 3) := by decide +kernel
theorem dX12_lineFor_62 : decode cX12_lineFor 62 = .ok (.iload 4, 2) := by decide +kernel
theorem dX12_lineFor_64 : decode cX12_lineFor 64 = .ok (.iconst 1, 1) := by decide +kernel
theorem dX12_lineFor_65 : decode cX12_lineFor 65 = .ok (.iadd, 1) := by decide +kernel
theorem dX12_lineFor_66 : decode cX12_lineFor 66 = .ok (.istore_n 2, 1) := by decide +kernel
theorem dX12_lineFor_67 : decode cX12_lineFor 67 = .ok (.goto (-36), 3) := by decide +kernel
theorem dX12_lineFor_70 : decode cX12_lineFor 70 = .ok (.iload_n 2, 1) := by decide +kernel
theorem dX12_lineFor_71 : decode cX12_lineFor 71 = .ok (.ireturn, 1) := by decide +kernel
set_option maxRecDepth 20000 in
theorem ggX12_line_X12_allWeight : GoodIn wsX12_line wsX12_allWeight := goodIn_r _ [5, 6, 7, 8, 9, 10, 11, 4, 12, 13, 14, 15, 39, 40, 41, 42, 43, 44, 45, 46, 47, 48, 49, 50, 51, 52, 53, 54, 55, 56, 57, 58, 59, 60, 61, 62, 63, 64, 65, 66, 67, 68, 69, 70] rfl (by decide +kernel)
