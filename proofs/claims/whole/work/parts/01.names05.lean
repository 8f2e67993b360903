set_option maxRecDepth 20000 in
theorem gX12_line_X12_allWeight : GoodIn wsX12_line (wsV RX12 152 RX12 yX12_allWeight wsX12_allWeight) := goodIn_app (goodIn_of _ (by decide +kernel)) ggX12_line_X12_allWeight
set_option maxRecDepth 20000 in
theorem ggX12_line_X12_lineFor : GoodIn wsX12_line wsX12_lineFor := goodIn_r _ [19, 20, 21, 22, 23, 4, 24, 25, 26, 27, 28, 29, 30, 31, 32, 33, 34, 35, 36, 37, 38, 39, 40, 41, 42, 43, 44, 45, 46, 47, 48, 49, 50, 51, 52, 53, 54, 55, 56, 57, 58, 59, 60, 61, 62, 63, 64, 65, 66, 67, 68, 69, 70] rfl (by decide +kernel)
set_option maxRecDepth 20000 in
theorem gX12_line_X12_lineFor : GoodIn wsX12_line (wsV RX12 185 RX12 yX12_lineFor wsX12_lineFor) := goodIn_app (goodIn_of _ (by decide +kernel)) ggX12_line_X12_lineFor
theorem dX12_line_0 : decode cX12_line 0 = .ok (.aload_n 0, 1) := by decide +kernel
theorem dX12_line_1 : decode cX12_line 1 = .ok (.aload_n 0, 1) := by decide +kernel
theorem dX12_line_2 : decode cX12_line 2 = .ok (.invokevirtual 152, 3) := by decide +kernel
theorem dX12_line_5 : decode cX12_line 5 = .ok (.invokevirtual 185, 3) := by decide +kernel
theorem dX12_line_8 : decode cX12_line 8 = .ok (.ireturn, 1) := by decide +kernel
set_option maxRecDepth 20000 in
theorem ggX12_waterBy_X12_waterOf : GoodIn wsX12_waterBy wsX12_waterOf := goodIn_r _ [6, 7, 8, 9, 10, 11, 12, 13, 14, 15, 16, 17, 18, 19, 20, 21, 22, 23, 24, 25, 26, 27, 28, 29, 30, 31, 32, 33, 34, 35, 36, 37, 38, 39, 40, 41, 42, 43, 44, 45, 46, 47, 48] rfl (by decide +kernel)
set_option maxRecDepth 20000 in
theorem gX12_waterBy_X12_waterOf : GoodIn wsX12_waterBy (wsV RX12 179 RX12 yX12_waterOf wsX12_waterOf) := goodIn_app (goodIn_of _ (by decide +kernel)) ggX12_waterBy_X12_waterOf
theorem dX12_waterBy_0 : decode cX12_waterBy 0 = .ok (.iconst 0, 1) := by decide +kernel
theorem dX12_waterBy_1 : decode cX12_waterBy 1 = .ok (.istore_n 3, 1) := by decide +kernel
theorem dX12_waterBy_2 : decode cX12_waterBy 2 = .ok (.iconst 0, 1) := by decide +kernel
theorem dX12_waterBy_3 : decode cX12_waterBy 3 = .ok (.istore 4, 2) := by decide +kernel
theorem dX12_waterBy_5 : decode cX12_waterBy 5 = .ok (.iload 4, 2) := by decide +kernel
theorem dX12_waterBy_7 : decode cX12_waterBy 7 = .ok (.aload_n 0, 1) := by decide +kernel
theorem dX12_waterBy_8 : decode cX12_waterBy 8 = .ok (.getfield 9, 3) := by decide +kernel
theorem dX12_waterBy_11 : decode cX12_waterBy 11 = .ok (.if_icmp .ge 33, 3) := by decide +kernel
theorem dX12_waterBy_14 : decode cX12_waterBy 14 = .ok (.iload_n 3, 1) := by decide +kernel
theorem dX12_waterBy_15 : decode cX12_waterBy 15 = .ok (.aload_n 0, 1) := by decide +kernel
theorem dX12_waterBy_16 : decode cX12_waterBy 16 = .ok (.iload 4, 2) := by decide +kernel
theorem dX12_waterBy_18 : decode cX12_waterBy 18 = .ok (.iload_n 2, 1) := by decide +kernel
theorem dX12_waterBy_19 : decode cX12_waterBy 19 = .ok (.iload_n 1, 1) := by decide +kernel
theorem dX12_waterBy_20 : decode cX12_waterBy 20 = .ok (.iconst 2, 1) := by decide +kernel
theorem dX12_waterBy_21 : decode cX12_waterBy 21 = .ok (.iload 4, 2) := by decide +kernel
theorem dX12_waterBy_23 : decode cX12_waterBy 23 = .ok (.imul, 1) := by decide +kernel
theorem dX12_waterBy_24 : decode cX12_waterBy 24 = .ok (.aload_n 0, 1) := by decide +kernel
theorem dX12_waterBy_25 : decode cX12_waterBy 25 = .ok (.getfield 9, 3) := by decide +kernel
theorem dX12_waterBy_28 : decode cX12_waterBy 28 = .ok (.isub, 1) := by decide +kernel
theorem dX12_waterBy_29 : decode cX12_waterBy 29 = .ok (.iconst 1, 1) := by decide +kernel
theorem dX12_waterBy_30 : decode cX12_waterBy 30 = .ok (.iadd, 1) := by decide +kernel
theorem dX12_waterBy_31 : decode cX12_waterBy 31 = .ok (.imul, 1) := by decide +kernel
theorem dX12_waterBy_32 : decode cX12_waterBy 32 = .ok (.iadd, 1) := by decide +kernel
theorem dX12_waterBy_33 : decode cX12_waterBy 33 = .ok (.invokevirtual 179, 3) := by decide +kernel
theorem dX12_waterBy_36 : decode cX12_waterBy 36 = .ok (.iadd, 1) := by decide +kernel
theorem dX12_waterBy_37 : decode cX12_waterBy 37 = .ok (.istore_n 3, 1) := by decide +kernel
theorem dX12_waterBy_38 : decode cX12_waterBy 38 = .ok (.iinc 4 1, 3) := by decide +kernel
theorem dX12_waterBy_41 : decode cX12_waterBy 41 = .ok (.goto (-36), 3) := by decide +kernel
theorem dX12_waterBy_44 : decode cX12_waterBy 44 = .ok (.iload_n 3, 1) := by decide +kernel
theorem dX12_waterBy_45 : decode cX12_waterBy 45 = .ok (.ireturn, 1) := by decide +kernel
set_option maxRecDepth 20000 in
theorem ggX12_restOf_X12_allWeight : GoodIn wsX12_restOf wsX12_allWeight := goodIn_r _ [11, 12, 13, 14, 15, 16, 17, 10, 18, 19, 20, 21, 38, 39, 40, 41, 42, 43, 44, 45, 46, 47, 48, 49, 50, 51, 52, 53, 54, 55, 56, 57, 58, 59, 60, 61, 62, 63, 64, 65, 66, 67, 68, 69] rfl (by decide +kernel)
set_option maxRecDepth 20000 in
theorem gX12_restOf_X12_allWeight : GoodIn wsX12_restOf (wsV RX12 152 RX12 yX12_allWeight wsX12_allWeight) := goodIn_app (goodIn_of _ (by decide +kernel)) ggX12_restOf_X12_allWeight
set_option maxRecDepth 20000 in
theorem ggX12_restOf_X12_waterBy : GoodIn wsX12_restOf wsX12_waterBy := goodIn_r _ [25, 2, 26, 27, 28, 10, 29, 1, 30, 31, 5, 32, 33, 34, 35, 36, 37, 38, 39, 40, 41, 42, 43, 44, 45, 46, 47, 48, 49, 50, 51, 52, 53, 54, 55, 56, 57, 58, 59, 60, 61, 62, 63, 64, 65, 66, 67, 68, 69] rfl (by decide +kernel)
set_option maxRecDepth 20000 in
theorem gX12_restOf_X12_waterBy : GoodIn wsX12_restOf (wsV RX12 191 RX12 yX12_waterBy wsX12_waterBy) := goodIn_app (goodIn_of _ (by decide +kernel)) ggX12_restOf_X12_waterBy
theorem dX12_restOf_0 : decode cX12_restOf 0 = .ok (.bipush 64, 2) := by decide +kernel
theorem dX12_restOf_2 : decode cX12_restOf 2 = .ok (.aload_n 0, 1) := by decide +kernel
theorem dX12_restOf_3 : decode cX12_restOf 3 = .ok (.invokevirtual 152, 3) := by decide +kernel
theorem dX12_restOf_6 : decode cX12_restOf 6 = .ok (.imul, 1) := by decide +kernel
theorem dX12_restOf_7 : decode cX12_restOf 7 = .ok (.istore_n 2, 1) := by decide +kernel
theorem dX12_restOf_8 : decode cX12_restOf 8 = .ok (.bipush 64, 2) := by decide +kernel
theorem dX12_restOf_10 : decode cX12_restOf 10 = .ok (.aload_n 0, 1) := by decide +kernel
theorem dX12_restOf_11 : decode cX12_restOf 11 = .ok (.getfield 15, 3) := by decide +kernel
theorem dX12_restOf_14 : decode cX12_restOf 14 = .ok (.imul, 1) := by decide +kernel
theorem dX12_restOf_15 : decode cX12_restOf 15 = .ok (.aload_n 0, 1) := by decide +kernel
theorem dX12_restOf_16 : decode cX12_restOf 16 = .ok (.getfield 9, 3) := by decide +kernel
theorem dX12_restOf_19 : decode cX12_restOf 19 = .ok (.iconst 1, 1) := by decide +kernel
theorem dX12_restOf_20 : decode cX12_restOf 20 = .ok (.isub, 1) := by decide +kernel
theorem dX12_restOf_21 : decode cX12_restOf 21 = .ok (.iload_n 1, 1) := by decide +kernel
theorem dX12_restOf_22 : decode cX12_restOf 22 = .ok (.invokestatic 188, 3) := by decide +kernel
theorem dX12_restOf_25 : decode cX12_restOf 25 = .ok (.imul, 1) := by decide +kernel
theorem dX12_restOf_26 : decode cX12_restOf 26 = .ok (.iadd, 1) := by decide +kernel
theorem dX12_restOf_27 : decode cX12_restOf 27 = .ok (.istore_n 3, 1) := by decide +kernel
theorem dX12_restOf_28 : decode cX12_restOf 28 = .ok (.aload_n 0, 1) := by decide +kernel
theorem dX12_restOf_29 : decode cX12_restOf 29 = .ok (.iload_n 1, 1) := by decide +kernel
theorem dX12_restOf_30 : decode cX12_restOf 30 = .ok (.iload_n 3, 1) := by decide +kernel
theorem dX12_restOf_31 : decode cX12_restOf 31 = .ok (.invokevirtual 191, 3) := by decide +kernel
theorem dX12_restOf_34 : decode cX12_restOf 34 = .ok (.iload_n 2, 1) := by decide +kernel
theorem dX12_restOf_35 : decode cX12_restOf 35 = .ok (.if_icmp .ge 6, 3) := by decide +kernel
theorem dX12_restOf_38 : decode cX12_restOf 38 = .ok (.bipush (-2), 2) := by decide +kernel
theorem dX12_restOf_40 : decode cX12_restOf 40 = .ok (.ireturn, 1) := by decide +kernel
theorem dX12_restOf_41 : decode cX12_restOf 41 = .ok (.iconst 0, 1) := by decide +kernel
theorem dX12_restOf_42 : decode cX12_restOf 42 = .ok (.istore 4, 2) := by decide +kernel
theorem dX12_restOf_44 : decode cX12_restOf 44 = .ok (.iload 4, 2) := by decide +kernel
theorem dX12_restOf_46 : decode cX12_restOf 46 = .ok (.iload_n 3, 1) := by decide +kernel
theorem dX12_restOf_47 : decode cX12_restOf 47 = .ok (.if_icmp .ge 37, 3) := by decide +kernel
theorem dX12_restOf_50 : decode cX12_restOf 50 = .ok (.iload 4, 2) := by decide +kernel
theorem dX12_restOf_52 : decode cX12_restOf 52 = .ok (.iload_n 3, 1) := by decide +kernel
theorem dX12_restOf_53 : decode cX12_restOf 53 = .ok (.iadd, 1) := by decide +kernel
theorem dX12_restOf_54 : decode cX12_restOf 54 = .ok (.iconst 2, 1) := by decide +kernel
theorem dX12_restOf_55 : decode cX12_restOf 55 = .ok (.idiv, 1) := by decide +kernel
theorem dX12_restOf_56 : decode cX12_restOf 56 = .ok (.istore 5, 2) := by decide +kernel
theorem dX12_restOf_58 : decode cX12_restOf 58 = .ok (.aload_n 0, 1) := by decide +kernel
theorem dX12_restOf_59 : decode cX12_restOf 59 = .ok (.iload_n 1, 1) := by decide +kernel
theorem dX12_restOf_60 : decode cX12_restOf 60 = .ok (.iload 5, 2) := by decide +kernel
theorem dX12_restOf_62 : decode cX12_restOf 62 = .ok (.invokevirtual 191, 3) := by decide +kernel
theorem dX12_restOf_65 : decode cX12_restOf 65 = .ok (.iload_n 2, 1) := by decide +kernel
theorem dX12_restOf_66 : decode cX12_restOf 66 = .ok (.if_icmp .lt 9, 3) := by decide +kernel
theorem dX12_restOf_69 : decode cX12_restOf 69 = .ok (.iload 5, 2) := by decide +kernel
theorem dX12_restOf_71 : decode cX12_restOf 71 = .ok (.istore_n 3, 1) := by decide +kernel
theorem dX12_restOf_72 : decode cX12_restOf 72 = .ok (.goto 9, 3) := by decide +kernel
theorem dX12_restOf_75 : decode cX12_restOf 75 = .ok (.iload 5, 2) := by decide +kernel
theorem dX12_restOf_77 : decode cX12_restOf 77 = .ok (.iconst 1, 1) := by decide +kernel
theorem dX12_restOf_78 : decode cX12_restOf 78 = .ok (.iadd, 1) := by decide +kernel
theorem dX12_restOf_79 : decode cX12_restOf 79 = .ok (.istore 4, 2) := by decide +kernel
theorem dX12_restOf_81 : decode cX12_restOf 81 = .ok (.goto (-37), 3) := by decide +kernel
theorem dX12_restOf_84 : decode cX12_restOf 84 = .ok (.iload 4, 2) := by decide +kernel
theorem dX12_restOf_86 : decode cX12_restOf 86 = .ok (.ireturn, 1) := by decide +kernel
set_option maxRecDepth 20000 in
theorem ggX12_offBy_X12_waterOf : GoodIn wsX12_offBy wsX12_waterOf := goodIn_r _ [6, 7, 8, 9, 10, 11, 12, 13, 14, 15, 16, 33, 34, 35, 36, 37, 38, 39, 40, 41, 42, 43, 44, 45, 46, 47, 48, 49, 50, 51, 52, 53, 54, 55, 56, 57, 58, 59, 60, 61, 62, 63, 64] rfl (by decide +kernel)
set_option maxRecDepth 20000 in
theorem gX12_offBy_X12_waterOf : GoodIn wsX12_offBy (wsV RX12 179 RX12 yX12_waterOf wsX12_waterOf) := goodIn_app (goodIn_of _ (by decide +kernel)) ggX12_offBy_X12_waterOf
set_option maxRecDepth 20000 in
theorem ggX12_offBy_X12_along : GoodIn wsX12_offBy wsX12_along := goodIn_r _ [20, 21, 1, 22, 23, 24, 25, 26, 27, 28, 5, 29, 30, 31, 32, 33, 34, 35, 36, 37, 38, 39, 40, 41, 42, 43, 44, 45, 46, 47, 48, 49, 50, 51, 52, 53, 54, 55, 56, 57, 58, 59, 60, 61, 62, 63, 64] rfl (by decide +kernel)
set_option maxRecDepth 20000 in
theorem gX12_offBy_X12_along : GoodIn wsX12_offBy (wsV RX12 155 RX12 yX12_along wsX12_along) := goodIn_app (goodIn_of _ (by decide +kernel)) ggX12_offBy_X12_along
theorem dX12_offBy_0 : decode cX12_offBy 0 = .ok (.iconst 0, 1) := by decide +kernel
theorem dX12_offBy_1 : decode cX12_offBy 1 = .ok (.istore_n 3, 1) := by decide +kernel
theorem dX12_offBy_2 : decode cX12_offBy 2 = .ok (.iconst 0, 1) := by decide +kernel
theorem dX12_offBy_3 : decode cX12_offBy 3 = .ok (.istore 4, 2) := by decide +kernel
theorem dX12_offBy_5 : decode cX12_offBy 5 = .ok (.iload 4, 2) := by decide +kernel
theorem dX12_offBy_7 : decode cX12_offBy 7 = .ok (.aload_n 0, 1) := by decide +kernel
theorem dX12_offBy_8 : decode cX12_offBy 8 = .ok (.getfield 9, 3) := by decide +kernel
theorem dX12_offBy_11 : decode cX12_offBy 11 = .ok (.if_icmp .ge 38, 3) := by decide +kernel
theorem dX12_offBy_14 : decode cX12_offBy 14 = .ok (.iload_n 3, 1) := by decide +kernel
theorem dX12_offBy_15 : decode cX12_offBy 15 = .ok (.iconst 2, 1) := by decide +kernel
theorem dX12_offBy_16 : decode cX12_offBy 16 = .ok (.iload 4, 2) := by decide +kernel
theorem dX12_offBy_18 : decode cX12_offBy 18 = .ok (.imul, 1) := by decide +kernel
theorem dX12_offBy_19 : decode cX12_offBy 19 = .ok (.aload_n 0, 1) := by decide +kernel
theorem dX12_offBy_20 : decode cX12_offBy 20 = .ok (.iload 4, 2) := by decide +kernel
theorem dX12_offBy_22 : decode cX12_offBy 22 = .ok (.iload_n 2, 1) := by decide +kernel
theorem dX12_offBy_23 : decode cX12_offBy 23 = .ok (.iload_n 1, 1) := by decide +kernel
theorem dX12_offBy_24 : decode cX12_offBy 24 = .ok (.iconst 2, 1) := by decide +kernel
theorem dX12_offBy_25 : decode cX12_offBy 25 = .ok (.iload 4, 2) := by decide +kernel
theorem dX12_offBy_27 : decode cX12_offBy 27 = .ok (.imul, 1) := by decide +kernel
theorem dX12_offBy_28 : decode cX12_offBy 28 = .ok (.aload_n 0, 1) := by decide +kernel
theorem dX12_offBy_29 : decode cX12_offBy 29 = .ok (.getfield 9, 3) := by decide +kernel
theorem dX12_offBy_32 : decode cX12_offBy 32 = .ok (.isub, 1) := by decide +kernel
theorem dX12_offBy_33 : decode cX12_offBy 33 = .ok (.iconst 1, 1) := by decide +kernel
theorem dX12_offBy_34 : decode cX12_offBy 34 = .ok (.iadd, 1) := by decide +kernel
theorem dX12_offBy_35 : decode cX12_offBy 35 = .ok (.imul, 1) := by decide +kernel
theorem dX12_offBy_36 : decode cX12_offBy 36 = .ok (.iadd, 1) := by decide +kernel
theorem dX12_offBy_37 : decode cX12_offBy 37 = .ok (.invokevirtual 179, 3) := by decide +kernel
theorem dX12_offBy_40 : decode cX12_offBy 40 = .ok (.imul, 1) := by decide +kernel
theorem dX12_offBy_41 : decode cX12_offBy 41 = .ok (.iadd, 1) := by decide +kernel
theorem dX12_offBy_42 : decode cX12_offBy 42 = .ok (.istore_n 3, 1) := by decide +kernel
theorem dX12_offBy_43 : decode cX12_offBy 43 = .ok (.iinc 4 1, 3) := by decide +kernel
theorem dX12_offBy_46 : decode cX12_offBy 46 = .ok (.goto (-41), 3) := by decide +kernel
theorem dX12_offBy_49 : decode cX12_offBy 49 = .ok (.iload_n 3, 1) := by decide +kernel
theorem dX12_offBy_50 : decode cX12_offBy 50 = .ok (.bipush 64, 2) := by decide +kernel
theorem dX12_offBy_52 : decode cX12_offBy 52 = .ok (.aload_n 0, 1) := by decide +kernel
theorem dX12_offBy_53 : decode cX12_offBy 53 = .ok (.invokevirtual 155, 3) := by decide +kernel
theorem dX12_offBy_56 : decode cX12_offBy 56 = .ok (.imul, 1) := by decide +kernel
theorem dX12_offBy_57 : decode cX12_offBy 57 = .ok (.isub, 1) := by decide +kernel
theorem dX12_offBy_58 : decode cX12_offBy 58 = .ok (.ireturn, 1) := by decide +kernel
theorem dX12_isNearer_0 : decode cX12_isNearer 0 = .ok (.iload_n 0, 1) := by decide +kernel
theorem dX12_isNearer_1 : decode cX12_isNearer 1 = .ok (.invokestatic 188, 3) := by decide +kernel
theorem dX12_isNearer_4 : decode cX12_isNearer 4 = .ok (.iload_n 2, 1) := by decide +kernel
theorem dX12_isNearer_5 : decode cX12_isNearer 5 = .ok (.invokestatic 188, 3) := by decide +kernel
theorem dX12_isNearer_8 : decode cX12_isNearer 8 = .ok (.if_icmp .eq 20, 3) := by decide +kernel
theorem dX12_isNearer_11 : decode cX12_isNearer 11 = .ok (.iload_n 0, 1) := by decide +kernel
theorem dX12_isNearer_12 : decode cX12_isNearer 12 = .ok (.invokestatic 188, 3) := by decide +kernel
theorem dX12_isNearer_15 : decode cX12_isNearer 15 = .ok (.iload_n 2, 1) := by decide +kernel
theorem dX12_isNearer_16 : decode cX12_isNearer 16 = .ok (.invokestatic 188, 3) := by decide +kernel
theorem dX12_isNearer_19 : decode cX12_isNearer 19 = .ok (.if_icmp .ge 7, 3) := by decide +kernel
theorem dX12_isNearer_22 : decode cX12_isNearer 22 = .ok (.iconst 1, 1) := by decide +kernel
theorem dX12_isNearer_23 : decode cX12_isNearer 23 = .ok (.goto 4, 3) := by decide +kernel
theorem dX12_isNearer_26 : decode cX12_isNearer 26 = .ok (.iconst 0, 1) := by decide +kernel
theorem dX12_isNearer_27 : decode cX12_isNearer 27 = .ok (.ireturn, 1) := by decide +kernel
theorem dX12_isNearer_28 : decode cX12_isNearer 28 = .ok (.iload_n 1, 1) := by decide +kernel
theorem dX12_isNearer_29 : decode cX12_isNearer 29 = .ok (.invokestatic 188, 3) := by decide +kernel
theorem dX12_isNearer_32 : decode cX12_isNearer 32 = .ok (.iload_n 3, 1) := by decide +kernel
theorem dX12_isNearer_33 : decode cX12_isNearer 33 = .ok (.invokestatic 188, 3) := by decide +kernel
theorem dX12_isNearer_36 : decode cX12_isNearer 36 = .ok (.if_icmp .eq 22, 3) := by decide +kernel
theorem dX12_isNearer_39 : decode cX12_isNearer 39 = .ok (.iload_n 1, 1) := by decide +kernel
theorem dX12_isNearer_40 : decode cX12_isNearer 40 = .ok (.invokestatic 188, 3) := by decide +kernel
theorem dX12_isNearer_43 : decode cX12_isNearer 43 = .ok (.iload_n 3, 1) := by decide +kernel
theorem dX12_isNearer_44 : decode cX12_isNearer 44 = .ok (.invokestatic 188, 3) := by decide +kernel
theorem dX12_isNearer_47 : decode cX12_isNearer 47 = .ok (.if_icmp .ge 7, 3) := by decide +kernel
theorem dX12_isNearer_50 : decode cX12_isNearer 50 = .ok (.iconst 1, 1) := by decide +kernel
theorem dX12_isNearer_51 : decode cX12_isNearer 51 = .ok (.goto 17, 3) := by decide +kernel
theorem dX12_isNearer_54 : decode cX12_isNearer 54 = .ok (.iconst 0, 1) := by decide +kernel
theorem dX12_isNearer_55 : decode cX12_isNearer 55 = .ok (.goto 13, 3) := by decide +kernel
theorem dX12_isNearer_58 : decode cX12_isNearer 58 = .ok (.iload_n 1, 1) := by decide +kernel
theorem dX12_isNearer_59 : decode cX12_isNearer 59 = .ok (.iload_n 3, 1) := by decide +kernel
theorem dX12_isNearer_60 : decode cX12_isNearer 60 = .ok (.if_icmp .ge 7, 3) := by decide +kernel
theorem dX12_isNearer_63 : decode cX12_isNearer 63 = .ok (.iconst 1, 1) := by decide +kernel
theorem dX12_isNearer_64 : decode cX12_isNearer 64 = .ok (.goto 4, 3) := by decide +kernel
theorem dX12_isNearer_67 : decode cX12_isNearer 67 = .ok (.iconst 0, 1) := by decide +kernel
theorem dX12_isNearer_68 : decode cX12_isNearer 68 = .ok (.ireturn, 1) := by decide +kernel
set_option maxRecDepth 20000 in
theorem ggX12_trim_X12_in : GoodIn wsX12_trim wsX12_in := goodIn_r _ [5] rfl (by decide +kernel)
set_option maxRecDepth 20000 in
theorem gX12_trim_X12_in : GoodIn wsX12_trim (va_wsS RX12 101 yX12_in wsX12_in) := goodIn_app (goodIn_of _ (by decide +kernel)) ggX12_trim_X12_in
set_option maxRecDepth 20000 in
theorem ggX12_trim_X12_restOf : GoodIn wsX12_trim wsX12_restOf := goodIn_r _ [9, 10, 11, 12, 13, 14, 15, 16, 17, 18, 4, 19, 20, 21, 22, 23, 24, 25, 26, 27, 28, 29, 30, 31, 32, 33, 34, 35, 36, 37, 38, 39, 40, 41, 42, 43, 44, 45, 59, 60, 61, 62, 63, 64, 65, 66, 67, 68, 69, 70, 71, 72, 73, 74, 75, 76, 77, 78, 79, 80, 81, 82, 83, 84, 85, 86, 87, 88, 89, 90] rfl (by decide +kernel)
set_option maxRecDepth 20000 in
theorem gX12_trim_X12_restOf : GoodIn wsX12_trim (wsV RX12 194 RX12 yX12_restOf wsX12_restOf) := goodIn_app (goodIn_of _ (by decide +kernel)) ggX12_trim_X12_restOf
set_option maxRecDepth 20000 in
theorem ggX12_trim_X12_offBy : GoodIn wsX12_trim wsX12_offBy := goodIn_r _ [49, 11, 34, 35, 36, 4, 37, 10, 38, 39, 14, 40, 41, 42, 43, 44, 45, 50, 51, 52, 53, 20, 21, 54, 22, 55, 23, 24, 25, 26, 27, 28, 29, 59, 60, 61, 62, 63, 64, 65, 66, 67, 68, 69, 70, 71, 72, 73, 74, 75, 76, 77, 78, 79, 80, 81, 82, 83, 84, 85, 86, 87, 88, 89, 90] rfl (by decide +kernel)
set_option maxRecDepth 20000 in
theorem gX12_trim_X12_offBy : GoodIn wsX12_trim (wsV RX12 197 RX12 yX12_offBy wsX12_offBy) := goodIn_app (goodIn_of _ (by decide +kernel)) ggX12_trim_X12_offBy
set_option maxRecDepth 20000 in
theorem ggX12_trim_X12_isNearer : GoodIn wsX12_trim wsX12_isNearer := goodIn_r _ [58, 12, 13, 14, 15] rfl (by decide +kernel)
set_option maxRecDepth 20000 in
theorem gX12_trim_X12_isNearer : GoodIn wsX12_trim (va_wsS RX12 200 yX12_isNearer wsX12_isNearer) := goodIn_app (goodIn_of _ (by decide +kernel)) ggX12_trim_X12_isNearer
theorem dX12_trim_0 : decode cX12_trim 0 = .ok (.iload_n 1, 1) := by decide +kernel
theorem dX12_trim_1 : decode cX12_trim 1 = .ok (.iconst 0, 1) := by decide +kernel
theorem dX12_trim_2 : decode cX12_trim 2 = .ok (.iconst 2, 1) := by decide +kernel
theorem dX12_trim_3 : decode cX12_trim 3 = .ok (.invokestatic 101, 3) := by decide +kernel
theorem dX12_trim_6 : decode cX12_trim 6 = .ok (.ifCond .ne 6, 3) := by decide +kernel
theorem dX12_trim_9 : decode cX12_trim 9 = .ok (.ldc 124, 2) := by decide +kernel
theorem dX12_trim_11 : decode cX12_trim 11 = .ok (.ireturn, 1) := by decide +kernel
theorem dX12_trim_12 : decode cX12_trim 12 = .ok (.ldc 124, 2) := by decide +kernel
theorem dX12_trim_14 : decode cX12_trim 14 = .ok (.istore_n 2, 1) := by decide +kernel
theorem dX12_trim_15 : decode cX12_trim 15 = .ok (.iconst 0, 1) := by decide +kernel
theorem dX12_trim_16 : decode cX12_trim 16 = .ok (.istore_n 3, 1) := by decide +kernel
theorem dX12_trim_17 : decode cX12_trim 17 = .ok (.iconst 0, 1) := by decide +kernel
theorem dX12_trim_18 : decode cX12_trim 18 = .ok (.istore 4, 2) := by decide +kernel
theorem dX12_trim_20 : decode cX12_trim 20 = .ok (.bipush (-20), 2) := by decide +kernel
theorem dX12_trim_22 : decode cX12_trim 22 = .ok (.istore 5, 2) := by decide +kernel
theorem dX12_trim_24 : decode cX12_trim 24 = .ok (.iload 5, 2) := by decide +kernel
theorem dX12_trim_26 : decode cX12_trim 26 = .ok (.bipush 20, 2) := by decide +kernel
theorem dX12_trim_28 : decode cX12_trim 28 = .ok (.if_icmp .gt 69, 3) := by decide +kernel
theorem dX12_trim_31 : decode cX12_trim 31 = .ok (.aload_n 0, 1) := by decide +kernel
theorem dX12_trim_32 : decode cX12_trim 32 = .ok (.iload 5, 2) := by decide +kernel
theorem dX12_trim_34 : decode cX12_trim 34 = .ok (.invokevirtual 194, 3) := by decide +kernel
theorem dX12_trim_37 : decode cX12_trim 37 = .ok (.istore 6, 2) := by decide +kernel
theorem dX12_trim_39 : decode cX12_trim 39 = .ok (.iload 6, 2) := by decide +kernel
theorem dX12_trim_41 : decode cX12_trim 41 = .ok (.bipush (-2), 2) := by decide +kernel
theorem dX12_trim_43 : decode cX12_trim 43 = .ok (.if_icmp .ne 6, 3) := by decide +kernel
theorem dX12_trim_46 : decode cX12_trim 46 = .ok (.goto 45, 3) := by decide +kernel
theorem dX12_trim_49 : decode cX12_trim 49 = .ok (.aload_n 0, 1) := by decide +kernel
theorem dX12_trim_50 : decode cX12_trim 50 = .ok (.iload 5, 2) := by decide +kernel
theorem dX12_trim_52 : decode cX12_trim 52 = .ok (.iload 6, 2) := by decide +kernel
theorem dX12_trim_54 : decode cX12_trim 54 = .ok (.invokevirtual 197, 3) := by decide +kernel
theorem dX12_trim_57 : decode cX12_trim 57 = .ok (.istore 7, 2) := by decide +kernel
theorem dX12_trim_59 : decode cX12_trim 59 = .ok (.iload_n 2, 1) := by decide +kernel
theorem dX12_trim_60 : decode cX12_trim 60 = .ok (.ldc 124, 2) := by decide +kernel
theorem dX12_trim_62 : decode cX12_trim 62 = .ok (.if_icmp .eq 19, 3) := by decide +kernel
theorem dX12_trim_65 : decode cX12_trim 65 = .ok (.iload 7, 2) := by decide +kernel
theorem dX12_trim_67 : decode cX12_trim 67 = .ok (.iload 5, 2) := by decide +kernel
theorem dX12_trim_69 : decode cX12_trim 69 = .ok (.iload 4, 2) := by decide +kernel
theorem dX12_trim_71 : decode cX12_trim 71 = .ok (.iload_n 2, 1) := by decide +kernel
theorem dX12_trim_72 : decode cX12_trim 72 = .ok (.invokestatic 200, 3) := by decide +kernel
theorem dX12_trim_75 : decode cX12_trim 75 = .ok (.ifCond .ne 6, 3) := by decide +kernel
theorem dX12_trim_78 : decode cX12_trim 78 = .ok (.goto 13, 3) := by decide +kernel
theorem dX12_trim_81 : decode cX12_trim 81 = .ok (.iload 5, 2) := by decide +kernel
theorem dX12_trim_83 : decode cX12_trim 83 = .ok (.istore_n 2, 1) := by decide +kernel
theorem dX12_trim_84 : decode cX12_trim 84 = .ok (.iload 6, 2) := by decide +kernel
theorem dX12_trim_86 : decode cX12_trim 86 = .ok (.istore_n 3, 1) := by decide +kernel
theorem dX12_trim_87 : decode cX12_trim 87 = .ok (.iload 7, 2) := by decide +kernel
theorem dX12_trim_89 : decode cX12_trim 89 = .ok (.istore 4, 2) := by decide +kernel
theorem dX12_trim_91 : decode cX12_trim 91 = .ok (.iinc 5 1, 3) := by decide +kernel
theorem dX12_trim_94 : decode cX12_trim 94 = .ok (.goto (-70), 3) := by decide +kernel
theorem dX12_trim_97 : decode cX12_trim 97 = .ok (.iload_n 2, 1) := by decide +kernel
theorem dX12_trim_98 : decode cX12_trim 98 = .ok (.ldc 124, 2) := by decide +kernel
theorem dX12_trim_100 : decode cX12_trim 100 = .ok (.if_icmp .eq 7, 3) := by decide +kernel
theorem dX12_trim_103 : decode cX12_trim 103 = .ok (.iload_n 1, 1) := by decide +kernel
theorem dX12_trim_104 : decode cX12_trim 104 = .ok (.ifCond .ne 7, 3) := by decide +kernel
theorem dX12_trim_107 : decode cX12_trim 107 = .ok (.iload_n 2, 1) := by decide +kernel
theorem dX12_trim_108 : decode cX12_trim 108 = .ok (.goto 14, 3) := by decide +kernel
theorem dX12_trim_111 : decode cX12_trim 111 = .ok (.iload_n 1, 1) := by decide +kernel
theorem dX12_trim_112 : decode cX12_trim 112 = .ok (.iconst 1, 1) := by decide +kernel
theorem dX12_trim_113 : decode cX12_trim 113 = .ok (.if_icmp .ne 7, 3) := by decide +kernel
theorem dX12_trim_116 : decode cX12_trim 116 = .ok (.iload_n 3, 1) := by decide +kernel
theorem dX12_trim_117 : decode cX12_trim 117 = .ok (.goto 5, 3) := by decide +kernel
theorem dX12_trim_120 : decode cX12_trim 120 = .ok (.iload 4, 2) := by decide +kernel
theorem dX12_trim_122 : decode cX12_trim 122 = .ok (.ireturn, 1) := by decide +kernel
set_option maxRecDepth 20000 in
theorem ggX12_off_X12_in : GoodIn wsX12_off wsX12_in := goodIn_r _ [5] rfl (by decide +kernel)
set_option maxRecDepth 20000 in
theorem gX12_off_X12_in : GoodIn wsX12_off (va_wsS RX12 101 yX12_in wsX12_in) := goodIn_app (goodIn_of _ (by decide +kernel)) ggX12_off_X12_in
set_option maxRecDepth 20000 in
theorem ggX12_off_X12_restOf : GoodIn wsX12_off wsX12_restOf := goodIn_r _ [9, 10, 11, 12, 13, 14, 15, 16, 17, 18, 4, 19, 20, 21, 22, 23, 24, 25, 26, 27, 28, 29, 30, 31, 32, 33, 34, 35, 36, 37, 38, 39, 40, 41, 42, 43, 44, 45, 56, 57, 58, 59, 60, 61, 62, 63, 64, 65, 66, 67, 68, 69, 70, 71, 72, 73, 74, 75, 76, 77, 78, 79, 80, 81, 82, 83, 84, 85, 86, 87] rfl (by decide +kernel)
set_option maxRecDepth 20000 in
theorem gX12_off_X12_restOf : GoodIn wsX12_off (wsV RX12 194 RX12 yX12_restOf wsX12_restOf) := goodIn_app (goodIn_of _ (by decide +kernel)) ggX12_off_X12_restOf
set_option maxRecDepth 20000 in
theorem ggX12_off_X12_offBy : GoodIn wsX12_off wsX12_offBy := goodIn_r _ [49, 11, 34, 35, 36, 4, 37, 10, 38, 39, 14, 40, 41, 42, 43, 44, 45, 50, 51, 52, 53, 20, 21, 54, 22, 55, 23, 24, 25, 26, 27, 28, 29, 56, 57, 58, 59, 60, 61, 62, 63, 64, 65, 66, 67, 68, 69, 70, 71, 72, 73, 74, 75, 76, 77, 78, 79, 80, 81, 82, 83, 84, 85, 86, 87] rfl (by decide +kernel)
set_option maxRecDepth 20000 in
theorem gX12_off_X12_offBy : GoodIn wsX12_off (wsV RX12 197 RX12 yX12_offBy wsX12_offBy) := goodIn_app (goodIn_of _ (by decide +kernel)) ggX12_off_X12_offBy
theorem dX12_off_0 : decode cX12_off 0 = .ok (.iload_n 1, 1) := by decide +kernel
theorem dX12_off_1 : decode cX12_off 1 = .ok (.bipush (-20), 2) := by decide +kernel
theorem dX12_off_3 : decode cX12_off 3 = .ok (.bipush 20, 2) := by decide +kernel
theorem dX12_off_5 : decode cX12_off 5 = .ok (.invokestatic 101, 3) := by decide +kernel
theorem dX12_off_8 : decode cX12_off 8 = .ok (.ifCond .ne 6, 3) := by decide +kernel
theorem dX12_off_11 : decode cX12_off 11 = .ok (.ldc 124, 2) := by decide +kernel
theorem dX12_off_13 : decode cX12_off 13 = .ok (.ireturn, 1) := by decide +kernel
theorem dX12_off_14 : decode cX12_off 14 = .ok (.aload_n 0, 1) := by decide +kernel
theorem dX12_off_15 : decode cX12_off 15 = .ok (.iload_n 1, 1) := by decide +kernel
theorem dX12_off_16 : decode cX12_off 16 = .ok (.invokevirtual 194, 3) := by decide +kernel
theorem dX12_off_19 : decode cX12_off 19 = .ok (.istore_n 2, 1) := by decide +kernel
theorem dX12_off_20 : decode cX12_off 20 = .ok (.iload_n 2, 1) := by decide +kernel
theorem dX12_off_21 : decode cX12_off 21 = .ok (.bipush (-2), 2) := by decide +kernel
theorem dX12_off_23 : decode cX12_off 23 = .ok (.if_icmp .ne 8, 3) := by decide +kernel
theorem dX12_off_26 : decode cX12_off 26 = .ok (.ldc 124, 2) := by decide +kernel
theorem dX12_off_28 : decode cX12_off 28 = .ok (.goto 9, 3) := by decide +kernel
theorem dX12_off_31 : decode cX12_off 31 = .ok (.aload_n 0, 1) := by decide +kernel
theorem dX12_off_32 : decode cX12_off 32 = .ok (.iload_n 1, 1) := by decide +kernel
theorem dX12_off_33 : decode cX12_off 33 = .ok (.iload_n 2, 1) := by decide +kernel
theorem dX12_off_34 : decode cX12_off 34 = .ok (.invokevirtual 197, 3) := by decide +kernel
theorem dX12_off_37 : decode cX12_off 37 = .ok (.ireturn, 1) := by decide +kernel
theorem dX12_cube_0 : decode cX12_cube 0 = .ok (.iload_n 0, 1) := by decide +kernel
theorem dX12_cube_1 : decode cX12_cube 1 = .ok (.iload_n 0, 1) := by decide +kernel
theorem dX12_cube_2 : decode cX12_cube 2 = .ok (.imul, 1) := by decide +kernel
theorem dX12_cube_3 : decode cX12_cube 3 = .ok (.iload_n 0, 1) := by decide +kernel
theorem dX12_cube_4 : decode cX12_cube 4 = .ok (.imul, 1) := by decide +kernel
theorem dX12_cube_5 : decode cX12_cube 5 = .ok (.bipush 12, 2) := by decide +kernel
theorem dX12_cube_7 : decode cX12_cube 7 = .ok (.idiv, 1) := by decide +kernel
theorem dX12_cube_8 : decode cX12_cube 8 = .ok (.ireturn, 1) := by decide +kernel
set_option maxRecDepth 20000 in
theorem ggX12_righting_X12_line : GoodIn wsX12_righting wsX12_line := goodIn_r _ [8, 9, 10, 11, 7, 12, 13, 14, 15, 16, 17, 18, 19, 20, 21, 22, 23, 24, 25, 26, 27, 28, 29, 30, 31, 1, 32, 33, 34, 35, 36, 37, 38, 39, 40, 41, 42, 2, 43, 57, 58, 59, 60, 61, 62, 63, 64, 65, 66, 67, 68, 69, 70, 71, 72, 73, 74, 75, 76, 77, 78, 79, 80, 81, 82, 83, 84, 85, 86, 87, 88] rfl (by decide +kernel)
set_option maxRecDepth 20000 in
theorem gX12_righting_X12_line : GoodIn wsX12_righting (wsV RX12 164 RX12 yX12_line wsX12_line) := goodIn_app (goodIn_of _ (by decide +kernel)) ggX12_righting_X12_line
set_option maxRecDepth 20000 in
theorem ggX12_righting_X12_waterOf : GoodIn wsX12_righting wsX12_waterOf := goodIn_r _ [35, 27, 36, 37, 38, 39, 40, 41, 42, 2, 43, 57, 58, 59, 60, 61, 62, 63, 64, 65, 66, 67, 68, 69, 70, 71, 72, 73, 74, 75, 76, 77, 78, 79, 80, 81, 82, 83, 84, 85, 86, 87, 88] rfl (by decide +kernel)
set_option maxRecDepth 20000 in
theorem gX12_righting_X12_waterOf : GoodIn wsX12_righting (wsV RX12 179 RX12 yX12_waterOf wsX12_waterOf) := goodIn_app (goodIn_of _ (by decide +kernel)) ggX12_righting_X12_waterOf
set_option maxRecDepth 20000 in
theorem ggX12_righting_X12_cube : GoodIn wsX12_righting wsX12_cube := goodIn_r _ [46] rfl (by decide +kernel)
set_option maxRecDepth 20000 in
theorem gX12_righting_X12_cube : GoodIn wsX12_righting (va_wsS RX12 204 yX12_cube wsX12_cube) := goodIn_app (goodIn_of _ (by decide +kernel)) ggX12_righting_X12_cube
set_option maxRecDepth 20000 in
theorem ggX12_righting_X12_isSlack : GoodIn wsX12_righting wsX12_isSlack := goodIn_r _ [50, 3, 15, 51, 57, 58, 59, 60, 61, 62, 63, 64, 65, 66, 67, 68, 69, 70, 71, 72, 73, 74, 75, 76, 77, 78, 79, 80, 81, 82, 83, 84, 85, 86, 87, 88] rfl (by decide +kernel)
set_option maxRecDepth 20000 in
theorem gX12_righting_X12_isSlack : GoodIn wsX12_righting (wsV RX12 144 RX12 yX12_isSlack wsX12_isSlack) := goodIn_app (goodIn_of _ (by decide +kernel)) ggX12_righting_X12_isSlack
set_option maxRecDepth 20000 in
theorem ggX12_righting_X12_aloft : GoodIn wsX12_righting wsX12_aloft := goodIn_r _ [55, 14, 56, 15, 16, 17, 18, 7, 19, 20, 21, 22, 57, 58, 59, 60, 61, 62, 63, 64, 65, 66, 67, 68, 69, 70, 71, 72, 73, 74, 75, 76, 77, 78, 79, 80, 81, 82, 83, 84, 85, 86, 87, 88] rfl (by decide +kernel)
set_option maxRecDepth 20000 in
theorem gX12_righting_X12_aloft : GoodIn wsX12_righting (wsV RX12 161 RX12 yX12_aloft wsX12_aloft) := goodIn_app (goodIn_of _ (by decide +kernel)) ggX12_righting_X12_aloft
theorem dX12_righting_0 : decode cX12_righting 0 = .ok (.aload_n 0, 1) := by decide +kernel
theorem dX12_righting_1 : decode cX12_righting 1 = .ok (.invokevirtual 164, 3) := by decide +kernel
theorem dX12_righting_4 : decode cX12_righting 4 = .ok (.istore_n 1, 1) := by decide +kernel
theorem dX12_righting_5 : decode cX12_righting 5 = .ok (.iconst 0, 1) := by decide +kernel
theorem dX12_righting_6 : decode cX12_righting 6 = .ok (.istore_n 2, 1) := by decide +kernel
theorem dX12_righting_7 : decode cX12_righting 7 = .ok (.iconst 0, 1) := by decide +kernel
theorem dX12_righting_8 : decode cX12_righting 8 = .ok (.istore_n 3, 1) := by decide +kernel
theorem dX12_righting_9 : decode cX12_righting 9 = .ok (.iload_n 3, 1) := by decide +kernel
theorem dX12_righting_10 : decode cX12_righting 10 = .ok (.aload_n 0, 1) := by decide +kernel
theorem dX12_righting_11 : decode cX12_righting 11 = .ok (.getfield 9, 3) := by decide +kernel
theorem dX12_righting_14 : decode cX12_righting 14 = .ok (.if_icmp .ge 30, 3) := by decide +kernel
theorem dX12_righting_17 : decode cX12_righting 17 = .ok (.aload_n 0, 1) := by decide +kernel
theorem dX12_righting_18 : decode cX12_righting 18 = .ok (.iload_n 3, 1) := by decide +kernel
theorem dX12_righting_19 : decode cX12_righting 19 = .ok (.iload_n 1, 1) := by decide +kernel
theorem dX12_righting_20 : decode cX12_righting 20 = .ok (.invokevirtual 179, 3) := by decide +kernel
theorem dX12_righting_23 : decode cX12_righting 23 = .ok (.ifCond .le 15, 3) := by decide +kernel
theorem dX12_righting_26 : decode cX12_righting 26 = .ok (.iload_n 2, 1) := by decide +kernel
theorem dX12_righting_27 : decode cX12_righting 27 = .ok (.aload_n 0, 1) := by decide +kernel
theorem dX12_righting_28 : decode cX12_righting 28 = .ok (.getfield 21, 3) := by decide +kernel
theorem dX12_righting_31 : decode cX12_righting 31 = .ok (.iload_n 3, 1) := by decide +kernel
theorem dX12_righting_32 : decode cX12_righting 32 = .ok (.iaload, 1) := by decide +kernel
theorem dX12_righting_33 : decode cX12_righting 33 = .ok (.invokestatic 204, 3) := by decide +kernel
theorem dX12_righting_36 : decode cX12_righting 36 = .ok (.iadd, 1) := by decide +kernel
theorem dX12_righting_37 : decode cX12_righting 37 = .ok (.istore_n 2, 1) := by decide +kernel
theorem dX12_righting_38 : decode cX12_righting 38 = .ok (.iinc 3 1, 3) := by decide +kernel
theorem dX12_righting_41 : decode cX12_righting 41 = .ok (.goto (-32), 3) := by decide +kernel
theorem dX12_righting_44 : decode cX12_righting 44 = .ok (.iconst 0, 1) := by decide +kernel
theorem dX12_righting_45 : decode cX12_righting 45 = .ok (.istore_n 3, 1) := by decide +kernel
theorem dX12_righting_46 : decode cX12_righting 46 = .ok (.iload_n 3, 1) := by decide +kernel
theorem dX12_righting_47 : decode cX12_righting 47 = .ok (.iconst 4, 1) := by decide +kernel
theorem dX12_righting_48 : decode cX12_righting 48 = .ok (.if_icmp .ge 29, 3) := by decide +kernel
theorem dX12_righting_51 : decode cX12_righting 51 = .ok (.aload_n 0, 1) := by decide +kernel
theorem dX12_righting_52 : decode cX12_righting 52 = .ok (.iload_n 3, 1) := by decide +kernel
theorem dX12_righting_53 : decode cX12_righting 53 = .ok (.invokevirtual 144, 3) := by decide +kernel
theorem dX12_righting_56 : decode cX12_righting 56 = .ok (.ifCond .eq 15, 3) := by decide +kernel
theorem dX12_righting_59 : decode cX12_righting 59 = .ok (.iload_n 2, 1) := by decide +kernel
theorem dX12_righting_60 : decode cX12_righting 60 = .ok (.aload_n 0, 1) := by decide +kernel
theorem dX12_righting_61 : decode cX12_righting 61 = .ok (.getfield 49, 3) := by decide +kernel
theorem dX12_righting_64 : decode cX12_righting 64 = .ok (.iload_n 3, 1) := by decide +kernel
theorem dX12_righting_65 : decode cX12_righting 65 = .ok (.iaload, 1) := by decide +kernel
theorem dX12_righting_66 : decode cX12_righting 66 = .ok (.invokestatic 204, 3) := by decide +kernel
theorem dX12_righting_69 : decode cX12_righting 69 = .ok (.isub, 1) := by decide +kernel
theorem dX12_righting_70 : decode cX12_righting 70 = .ok (.istore_n 2, 1) := by decide +kernel
theorem dX12_righting_71 : decode cX12_righting 71 = .ok (.iinc 3 1, 3) := by decide +kernel
theorem dX12_righting_74 : decode cX12_righting 74 = .ok (.goto (-28), 3) := by decide +kernel
theorem dX12_righting_77 : decode cX12_righting 77 = .ok (.iload_n 2, 1) := by decide +kernel
theorem dX12_righting_78 : decode cX12_righting 78 = .ok (.aload_n 0, 1) := by decide +kernel
theorem dX12_righting_79 : decode cX12_righting 79 = .ok (.invokevirtual 161, 3) := by decide +kernel
theorem dX12_righting_82 : decode cX12_righting 82 = .ok (.bipush 16, 2) := by decide +kernel
theorem dX12_righting_84 : decode cX12_righting 84 = .ok (.idiv, 1) := by decide +kernel
theorem dX12_righting_85 : decode cX12_righting 85 = .ok (.isub, 1) := by decide +kernel
theorem dX12_righting_86 : decode cX12_righting 86 = .ok (.ireturn, 1) := by decide +kernel
set_option maxRecDepth 20000 in
theorem ggX12_isUpright_X12_line : GoodIn wsX12_isUpright wsX12_line := goodIn_r _ [5, 6, 7, 8, 4, 9, 10, 11, 12, 13, 14, 15, 16, 17, 18, 19, 20, 21, 22, 23, 24, 25, 26, 27, 28, 29, 30, 31, 32, 33, 34, 35, 36, 37, 38, 39, 40, 41, 42, 61, 62, 63, 64, 65, 66, 67, 68, 69, 70, 71, 72, 73, 74, 75, 76, 77, 78, 79, 80, 81, 82, 83, 84, 85, 86, 87, 88, 89, 90, 91, 92] rfl (by decide +kernel)
set_option maxRecDepth 20000 in
theorem gX12_isUpright_X12_line : GoodIn wsX12_isUpright (wsV RX12 164 RX12 yX12_line wsX12_line) := goodIn_app (goodIn_of _ (by decide +kernel)) ggX12_isUpright_X12_line
set_option maxRecDepth 20000 in
theorem ggX12_isUpright_X12_righting : GoodIn wsX12_isUpright wsX12_righting := goodIn_r _ [46, 29, 41, 47, 1, 2, 3, 4, 5, 6, 7, 8, 9, 10, 11, 12, 13, 14, 15, 16, 17, 18, 19, 20, 21, 22, 23, 24, 25, 26, 27, 28, 30, 31, 32, 33, 34, 35, 36, 37, 38, 39, 40, 42, 48, 49, 50, 51, 52, 53, 54, 55, 56, 57, 58, 59, 60, 61, 62, 63, 64, 65, 66, 67, 68, 69, 70, 71, 72, 73, 74, 75, 76, 77, 78, 79, 80, 81, 82, 83, 84, 85, 86, 87, 88, 89, 90, 91, 92] rfl (by decide +kernel)
set_option maxRecDepth 20000 in
theorem gX12_isUpright_X12_righting : GoodIn wsX12_isUpright (wsV RX12 167 RX12 yX12_righting wsX12_righting) := goodIn_app (goodIn_of _ (by decide +kernel)) ggX12_isUpright_X12_righting
theorem dX12_isUpright_0 : decode cX12_isUpright 0 = .ok (.aload_n 0, 1) := by decide +kernel
theorem dX12_isUpright_1 : decode cX12_isUpright 1 = .ok (.invokevirtual 164, 3) := by decide +kernel
theorem dX12_isUpright_4 : decode cX12_isUpright 4 = .ok (.bipush (-2), 2) := by decide +kernel
theorem dX12_isUpright_6 : decode cX12_isUpright 6 = .ok (.if_icmp .eq 14, 3) := by decide +kernel
theorem dX12_isUpright_9 : decode cX12_isUpright 9 = .ok (.aload_n 0, 1) := by decide +kernel
theorem dX12_isUpright_10 : decode cX12_isUpright 10 = .ok (.invokevirtual 167, 3) := by decide +kernel
theorem dX12_isUpright_13 : decode cX12_isUpright 13 = .ok (.ifCond .le 7, 3) := by decide +kernel
theorem dX12_isUpright_16 : decode cX12_isUpright 16 = .ok (.iconst 1, 1) := by decide +kernel
theorem dX12_isUpright_17 : decode cX12_isUpright 17 = .ok (.goto 4, 3) := by decide +kernel
theorem dX12_isUpright_20 : decode cX12_isUpright 20 = .ok (.iconst 0, 1) := by decide +kernel
theorem dX12_isUpright_21 : decode cX12_isUpright 21 = .ok (.ireturn, 1) := by decide +kernel
set_option maxRecDepth 20000 in
theorem ggX12_heelNow_X12_aside : GoodIn wsX12_heelNow wsX12_aside := goodIn_r _ [5, 6, 7, 8, 9, 10, 4, 11, 12, 13, 14, 66, 67, 68, 69, 70, 71, 72, 73, 74, 75, 76, 77, 78, 79, 80, 81, 82, 83, 84, 85, 86, 87, 88, 89, 90, 91, 92, 93, 94, 95, 96, 97] rfl (by decide +kernel)
set_option maxRecDepth 20000 in
theorem gX12_heelNow_X12_aside : GoodIn wsX12_heelNow (wsV RX12 158 RX12 yX12_aside wsX12_aside) := goodIn_app (goodIn_of _ (by decide +kernel)) ggX12_heelNow_X12_aside
set_option maxRecDepth 20000 in
theorem ggX12_heelNow_X12_righting : GoodIn wsX12_heelNow wsX12_righting := goodIn_r _ [18, 19, 20, 21, 22, 23, 24, 4, 25, 26, 27, 28, 29, 30, 6, 31, 8, 9, 10, 11, 12, 13, 14, 32, 33, 34, 35, 36, 37, 38, 39, 40, 41, 42, 43, 44, 45, 46, 47, 48, 49, 50, 51, 52, 53, 54, 55, 56, 57, 58, 59, 60, 61, 62, 63, 64, 65, 66, 67, 68, 69, 70, 71, 72, 73, 74, 75, 76, 77, 78, 79, 80, 81, 82, 83, 84, 85, 86, 87, 88, 89, 90, 91, 92, 93, 94, 95, 96, 97] rfl (by decide +kernel)
set_option maxRecDepth 20000 in
theorem gX12_heelNow_X12_righting : GoodIn wsX12_heelNow (wsV RX12 167 RX12 yX12_righting wsX12_righting) := goodIn_app (goodIn_of _ (by decide +kernel)) ggX12_heelNow_X12_righting
theorem dX12_heelNow_0 : decode cX12_heelNow 0 = .ok (.bipush 64, 2) := by decide +kernel
theorem dX12_heelNow_2 : decode cX12_heelNow 2 = .ok (.aload_n 0, 1) := by decide +kernel
theorem dX12_heelNow_3 : decode cX12_heelNow 3 = .ok (.invokevirtual 158, 3) := by decide +kernel
theorem dX12_heelNow_6 : decode cX12_heelNow 6 = .ok (.imul, 1) := by decide +kernel
theorem dX12_heelNow_7 : decode cX12_heelNow 7 = .ok (.aload_n 0, 1) := by decide +kernel
theorem dX12_heelNow_8 : decode cX12_heelNow 8 = .ok (.invokevirtual 167, 3) := by decide +kernel
theorem dX12_heelNow_11 : decode cX12_heelNow 11 = .ok (.idiv, 1) := by decide +kernel
theorem dX12_heelNow_12 : decode cX12_heelNow 12 = .ok (.ireturn, 1) := by decide +kernel
set_option maxRecDepth 20000 in
theorem ggX12_heelBehind_X12_weighs : GoodIn wsX12_heelBehind wsX12_weighs := goodIn_r _ [14, 15, 16, 17, 66, 67, 68, 69, 70, 71, 72, 73, 74, 75, 76, 77, 78, 79, 80, 81, 82, 83, 84, 85, 86, 87, 88, 89, 90, 91, 92, 93, 94, 95, 96, 97] rfl (by decide +kernel)
set_option maxRecDepth 20000 in
theorem gX12_heelBehind_X12_weighs : GoodIn wsX12_heelBehind (wsV RX12 121 RX12 yX12_weighs wsX12_weighs) := goodIn_app (goodIn_of _ (by decide +kernel)) ggX12_heelBehind_X12_weighs
set_option maxRecDepth 20000 in
theorem ggX12_heelBehind_X12_rolls : GoodIn wsX12_heelBehind wsX12_rolls := goodIn_r _ [21, 17, 66, 67, 68, 69, 70, 71, 72, 73, 74, 75, 76, 77, 78, 79, 80, 81, 82, 83, 84, 85, 86, 87, 88, 89, 90, 91, 92, 93, 94, 95, 96, 97] rfl (by decide +kernel)
set_option maxRecDepth 20000 in
theorem gX12_heelBehind_X12_rolls : GoodIn wsX12_heelBehind (wsV RX12 133 RX12 yX12_rolls wsX12_rolls) := goodIn_app (goodIn_of _ (by decide +kernel)) ggX12_heelBehind_X12_rolls
set_option maxRecDepth 20000 in
theorem ggX12_heelBehind_X12_righting : GoodIn wsX12_heelBehind wsX12_righting := goodIn_r _ [25, 26, 27, 28, 29, 30, 31, 13, 32, 33, 34, 35, 36, 37, 1, 38, 10, 11, 12, 14, 15, 16, 17, 39, 40, 41, 42, 43, 44, 45, 46, 47, 48, 49, 50, 51, 3, 4, 5, 6, 7, 8, 9, 52, 53, 54, 55, 56, 57, 58, 59, 60, 61, 62, 63, 64, 65, 66, 67, 68, 69, 70, 71, 72, 73, 74, 75, 76, 77, 78, 79, 80, 81, 82, 83, 84, 85, 86, 87, 88, 89, 90, 91, 92, 93, 94, 95, 96, 97] rfl (by decide +kernel)
set_option maxRecDepth 20000 in
theorem gX12_heelBehind_X12_righting : GoodIn wsX12_heelBehind (wsV RX12 167 RX12 yX12_righting wsX12_righting) := goodIn_app (goodIn_of _ (by decide +kernel)) ggX12_heelBehind_X12_righting
theorem dX12_heelBehind_0 : decode cX12_heelBehind 0 = .ok (.iconst 0, 1) := by decide +kernel
theorem dX12_heelBehind_1 : decode cX12_heelBehind 1 = .ok (.istore_n 2, 1) := by decide +kernel
theorem dX12_heelBehind_2 : decode cX12_heelBehind 2 = .ok (.iconst 0, 1) := by decide +kernel
theorem dX12_heelBehind_3 : decode cX12_heelBehind 3 = .ok (.istore_n 3, 1) := by decide +kernel
theorem dX12_heelBehind_4 : decode cX12_heelBehind 4 = .ok (.iload_n 3, 1) := by decide +kernel
theorem dX12_heelBehind_5 : decode cX12_heelBehind 5 = .ok (.aload_n 0, 1) := by decide +kernel
theorem dX12_heelBehind_6 : decode cX12_heelBehind 6 = .ok (.getfield 98, 3) := by decide +kernel
theorem dX12_heelBehind_9 : decode cX12_heelBehind 9 = .ok (.if_icmp .ge 41, 3) := by decide +kernel
theorem dX12_heelBehind_12 : decode cX12_heelBehind 12 = .ok (.iload_n 2, 1) := by decide +kernel
theorem dX12_heelBehind_13 : decode cX12_heelBehind 13 = .ok (.aload_n 0, 1) := by decide +kernel
theorem dX12_heelBehind_14 : decode cX12_heelBehind 14 = .ok (.iload_n 3, 1) := by decide +kernel
theorem dX12_heelBehind_15 : decode cX12_heelBehind 15 = .ok (.invokevirtual 121, 3) := by decide +kernel
theorem dX12_heelBehind_18 : decode cX12_heelBehind 18 = .ok (.bipush (-20), 2) := by decide +kernel
theorem dX12_heelBehind_20 : decode cX12_heelBehind 20 = .ok (.bipush 20, 2) := by decide +kernel
theorem dX12_heelBehind_22 : decode cX12_heelBehind 22 = .ok (.aload_n 0, 1) := by decide +kernel
theorem dX12_heelBehind_23 : decode cX12_heelBehind 23 = .ok (.getfield 40, 3) := by decide +kernel
theorem dX12_heelBehind_26 : decode cX12_heelBehind 26 = .ok (.iload_n 3, 1) := by decide +kernel
theorem dX12_heelBehind_27 : decode cX12_heelBehind 27 = .ok (.iaload, 1) := by decide +kernel
theorem dX12_heelBehind_28 : decode cX12_heelBehind 28 = .ok (.aload_n 0, 1) := by decide +kernel
theorem dX12_heelBehind_29 : decode cX12_heelBehind 29 = .ok (.iload_n 3, 1) := by decide +kernel
theorem dX12_heelBehind_30 : decode cX12_heelBehind 30 = .ok (.iload_n 1, 1) := by decide +kernel
theorem dX12_heelBehind_31 : decode cX12_heelBehind 31 = .ok (.invokevirtual 133, 3) := by decide +kernel
theorem dX12_heelBehind_34 : decode cX12_heelBehind 34 = .ok (.iadd, 1) := by decide +kernel
theorem dX12_heelBehind_35 : decode cX12_heelBehind 35 = .ok (.invokestatic 147, 3) := by decide +kernel
theorem dX12_heelBehind_38 : decode cX12_heelBehind 38 = .ok (.invokestatic 176, 3) := by decide +kernel
theorem dX12_heelBehind_41 : decode cX12_heelBehind 41 = .ok (.imul, 1) := by decide +kernel
theorem dX12_heelBehind_42 : decode cX12_heelBehind 42 = .ok (.iadd, 1) := by decide +kernel
theorem dX12_heelBehind_43 : decode cX12_heelBehind 43 = .ok (.istore_n 2, 1) := by decide +kernel
theorem dX12_heelBehind_44 : decode cX12_heelBehind 44 = .ok (.iinc 3 1, 3) := by decide +kernel
theorem dX12_heelBehind_47 : decode cX12_heelBehind 47 = .ok (.goto (-43), 3) := by decide +kernel
theorem dX12_heelBehind_50 : decode cX12_heelBehind 50 = .ok (.bipush 64, 2) := by decide +kernel
theorem dX12_heelBehind_52 : decode cX12_heelBehind 52 = .ok (.iload_n 2, 1) := by decide +kernel
theorem dX12_heelBehind_53 : decode cX12_heelBehind 53 = .ok (.imul, 1) := by decide +kernel
theorem dX12_heelBehind_54 : decode cX12_heelBehind 54 = .ok (.aload_n 0, 1) := by decide +kernel
theorem dX12_heelBehind_55 : decode cX12_heelBehind 55 = .ok (.invokevirtual 167, 3) := by decide +kernel
theorem dX12_heelBehind_58 : decode cX12_heelBehind 58 = .ok (.idiv, 1) := by decide +kernel
theorem dX12_heelBehind_59 : decode cX12_heelBehind 59 = .ok (.ireturn, 1) := by decide +kernel
set_option maxRecDepth 20000 in
theorem ggX12_heel_X12_in : GoodIn wsX12_heel wsX12_in := goodIn_r _ [5] rfl (by decide +kernel)
set_option maxRecDepth 20000 in
theorem gX12_heel_X12_in : GoodIn wsX12_heel (va_wsS RX12 101 yX12_in wsX12_in) := goodIn_app (goodIn_of _ (by decide +kernel)) ggX12_heel_X12_in
set_option maxRecDepth 20000 in
theorem ggX12_heel_X12_isUpright : GoodIn wsX12_heel wsX12_isUpright := goodIn_r _ [9, 10, 11, 12, 4, 13, 14, 15, 16, 17, 18, 19, 20, 21, 22, 23, 24, 25, 26, 27, 28, 29, 30, 31, 32, 33, 34, 35, 36, 37, 38, 39, 40, 41, 42, 43, 44, 45, 46, 47, 48, 49, 50, 51, 52, 53, 54, 55, 56, 57, 58, 59, 60, 61, 62, 63, 64, 65, 66, 67, 68, 86, 87, 88, 89, 90, 91, 92, 93, 94, 95, 96, 97, 98, 99, 100, 101, 102, 103, 104, 105, 106, 107, 108, 109, 110, 111, 112, 113, 114, 115, 116, 117] rfl (by decide +kernel)
set_option maxRecDepth 20000 in
theorem gX12_heel_X12_isUpright : GoodIn wsX12_heel (wsV RX12 125 RX12 yX12_isUpright wsX12_isUpright) := goodIn_app (goodIn_of _ (by decide +kernel)) ggX12_heel_X12_isUpright
set_option maxRecDepth 20000 in
theorem ggX12_heel_X12_heelNow : GoodIn wsX12_heel wsX12_heelNow := goodIn_r _ [72, 73, 74, 75, 4, 76, 19, 77, 21, 22, 23, 24, 25, 26, 27, 51, 52, 53, 54, 37, 49, 55, 10, 11, 12, 13, 14, 15, 16, 17, 18, 20, 28, 29, 30, 31, 32, 33, 34, 35, 36, 38, 39, 40, 41, 42, 43, 44, 45, 46, 47, 48, 50, 56, 57, 58, 59, 60, 61, 62, 63, 64, 65, 66, 67, 68, 86, 87, 88, 89, 90, 91, 92, 93, 94, 95, 96, 97, 98, 99, 100, 101, 102, 103, 104, 105, 106, 107, 108, 109, 110, 111, 112, 113, 114, 115, 116, 117] rfl (by decide +kernel)
set_option maxRecDepth 20000 in
theorem gX12_heel_X12_heelNow : GoodIn wsX12_heel (wsV RX12 129 RX12 yX12_heelNow wsX12_heelNow) := goodIn_app (goodIn_of _ (by decide +kernel)) ggX12_heel_X12_heelNow
set_option maxRecDepth 20000 in
theorem ggX12_heel_X12_heelBehind : GoodIn wsX12_heel wsX12_heelBehind := goodIn_r _ [81, 19, 77, 42, 43, 44, 45, 46, 47, 48, 21, 22, 23, 4, 24, 25, 26, 27, 82, 83, 84, 85, 51, 52, 53, 54, 37, 49, 55, 10, 11, 12, 13, 14, 15, 16, 17, 18, 20, 28, 29, 30, 31, 32, 33, 34, 35, 36, 38, 39, 40, 41, 50, 56, 57, 58, 59, 60, 61, 62, 63, 64, 65, 66, 67, 68, 86, 87, 88, 89, 90, 91, 92, 93, 94, 95, 96, 97, 98, 99, 100, 101, 102, 103, 104, 105, 106, 107, 108, 109, 110, 111, 112, 113, 114, 115, 116, 117] rfl (by decide +kernel)
set_option maxRecDepth 20000 in
theorem gX12_heel_X12_heelBehind : GoodIn wsX12_heel (wsV RX12 207 RX12 yX12_heelBehind wsX12_heelBehind) := goodIn_app (goodIn_of _ (by decide +kernel)) ggX12_heel_X12_heelBehind
theorem dX12_heel_0 : decode cX12_heel 0 = .ok (.iload_n 1, 1) := by decide +kernel
theorem dX12_heel_1 : decode cX12_heel 1 = .ok (.iconst 0, 1) := by decide +kernel
theorem dX12_heel_2 : decode cX12_heel 2 = .ok (.bipush 20, 2) := by decide +kernel
theorem dX12_heel_4 : decode cX12_heel 4 = .ok (.invokestatic 101, 3) := by decide +kernel
theorem dX12_heel_7 : decode cX12_heel 7 = .ok (.ifCond .eq 10, 3) := by decide +kernel
theorem dX12_heel_10 : decode cX12_heel 10 = .ok (.aload_n 0, 1) := by decide +kernel
theorem dX12_heel_11 : decode cX12_heel 11 = .ok (.invokevirtual 125, 3) := by decide +kernel
theorem dX12_heel_14 : decode cX12_heel 14 = .ok (.ifCond .ne 6, 3) := by decide +kernel
theorem dX12_heel_17 : decode cX12_heel 17 = .ok (.ldc 124, 2) := by decide +kernel
theorem dX12_heel_19 : decode cX12_heel 19 = .ok (.ireturn, 1) := by decide +kernel
theorem dX12_heel_20 : decode cX12_heel 20 = .ok (.aload_n 0, 1) := by decide +kernel
theorem dX12_heel_21 : decode cX12_heel 21 = .ok (.invokevirtual 129, 3) := by decide +kernel
theorem dX12_heel_24 : decode cX12_heel 24 = .ok (.istore_n 2, 1) := by decide +kernel
theorem dX12_heel_25 : decode cX12_heel 25 = .ok (.iconst 0, 1) := by decide +kernel
theorem dX12_heel_26 : decode cX12_heel 26 = .ok (.istore_n 3, 1) := by decide +kernel
theorem dX12_heel_27 : decode cX12_heel 27 = .ok (.iload_n 3, 1) := by decide +kernel
theorem dX12_heel_28 : decode cX12_heel 28 = .ok (.iload_n 1, 1) := by decide +kernel
theorem dX12_heel_29 : decode cX12_heel 29 = .ok (.if_icmp .ge 15, 3) := by decide +kernel
theorem dX12_heel_32 : decode cX12_heel 32 = .ok (.aload_n 0, 1) := by decide +kernel
theorem dX12_heel_33 : decode cX12_heel 33 = .ok (.iload_n 2, 1) := by decide +kernel
theorem dX12_heel_34 : decode cX12_heel 34 = .ok (.invokevirtual 207, 3) := by decide +kernel
theorem dX12_heel_37 : decode cX12_heel 37 = .ok (.istore_n 2, 1) := by decide +kernel
theorem dX12_heel_38 : decode cX12_heel 38 = .ok (.iinc 3 1, 3) := by decide +kernel
theorem dX12_heel_41 : decode cX12_heel 41 = .ok (.goto (-14), 3) := by decide +kernel
theorem dX12_heel_44 : decode cX12_heel 44 = .ok (.iload_n 2, 1) := by decide +kernel
theorem dX12_heel_45 : decode cX12_heel 45 = .ok (.ireturn, 1) := by decide +kernel
set_option maxRecDepth 20000 in
theorem ggX12_steady_X12_isUpright : GoodIn wsX12_steady wsX12_isUpright := goodIn_r _ [5, 6, 7, 8, 4, 9, 10, 11, 12, 13, 14, 15, 16, 17, 18, 19, 20, 21, 22, 23, 24, 25, 26, 27, 28, 29, 30, 31, 32, 33, 34, 35, 36, 37, 38, 39, 40, 41, 42, 43, 44, 45, 46, 47, 48, 49, 50, 51, 52, 53, 54, 55, 56, 57, 58, 59, 60, 61, 62, 63, 64, 82, 83, 84, 85, 86, 87, 88, 89, 90, 91, 92, 93, 94, 95, 96, 97, 98, 99, 100, 101, 102, 103, 104, 105, 106, 107, 108, 109, 110, 111, 112, 113] rfl (by decide +kernel)
set_option maxRecDepth 20000 in
theorem gX12_steady_X12_isUpright : GoodIn wsX12_steady (wsV RX12 125 RX12 yX12_isUpright wsX12_isUpright) := goodIn_app (goodIn_of _ (by decide +kernel)) ggX12_steady_X12_isUpright
set_option maxRecDepth 20000 in
theorem ggX12_steady_X12_heelNow : GoodIn wsX12_steady wsX12_heelNow := goodIn_r _ [68, 69, 70, 71, 4, 72, 15, 73, 17, 18, 19, 20, 21, 22, 23, 47, 48, 49, 50, 33, 45, 51, 6, 7, 8, 9, 10, 11, 12, 13, 14, 16, 24, 25, 26, 27, 28, 29, 30, 31, 32, 34, 35, 36, 37, 38, 39, 40, 41, 42, 43, 44, 46, 52, 53, 54, 55, 56, 57, 58, 59, 60, 61, 62, 63, 64, 82, 83, 84, 85, 86, 87, 88, 89, 90, 91, 92, 93, 94, 95, 96, 97, 98, 99, 100, 101, 102, 103, 104, 105, 106, 107, 108, 109, 110, 111, 112, 113] rfl (by decide +kernel)
set_option maxRecDepth 20000 in
theorem gX12_steady_X12_heelNow : GoodIn wsX12_steady (wsV RX12 129 RX12 yX12_heelNow wsX12_heelNow) := goodIn_app (goodIn_of _ (by decide +kernel)) ggX12_steady_X12_heelNow
set_option maxRecDepth 20000 in
theorem ggX12_steady_X12_heelBehind : GoodIn wsX12_steady wsX12_heelBehind := goodIn_r _ [77, 15, 73, 38, 39, 40, 41, 42, 43, 44, 17, 18, 19, 4, 20, 21, 22, 23, 78, 79, 80, 81, 47, 48, 49, 50, 33, 45, 51, 6, 7, 8, 9, 10, 11, 12, 13, 14, 16, 24, 25, 26, 27, 28, 29, 30, 31, 32, 34, 35, 36, 37, 46, 52, 53, 54, 55, 56, 57, 58, 59, 60, 61, 62, 63, 64, 82, 83, 84, 85, 86, 87, 88, 89, 90, 91, 92, 93, 94, 95, 96, 97, 98, 99, 100, 101, 102, 103, 104, 105, 106, 107, 108, 109, 110, 111, 112, 113] rfl (by decide +kernel)
set_option maxRecDepth 20000 in
theorem gX12_steady_X12_heelBehind : GoodIn wsX12_steady (wsV RX12 207 RX12 yX12_heelBehind wsX12_heelBehind) := goodIn_app (goodIn_of _ (by decide +kernel)) ggX12_steady_X12_heelBehind
theorem dX12_steady_0 : decode cX12_steady 0 = .ok (.aload_n 0, 1) := by decide +kernel
theorem dX12_steady_1 : decode cX12_steady 1 = .ok (.invokevirtual 125, 3) := by decide +kernel
theorem dX12_steady_4 : decode cX12_steady 4 = .ok (.ifCond .ne 6, 3) := by decide +kernel
theorem dX12_steady_7 : decode cX12_steady 7 = .ok (.bipush (-2), 2) := by decide +kernel
theorem dX12_steady_9 : decode cX12_steady 9 = .ok (.ireturn, 1) := by decide +kernel
theorem dX12_steady_10 : decode cX12_steady 10 = .ok (.aload_n 0, 1) := by decide +kernel
theorem dX12_steady_11 : decode cX12_steady 11 = .ok (.invokevirtual 129, 3) := by decide +kernel
theorem dX12_steady_14 : decode cX12_steady 14 = .ok (.istore_n 1, 1) := by decide +kernel
theorem dX12_steady_15 : decode cX12_steady 15 = .ok (.iconst 0, 1) := by decide +kernel
theorem dX12_steady_16 : decode cX12_steady 16 = .ok (.istore_n 2, 1) := by decide +kernel
theorem dX12_steady_17 : decode cX12_steady 17 = .ok (.iload_n 2, 1) := by decide +kernel
theorem dX12_steady_18 : decode cX12_steady 18 = .ok (.bipush 20, 2) := by decide +kernel
theorem dX12_steady_20 : decode cX12_steady 20 = .ok (.if_icmp .gt 24, 3) := by decide +kernel
theorem dX12_steady_23 : decode cX12_steady 23 = .ok (.aload_n 0, 1) := by decide +kernel
theorem dX12_steady_24 : decode cX12_steady 24 = .ok (.iload_n 1, 1) := by decide +kernel
theorem dX12_steady_25 : decode cX12_steady 25 = .ok (.invokevirtual 207, 3) := by decide +kernel
theorem dX12_steady_28 : decode cX12_steady 28 = .ok (.istore_n 3, 1) := by decide +kernel
theorem dX12_steady_29 : decode cX12_steady 29 = .ok (.iload_n 3, 1) := by decide +kernel
theorem dX12_steady_30 : decode cX12_steady 30 = .ok (.iload_n 1, 1) := by decide +kernel
theorem dX12_steady_31 : decode cX12_steady 31 = .ok (.if_icmp .ne 5, 3) := by decide +kernel
theorem dX12_steady_34 : decode cX12_steady 34 = .ok (.iload_n 2, 1) := by decide +kernel
theorem dX12_steady_35 : decode cX12_steady 35 = .ok (.ireturn, 1) := by decide +kernel
theorem dX12_steady_36 : decode cX12_steady 36 = .ok (.iload_n 3, 1) := by decide +kernel
theorem dX12_steady_37 : decode cX12_steady 37 = .ok (.istore_n 1, 1) := by decide +kernel
theorem dX12_steady_38 : decode cX12_steady 38 = .ok (.iinc 2 1, 3) := by decide +kernel
theorem dX12_steady_41 : decode cX12_steady 41 = .ok (.goto (-24), 3) := by decide +kernel
theorem dX12_steady_44 : decode cX12_steady 44 = .ok (.bipush (-2), 2) := by decide +kernel
theorem dX12_steady_46 : decode cX12_steady 46 = .ok (.ireturn, 1) := by decide +kernel
set_option maxRecDepth 20000 in
theorem ggX12_grounded_X12_in : GoodIn wsX12_grounded wsX12_in := goodIn_r _ [4] rfl (by decide +kernel)
set_option maxRecDepth 20000 in
theorem gX12_grounded_X12_in : GoodIn wsX12_grounded (va_wsS RX12 101 yX12_in wsX12_in) := goodIn_app (goodIn_of _ (by decide +kernel)) ggX12_grounded_X12_in
set_option maxRecDepth 20000 in
theorem ggX12_grounded_X12_line : GoodIn wsX12_grounded wsX12_line := goodIn_r _ [8, 9, 10, 11, 3, 12, 13, 14, 15, 16, 17, 18, 19, 20, 21, 22, 23, 24, 25, 26, 27, 28, 29, 30, 31, 32, 33, 34, 35, 36, 37, 38, 39, 40, 41, 42, 43, 44, 45, 50, 51, 52, 53, 54, 55, 56, 57, 58, 59, 60, 61, 62, 63, 64, 65, 66, 67, 68, 69, 70, 71, 72, 73, 74, 75, 76, 77, 78, 79, 80, 81] rfl (by decide +kernel)
set_option maxRecDepth 20000 in
theorem gX12_grounded_X12_line : GoodIn wsX12_grounded (wsV RX12 164 RX12 yX12_line wsX12_line) := goodIn_app (goodIn_of _ (by decide +kernel)) ggX12_grounded_X12_line
set_option maxRecDepth 20000 in
theorem ggX12_grounded_X12_leastRise : GoodIn wsX12_grounded wsX12_leastRise := goodIn_r _ [49, 45, 32, 37, 38, 39, 40, 50, 51, 52, 53, 54, 55, 56, 57, 58, 59, 60, 61, 62, 63, 64, 65, 66, 67, 68, 69, 70, 71, 72, 73, 74, 75, 76, 77, 78, 79, 80, 81] rfl (by decide +kernel)
set_option maxRecDepth 20000 in
theorem gX12_grounded_X12_leastRise : GoodIn wsX12_grounded (wsV RX12 173 RX12 yX12_leastRise wsX12_leastRise) := goodIn_app (goodIn_of _ (by decide +kernel)) ggX12_grounded_X12_leastRise
theorem dX12_grounded_0 : decode cX12_grounded 0 = .ok (.iload_n 1, 1) := by decide +kernel
theorem dX12_grounded_1 : decode cX12_grounded 1 = .ok (.iconst 0, 1) := by decide +kernel
theorem dX12_grounded_2 : decode cX12_grounded 2 = .ok (.sipush 9999, 3) := by decide +kernel
theorem dX12_grounded_5 : decode cX12_grounded 5 = .ok (.invokestatic 101, 3) := by decide +kernel
theorem dX12_grounded_8 : decode cX12_grounded 8 = .ok (.ifCond .ne 5, 3) := by decide +kernel
theorem dX12_grounded_11 : decode cX12_grounded 11 = .ok (.iconst (-1), 1) := by decide +kernel
theorem dX12_grounded_12 : decode cX12_grounded 12 = .ok (.ireturn, 1) := by decide +kernel
theorem dX12_grounded_13 : decode cX12_grounded 13 = .ok (.aload_n 0, 1) := by decide +kernel
theorem dX12_grounded_14 : decode cX12_grounded 14 = .ok (.invokevirtual 164, 3) := by decide +kernel
theorem dX12_grounded_17 : decode cX12_grounded 17 = .ok (.istore_n 2, 1) := by decide +kernel
theorem dX12_grounded_18 : decode cX12_grounded 18 = .ok (.iload_n 2, 1) := by decide +kernel
theorem dX12_grounded_19 : decode cX12_grounded 19 = .ok (.bipush (-2), 2) := by decide +kernel
theorem dX12_grounded_21 : decode cX12_grounded 21 = .ok (.if_icmp .ne 6, 3) := by decide +kernel
theorem dX12_grounded_24 : decode cX12_grounded 24 = .ok (.bipush (-5), 2) := by decide +kernel
theorem dX12_grounded_26 : decode cX12_grounded 26 = .ok (.ireturn, 1) := by decide +kernel
theorem dX12_grounded_27 : decode cX12_grounded 27 = .ok (.iload_n 2, 1) := by decide +kernel
theorem dX12_grounded_28 : decode cX12_grounded 28 = .ok (.bipush 64, 2) := by decide +kernel
theorem dX12_grounded_30 : decode cX12_grounded 30 = .ok (.aload_n 0, 1) := by decide +kernel
theorem dX12_grounded_31 : decode cX12_grounded 31 = .ok (.invokevirtual 173, 3) := by decide +kernel
theorem dX12_grounded_34 : decode cX12_grounded 34 = .ok (.imul, 1) := by decide +kernel
theorem dX12_grounded_35 : decode cX12_grounded 35 = .ok (.isub, 1) := by decide +kernel
theorem dX12_grounded_36 : decode cX12_grounded 36 = .ok (.iload_n 1, 1) := by decide +kernel
theorem dX12_grounded_37 : decode cX12_grounded 37 = .ok (.if_icmp .le 7, 3) := by decide +kernel
theorem dX12_grounded_40 : decode cX12_grounded 40 = .ok (.iconst 1, 1) := by decide +kernel
theorem dX12_grounded_41 : decode cX12_grounded 41 = .ok (.goto 4, 3) := by decide +kernel
theorem dX12_grounded_44 : decode cX12_grounded 44 = .ok (.iconst 0, 1) := by decide +kernel
theorem dX12_grounded_45 : decode cX12_grounded 45 = .ok (.ireturn, 1) := by decide +kernel
set_option maxRecDepth 20000 in
theorem ggX12_lighten_X12_in : GoodIn wsX12_lighten wsX12_in := goodIn_r _ [8] rfl (by decide +kernel)
set_option maxRecDepth 20000 in
theorem gX12_lighten_X12_in : GoodIn wsX12_lighten (va_wsS RX12 101 yX12_in wsX12_in) := goodIn_app (goodIn_of _ (by decide +kernel)) ggX12_lighten_X12_in
set_option maxRecDepth 20000 in
theorem ggX12_lighten_X12_allWeight : GoodIn wsX12_lighten wsX12_allWeight := goodIn_r _ [12, 13, 14, 15, 16, 17, 18, 7, 19, 20, 21, 22, 42, 43, 44, 45, 46, 47, 48, 49, 50, 51, 52, 53, 54, 55, 56, 57, 58, 59, 60, 61, 62, 63, 64, 65, 66, 67, 68, 69, 70, 71, 72, 73] rfl (by decide +kernel)
set_option maxRecDepth 20000 in
theorem gX12_lighten_X12_allWeight : GoodIn wsX12_lighten (wsV RX12 152 RX12 yX12_allWeight wsX12_allWeight) := goodIn_app (goodIn_of _ (by decide +kernel)) ggX12_lighten_X12_allWeight
set_option maxRecDepth 20000 in
theorem ggX12_lighten_X12_leastRise : GoodIn wsX12_lighten wsX12_leastRise := goodIn_r _ [26, 27, 28, 29, 30, 3, 31, 42, 43, 44, 45, 46, 47, 48, 49, 50, 51, 52, 53, 54, 55, 56, 57, 58, 59, 60, 61, 62, 63, 64, 65, 66, 67, 68, 69, 70, 71, 72, 73] rfl (by decide +kernel)
set_option maxRecDepth 20000 in
theorem gX12_lighten_X12_leastRise : GoodIn wsX12_lighten (wsV RX12 173 RX12 yX12_leastRise wsX12_leastRise) := goodIn_app (goodIn_of _ (by decide +kernel)) ggX12_lighten_X12_leastRise
set_option maxRecDepth 20000 in
theorem ggX12_lighten_X12_waterOfAll : GoodIn wsX12_lighten wsX12_waterOfAll := goodIn_r _ [35, 28, 36, 37, 38, 7, 39, 40, 29, 30, 3, 31, 1, 2, 4, 41, 27, 42, 43, 44, 45, 46, 47, 48, 49, 50, 51, 52, 53, 54, 55, 56, 57, 58, 59, 60, 61, 62, 63, 64, 65, 66, 67, 68, 69, 70, 71, 72, 73] rfl (by decide +kernel)
set_option maxRecDepth 20000 in
theorem gX12_lighten_X12_waterOfAll : GoodIn wsX12_lighten (wsV RX12 182 RX12 yX12_waterOfAll wsX12_waterOfAll) := goodIn_app (goodIn_of _ (by decide +kernel)) ggX12_lighten_X12_waterOfAll
theorem dX12_lighten_0 : decode cX12_lighten 0 = .ok (.iload_n 1, 1) := by decide +kernel
theorem dX12_lighten_1 : decode cX12_lighten 1 = .ok (.iconst 0, 1) := by decide +kernel
theorem dX12_lighten_2 : decode cX12_lighten 2 = .ok (.sipush 9999, 3) := by decide +kernel
theorem dX12_lighten_5 : decode cX12_lighten 5 = .ok (.invokestatic 101, 3) := by decide +kernel
theorem dX12_lighten_8 : decode cX12_lighten 8 = .ok (.ifCond .ne 5, 3) := by decide +kernel
theorem dX12_lighten_11 : decode cX12_lighten 11 = .ok (.iconst (-1), 1) := by decide +kernel
theorem dX12_lighten_12 : decode cX12_lighten 12 = .ok (.ireturn, 1) := by decide +kernel
theorem dX12_lighten_13 : decode cX12_lighten 13 = .ok (.iconst 0, 1) := by decide +kernel
theorem dX12_lighten_14 : decode cX12_lighten 14 = .ok (.aload_n 0, 1) := by decide +kernel
theorem dX12_lighten_15 : decode cX12_lighten 15 = .ok (.invokevirtual 152, 3) := by decide +kernel
theorem dX12_lighten_18 : decode cX12_lighten 18 = .ok (.aload_n 0, 1) := by decide +kernel
theorem dX12_lighten_19 : decode cX12_lighten 19 = .ok (.bipush 64, 2) := by decide +kernel
theorem dX12_lighten_21 : decode cX12_lighten 21 = .ok (.aload_n 0, 1) := by decide +kernel
theorem dX12_lighten_22 : decode cX12_lighten 22 = .ok (.invokevirtual 173, 3) := by decide +kernel
theorem dX12_lighten_25 : decode cX12_lighten 25 = .ok (.imul, 1) := by decide +kernel
theorem dX12_lighten_26 : decode cX12_lighten 26 = .ok (.iload_n 1, 1) := by decide +kernel
theorem dX12_lighten_27 : decode cX12_lighten 27 = .ok (.iadd, 1) := by decide +kernel
theorem dX12_lighten_28 : decode cX12_lighten 28 = .ok (.invokevirtual 182, 3) := by decide +kernel
theorem dX12_lighten_31 : decode cX12_lighten 31 = .ok (.bipush 64, 2) := by decide +kernel
theorem dX12_lighten_33 : decode cX12_lighten 33 = .ok (.idiv, 1) := by decide +kernel
theorem dX12_lighten_34 : decode cX12_lighten 34 = .ok (.isub, 1) := by decide +kernel
theorem dX12_lighten_35 : decode cX12_lighten 35 = .ok (.invokestatic 176, 3) := by decide +kernel
theorem dX12_lighten_38 : decode cX12_lighten 38 = .ok (.ireturn, 1) := by decide +kernel
set_option maxRecDepth 20000 in
theorem ggX12_more_X12_in : GoodIn wsX12_more wsX12_in := goodIn_r _ [6] rfl (by decide +kernel)
set_option maxRecDepth 20000 in
theorem gX12_more_X12_in : GoodIn wsX12_more (va_wsS RX12 101 yX12_in wsX12_in) := goodIn_app (goodIn_of _ (by decide +kernel)) ggX12_more_X12_in
set_option maxRecDepth 20000 in
theorem ggX12_more_X12_waterOfAll : GoodIn wsX12_more wsX12_waterOfAll := goodIn_r _ [10, 11, 12, 13, 14, 5, 15, 1, 16, 17, 18, 19, 20, 21, 22, 23, 24, 39, 40, 41, 42, 43, 44, 45, 46, 47, 48, 49, 50, 51, 52, 53, 54, 55, 56, 57, 58, 59, 60, 61, 62, 63, 64, 65, 66, 67, 68, 69, 70] rfl (by decide +kernel)
set_option maxRecDepth 20000 in
theorem gX12_more_X12_waterOfAll : GoodIn wsX12_more (wsV RX12 182 RX12 yX12_waterOfAll wsX12_waterOfAll) := goodIn_app (goodIn_of _ (by decide +kernel)) ggX12_more_X12_waterOfAll
set_option maxRecDepth 20000 in
theorem ggX12_more_X12_allWeight : GoodIn wsX12_more wsX12_allWeight := goodIn_r _ [28, 29, 30, 31, 32, 33, 34, 5, 35, 36, 37, 38, 39, 40, 41, 42, 43, 44, 45, 46, 47, 48, 49, 50, 51, 52, 53, 54, 55, 56, 57, 58, 59, 60, 61, 62, 63, 64, 65, 66, 67, 68, 69, 70] rfl (by decide +kernel)
set_option maxRecDepth 20000 in
theorem gX12_more_X12_allWeight : GoodIn wsX12_more (wsV RX12 152 RX12 yX12_allWeight wsX12_allWeight) := goodIn_app (goodIn_of _ (by decide +kernel)) ggX12_more_X12_allWeight
theorem dX12_more_0 : decode cX12_more 0 = .ok (.iload_n 1, 1) := by decide +kernel
theorem dX12_more_1 : decode cX12_more 1 = .ok (.iconst 0, 1) := by decide +kernel
theorem dX12_more_2 : decode cX12_more 2 = .ok (.bipush 64, 2) := by decide +kernel
theorem dX12_more_4 : decode cX12_more 4 = .ok (.aload_n 0, 1) := by decide +kernel
theorem dX12_more_5 : decode cX12_more 5 = .ok (.getfield 15, 3) := by decide +kernel
theorem dX12_more_8 : decode cX12_more 8 = .ok (.imul, 1) := by decide +kernel
theorem dX12_more_9 : decode cX12_more 9 = .ok (.invokestatic 101, 3) := by decide +kernel
theorem dX12_more_12 : decode cX12_more 12 = .ok (.ifCond .ne 6, 3) := by decide +kernel
theorem dX12_more_15 : decode cX12_more 15 = .ok (.ldc 124, 2) := by decide +kernel
theorem dX12_more_17 : decode cX12_more 17 = .ok (.ireturn, 1) := by decide +kernel
theorem dX12_more_18 : decode cX12_more 18 = .ok (.aload_n 0, 1) := by decide +kernel
theorem dX12_more_19 : decode cX12_more 19 = .ok (.iload_n 1, 1) := by decide +kernel
theorem dX12_more_20 : decode cX12_more 20 = .ok (.invokevirtual 182, 3) := by decide +kernel
theorem dX12_more_23 : decode cX12_more 23 = .ok (.bipush 64, 2) := by decide +kernel
theorem dX12_more_25 : decode cX12_more 25 = .ok (.idiv, 1) := by decide +kernel
theorem dX12_more_26 : decode cX12_more 26 = .ok (.aload_n 0, 1) := by decide +kernel
theorem dX12_more_27 : decode cX12_more 27 = .ok (.invokevirtual 152, 3) := by decide +kernel
theorem dX12_more_30 : decode cX12_more 30 = .ok (.isub, 1) := by decide +kernel
theorem dX12_more_31 : decode cX12_more 31 = .ok (.ireturn, 1) := by decide +kernel
set_option maxRecDepth 20000 in
theorem ggX12_isAhead_X12_weighs : GoodIn wsX12_isAhead wsX12_weighs := goodIn_r _ [6, 7, 8, 9, 10, 11, 12, 13, 14, 15, 16, 17, 18, 19, 20, 21, 22, 23, 24, 25, 26, 27, 28, 29, 30, 31, 32, 33, 34, 35, 36, 37, 38, 39, 40, 41] rfl (by decide +kernel)
set_option maxRecDepth 20000 in
theorem gX12_isAhead_X12_weighs : GoodIn wsX12_isAhead (wsV RX12 121 RX12 yX12_weighs wsX12_weighs) := goodIn_app (goodIn_of _ (by decide +kernel)) ggX12_isAhead_X12_weighs
theorem dX12_isAhead_0 : decode cX12_isAhead 0 = .ok (.iload_n 1, 1) := by decide +kernel
theorem dX12_isAhead_1 : decode cX12_isAhead 1 = .ok (.ifCond .ne 11, 3) := by decide +kernel
theorem dX12_isAhead_4 : decode cX12_isAhead 4 = .ok (.aload_n 0, 1) := by decide +kernel
theorem dX12_isAhead_5 : decode cX12_isAhead 5 = .ok (.iload_n 2, 1) := by decide +kernel
theorem dX12_isAhead_6 : decode cX12_isAhead 6 = .ok (.invokevirtual 121, 3) := by decide +kernel
theorem dX12_isAhead_9 : decode cX12_isAhead 9 = .ok (.goto 9, 3) := by decide +kernel
theorem dX12_isAhead_12 : decode cX12_isAhead 12 = .ok (.aload_n 0, 1) := by decide +kernel
theorem dX12_isAhead_13 : decode cX12_isAhead 13 = .ok (.getfield 43, 3) := by decide +kernel
theorem dX12_isAhead_16 : decode cX12_isAhead 16 = .ok (.iload_n 2, 1) := by decide +kernel
theorem dX12_isAhead_17 : decode cX12_isAhead 17 = .ok (.iaload, 1) := by decide +kernel
theorem dX12_isAhead_18 : decode cX12_isAhead 18 = .ok (.istore 4, 2) := by decide +kernel
theorem dX12_isAhead_20 : decode cX12_isAhead 20 = .ok (.iload_n 1, 1) := by decide +kernel
theorem dX12_isAhead_21 : decode cX12_isAhead 21 = .ok (.ifCond .ne 11, 3) := by decide +kernel
theorem dX12_isAhead_24 : decode cX12_isAhead 24 = .ok (.aload_n 0, 1) := by decide +kernel
theorem dX12_isAhead_25 : decode cX12_isAhead 25 = .ok (.iload_n 3, 1) := by decide +kernel
theorem dX12_isAhead_26 : decode cX12_isAhead 26 = .ok (.invokevirtual 121, 3) := by decide +kernel
theorem dX12_isAhead_29 : decode cX12_isAhead 29 = .ok (.goto 9, 3) := by decide +kernel
theorem dX12_isAhead_32 : decode cX12_isAhead 32 = .ok (.aload_n 0, 1) := by decide +kernel
theorem dX12_isAhead_33 : decode cX12_isAhead 33 = .ok (.getfield 43, 3) := by decide +kernel
theorem dX12_isAhead_36 : decode cX12_isAhead 36 = .ok (.iload_n 3, 1) := by decide +kernel
theorem dX12_isAhead_37 : decode cX12_isAhead 37 = .ok (.iaload, 1) := by decide +kernel
theorem dX12_isAhead_38 : decode cX12_isAhead 38 = .ok (.istore 5, 2) := by decide +kernel
theorem dX12_isAhead_40 : decode cX12_isAhead 40 = .ok (.iload 4, 2) := by decide +kernel
theorem dX12_isAhead_42 : decode cX12_isAhead 42 = .ok (.iload 5, 2) := by decide +kernel
theorem dX12_isAhead_44 : decode cX12_isAhead 44 = .ok (.if_icmp .eq 18, 3) := by decide +kernel
theorem dX12_isAhead_47 : decode cX12_isAhead 47 = .ok (.iload 4, 2) := by decide +kernel
theorem dX12_isAhead_49 : decode cX12_isAhead 49 = .ok (.iload 5, 2) := by decide +kernel
theorem dX12_isAhead_51 : decode cX12_isAhead 51 = .ok (.if_icmp .le 7, 3) := by decide +kernel
theorem dX12_isAhead_54 : decode cX12_isAhead 54 = .ok (.iconst 1, 1) := by decide +kernel
theorem dX12_isAhead_55 : decode cX12_isAhead 55 = .ok (.goto 17, 3) := by decide +kernel
theorem dX12_isAhead_58 : decode cX12_isAhead 58 = .ok (.iconst 0, 1) := by decide +kernel
theorem dX12_isAhead_59 : decode cX12_isAhead 59 = .ok (.goto 13, 3) := by decide +kernel
theorem dX12_isAhead_62 : decode cX12_isAhead 62 = .ok (.iload_n 2, 1) := by decide +kernel
theorem dX12_isAhead_63 : decode cX12_isAhead 63 = .ok (.iload_n 3, 1) := by decide +kernel
theorem dX12_isAhead_64 : decode cX12_isAhead 64 = .ok (.if_icmp .ge 7, 3) := by decide +kernel
theorem dX12_isAhead_67 : decode cX12_isAhead 67 = .ok (.iconst 1, 1) := by decide +kernel
theorem dX12_isAhead_68 : decode cX12_isAhead 68 = .ok (.goto 4, 3) := by decide +kernel
theorem dX12_isAhead_71 : decode cX12_isAhead 71 = .ok (.iconst 0, 1) := by decide +kernel
theorem dX12_isAhead_72 : decode cX12_isAhead 72 = .ok (.ireturn, 1) := by decide +kernel
set_option maxRecDepth 20000 in
theorem ggX12_layRank_X12_isAhead : GoodIn wsX12_layRank wsX12_isAhead := goodIn_r _ [7, 8, 9, 10, 11, 6, 12, 13, 14, 15, 33, 34, 35, 36, 37, 38, 39, 40, 41, 42, 43, 44, 45, 46, 47, 48, 49, 50, 51, 52, 53, 54, 55, 56, 57, 58, 59, 60, 61, 62, 63, 64] rfl (by decide +kernel)
set_option maxRecDepth 20000 in
theorem gX12_layRank_X12_isAhead : GoodIn wsX12_layRank (wsV RX12 210 RX12 yX12_isAhead wsX12_isAhead) := goodIn_app (goodIn_of _ (by decide +kernel)) ggX12_layRank_X12_isAhead
set_option maxRecDepth 20000 in
theorem ggX12_layRank_X12_layBalanced : GoodIn wsX12_layRank wsX12_layBalanced := goodIn_r _ [19, 1, 20, 2, 21, 22, 23, 6, 24, 9, 10, 11, 12, 13, 14, 15, 25, 26, 27, 28, 29, 30, 31, 32, 33, 34, 35, 36, 37, 38, 39, 40, 41, 42, 43, 44, 45, 46, 47, 48, 49, 50, 51, 52, 53, 54, 55, 56, 57, 58, 59, 60, 61, 62, 63, 64] rfl (by decide +kernel)
set_option maxRecDepth 20000 in
theorem gX12_layRank_X12_layBalanced : GoodIn wsX12_layRank (wsV RX12 213 RX12 yX12_layBalanced wsX12_layBalanced) := goodIn_app (goodIn_of _ (by decide +kernel)) ggX12_layRank_X12_layBalanced
theorem dX12_layRank_0 : decode cX12_layRank 0 = .ok (.iconst 0, 1) := by decide +kernel
theorem dX12_layRank_1 : decode cX12_layRank 1 = .ok (.istore_n 2, 1) := by decide +kernel
theorem dX12_layRank_2 : decode cX12_layRank 2 = .ok (.iload_n 2, 1) := by decide +kernel
theorem dX12_layRank_3 : decode cX12_layRank 3 = .ok (.aload_n 0, 1) := by decide +kernel
theorem dX12_layRank_4 : decode cX12_layRank 4 = .ok (.getfield 98, 3) := by decide +kernel
theorem dX12_layRank_7 : decode cX12_layRank 7 = .ok (.if_icmp .ge 64, 3) := by decide +kernel
theorem dX12_layRank_10 : decode cX12_layRank 10 = .ok (.iload_n 2, 1) := by decide +kernel
theorem dX12_layRank_11 : decode cX12_layRank 11 = .ok (.istore_n 3, 1) := by decide +kernel
theorem dX12_layRank_12 : decode cX12_layRank 12 = .ok (.iload_n 1, 1) := by decide +kernel
theorem dX12_layRank_13 : decode cX12_layRank 13 = .ok (.iconst 2, 1) := by decide +kernel
theorem dX12_layRank_14 : decode cX12_layRank 14 = .ok (.if_icmp .ge 44, 3) := by decide +kernel
theorem dX12_layRank_17 : decode cX12_layRank 17 = .ok (.iload_n 3, 1) := by decide +kernel
theorem dX12_layRank_18 : decode cX12_layRank 18 = .ok (.ifCond .le 40, 3) := by decide +kernel
theorem dX12_layRank_21 : decode cX12_layRank 21 = .ok (.aload_n 0, 1) := by decide +kernel
theorem dX12_layRank_22 : decode cX12_layRank 22 = .ok (.iload_n 1, 1) := by decide +kernel
theorem dX12_layRank_23 : decode cX12_layRank 23 = .ok (.iload_n 2, 1) := by decide +kernel
theorem dX12_layRank_24 : decode cX12_layRank 24 = .ok (.aload_n 0, 1) := by decide +kernel
theorem dX12_layRank_25 : decode cX12_layRank 25 = .ok (.getfield 58, 3) := by decide +kernel
theorem dX12_layRank_28 : decode cX12_layRank 28 = .ok (.iload_n 3, 1) := by decide +kernel
theorem dX12_layRank_29 : decode cX12_layRank 29 = .ok (.iconst 1, 1) := by decide +kernel
theorem dX12_layRank_30 : decode cX12_layRank 30 = .ok (.isub, 1) := by decide +kernel
theorem dX12_layRank_31 : decode cX12_layRank 31 = .ok (.iaload, 1) := by decide +kernel
theorem dX12_layRank_32 : decode cX12_layRank 32 = .ok (.invokevirtual 210, 3) := by decide +kernel
theorem dX12_layRank_35 : decode cX12_layRank 35 = .ok (.ifCond .eq 23, 3) := by decide +kernel
theorem dX12_layRank_38 : decode cX12_layRank 38 = .ok (.aload_n 0, 1) := by decide +kernel
theorem dX12_layRank_39 : decode cX12_layRank 39 = .ok (.getfield 58, 3) := by decide +kernel
theorem dX12_layRank_42 : decode cX12_layRank 42 = .ok (.iload_n 3, 1) := by decide +kernel
theorem dX12_layRank_43 : decode cX12_layRank 43 = .ok (.aload_n 0, 1) := by decide +kernel
theorem dX12_layRank_44 : decode cX12_layRank 44 = .ok (.getfield 58, 3) := by decide +kernel
theorem dX12_layRank_47 : decode cX12_layRank 47 = .ok (.iload_n 3, 1) := by decide +kernel
theorem dX12_layRank_48 : decode cX12_layRank 48 = .ok (.iconst 1, 1) := by decide +kernel
theorem dX12_layRank_49 : decode cX12_layRank 49 = .ok (.isub, 1) := by decide +kernel
theorem dX12_layRank_50 : decode cX12_layRank 50 = .ok (.iaload, 1) := by decide +kernel
theorem dX12_layRank_51 : decode cX12_layRank 51 = .ok (.iastore, 1) := by decide +kernel
theorem dX12_layRank_52 : decode cX12_layRank 52 = .ok (.iinc 3 (-1), 3) := by decide +kernel
theorem dX12_layRank_55 : decode cX12_layRank 55 = .ok (.goto (-43), 3) := by decide +kernel
theorem dX12_layRank_58 : decode cX12_layRank 58 = .ok (.aload_n 0, 1) := by decide +kernel
theorem dX12_layRank_59 : decode cX12_layRank 59 = .ok (.getfield 58, 3) := by decide +kernel
theorem dX12_layRank_62 : decode cX12_layRank 62 = .ok (.iload_n 3, 1) := by decide +kernel
theorem dX12_layRank_63 : decode cX12_layRank 63 = .ok (.iload_n 2, 1) := by decide +kernel
theorem dX12_layRank_64 : decode cX12_layRank 64 = .ok (.iastore, 1) := by decide +kernel
theorem dX12_layRank_65 : decode cX12_layRank 65 = .ok (.iinc 2 1, 3) := by decide +kernel
theorem dX12_layRank_68 : decode cX12_layRank 68 = .ok (.goto (-66), 3) := by decide +kernel
theorem dX12_layRank_71 : decode cX12_layRank 71 = .ok (.iload_n 1, 1) := by decide +kernel
theorem dX12_layRank_72 : decode cX12_layRank 72 = .ok (.iconst 3, 1) := by decide +kernel
theorem dX12_layRank_73 : decode cX12_layRank 73 = .ok (.if_icmp .ne 7, 3) := by decide +kernel
theorem dX12_layRank_76 : decode cX12_layRank 76 = .ok (.aload_n 0, 1) := by decide +kernel
theorem dX12_layRank_77 : decode cX12_layRank 77 = .ok (.invokevirtual 213, 3) := by decide +kernel
theorem dX12_layRank_80 : decode cX12_layRank 80 = .ok (.return_, 1) := by decide +kernel
theorem dX12_isRanked_0 : decode cX12_isRanked 0 = .ok (.iconst 0, 1) := by decide +kernel
theorem dX12_isRanked_1 : decode cX12_isRanked 1 = .ok (.istore_n 3, 1) := by decide +kernel
theorem dX12_isRanked_2 : decode cX12_isRanked 2 = .ok (.iload_n 3, 1) := by decide +kernel
theorem dX12_isRanked_3 : decode cX12_isRanked 3 = .ok (.iload_n 2, 1) := by decide +kernel
theorem dX12_isRanked_4 : decode cX12_isRanked 4 = .ok (.if_icmp .ge 21, 3) := by decide +kernel
theorem dX12_isRanked_7 : decode cX12_isRanked 7 = .ok (.aload_n 0, 1) := by decide +kernel
theorem dX12_isRanked_8 : decode cX12_isRanked 8 = .ok (.getfield 58, 3) := by decide +kernel
theorem dX12_isRanked_11 : decode cX12_isRanked 11 = .ok (.iload_n 3, 1) := by decide +kernel
theorem dX12_isRanked_12 : decode cX12_isRanked 12 = .ok (.iaload, 1) := by decide +kernel
theorem dX12_isRanked_13 : decode cX12_isRanked 13 = .ok (.iload_n 1, 1) := by decide +kernel
theorem dX12_isRanked_14 : decode cX12_isRanked 14 = .ok (.if_icmp .ne 5, 3) := by decide +kernel
theorem dX12_isRanked_17 : decode cX12_isRanked 17 = .ok (.iconst 1, 1) := by decide +kernel
theorem dX12_isRanked_18 : decode cX12_isRanked 18 = .ok (.ireturn, 1) := by decide +kernel
theorem dX12_isRanked_19 : decode cX12_isRanked 19 = .ok (.iinc 3 1, 3) := by decide +kernel
theorem dX12_isRanked_22 : decode cX12_isRanked 22 = .ok (.goto (-20), 3) := by decide +kernel
theorem dX12_isRanked_25 : decode cX12_isRanked 25 = .ok (.iconst 0, 1) := by decide +kernel
theorem dX12_isRanked_26 : decode cX12_isRanked 26 = .ok (.ireturn, 1) := by decide +kernel
set_option maxRecDepth 20000 in
theorem ggX12_layBalanced_X12_isRanked : GoodIn wsX12_layBalanced wsX12_isRanked := goodIn_r _ [8, 3, 24, 25, 26, 27, 28, 29, 30, 31, 32, 33, 34, 35, 36, 37, 38, 39, 40, 41, 42, 43, 44, 45, 46, 47, 48, 49, 50, 51, 52, 53, 54, 55] rfl (by decide +kernel)
set_option maxRecDepth 20000 in
theorem gX12_layBalanced_X12_isRanked : GoodIn wsX12_layBalanced (wsV RX12 216 RX12 yX12_isRanked wsX12_isRanked) := goodIn_app (goodIn_of _ (by decide +kernel)) ggX12_layBalanced_X12_isRanked
set_option maxRecDepth 20000 in
theorem ggX12_layBalanced_X12_weighs : GoodIn wsX12_layBalanced wsX12_weighs := goodIn_r _ [12, 13, 14, 15, 24, 25, 26, 27, 28, 29, 30, 31, 32, 33, 34, 35, 36, 37, 38, 39, 40, 41, 42, 43, 44, 45, 46, 47, 48, 49, 50, 51, 52, 53, 54, 55] rfl (by decide +kernel)
set_option maxRecDepth 20000 in
theorem gX12_layBalanced_X12_weighs : GoodIn wsX12_layBalanced (wsV RX12 121 RX12 yX12_weighs wsX12_weighs) := goodIn_app (goodIn_of _ (by decide +kernel)) ggX12_layBalanced_X12_weighs
set_option maxRecDepth 20000 in
theorem ggX12_layBalanced_X12_isLighter : GoodIn wsX12_layBalanced wsX12_isLighter := goodIn_r _ [19, 20, 21, 22, 23, 9, 10, 11, 7, 12, 13, 14, 15, 24, 25, 26, 27, 28, 29, 30, 31, 32, 33, 34, 35, 36, 37, 38, 39, 40, 41, 42, 43, 44, 45, 46, 47, 48, 49, 50, 51, 52, 53, 54, 55] rfl (by decide +kernel)
set_option maxRecDepth 20000 in
theorem gX12_layBalanced_X12_isLighter : GoodIn wsX12_layBalanced (wsV RX12 219 RX12 yX12_isLighter wsX12_isLighter) := goodIn_app (goodIn_of _ (by decide +kernel)) ggX12_layBalanced_X12_isLighter
theorem dX12_layBalanced_0 : decode cX12_layBalanced 0 = .ok (.iconst 0, 1) := by decide +kernel
theorem dX12_layBalanced_1 : decode cX12_layBalanced 1 = .ok (.istore_n 1, 1) := by decide +kernel
theorem dX12_layBalanced_2 : decode cX12_layBalanced 2 = .ok (.iconst 0, 1) := by decide +kernel
theorem dX12_layBalanced_3 : decode cX12_layBalanced 3 = .ok (.istore_n 2, 1) := by decide +kernel
theorem dX12_layBalanced_4 : decode cX12_layBalanced 4 = .ok (.iload_n 2, 1) := by decide +kernel
theorem dX12_layBalanced_5 : decode cX12_layBalanced 5 = .ok (.aload_n 0, 1) := by decide +kernel
theorem dX12_layBalanced_6 : decode cX12_layBalanced 6 = .ok (.getfield 98, 3) := by decide +kernel
theorem dX12_layBalanced_9 : decode cX12_layBalanced 9 = .ok (.if_icmp .ge 111, 3) := by decide +kernel
theorem dX12_layBalanced_12 : decode cX12_layBalanced 12 = .ok (.iconst (-1), 1) := by decide +kernel
theorem dX12_layBalanced_13 : decode cX12_layBalanced 13 = .ok (.istore_n 3, 1) := by decide +kernel
theorem dX12_layBalanced_14 : decode cX12_layBalanced 14 = .ok (.iconst 0, 1) := by decide +kernel
theorem dX12_layBalanced_15 : decode cX12_layBalanced 15 = .ok (.istore 4, 2) := by decide +kernel
theorem dX12_layBalanced_17 : decode cX12_layBalanced 17 = .ok (.iload 4, 2) := by decide +kernel
theorem dX12_layBalanced_19 : decode cX12_layBalanced 19 = .ok (.aload_n 0, 1) := by decide +kernel
theorem dX12_layBalanced_20 : decode cX12_layBalanced 20 = .ok (.getfield 98, 3) := by decide +kernel
theorem dX12_layBalanced_23 : decode cX12_layBalanced 23 = .ok (.if_icmp .ge 69, 3) := by decide +kernel
theorem dX12_layBalanced_26 : decode cX12_layBalanced 26 = .ok (.aload_n 0, 1) := by decide +kernel
theorem dX12_layBalanced_27 : decode cX12_layBalanced 27 = .ok (.iload 4, 2) := by decide +kernel
theorem dX12_layBalanced_29 : decode cX12_layBalanced 29 = .ok (.iload_n 2, 1) := by decide +kernel
theorem dX12_layBalanced_30 : decode cX12_layBalanced 30 = .ok (.invokevirtual 216, 3) := by decide +kernel
theorem dX12_layBalanced_33 : decode cX12_layBalanced 33 = .ok (.ifCond .eq 6, 3) := by decide +kernel
theorem dX12_layBalanced_36 : decode cX12_layBalanced 36 = .ok (.goto 50, 3) := by decide +kernel
theorem dX12_layBalanced_39 : decode cX12_layBalanced 39 = .ok (.iload_n 3, 1) := by decide +kernel
theorem dX12_layBalanced_40 : decode cX12_layBalanced 40 = .ok (.ifCond .lt 43, 3) := by decide +kernel
theorem dX12_layBalanced_43 : decode cX12_layBalanced 43 = .ok (.aload_n 0, 1) := by decide +kernel
theorem dX12_layBalanced_44 : decode cX12_layBalanced 44 = .ok (.iload_n 1, 1) := by decide +kernel
theorem dX12_layBalanced_45 : decode cX12_layBalanced 45 = .ok (.aload_n 0, 1) := by decide +kernel
theorem dX12_layBalanced_46 : decode cX12_layBalanced 46 = .ok (.iload 4, 2) := by decide +kernel
theorem dX12_layBalanced_48 : decode cX12_layBalanced 48 = .ok (.invokevirtual 121, 3) := by decide +kernel
theorem dX12_layBalanced_51 : decode cX12_layBalanced 51 = .ok (.aload_n 0, 1) := by decide +kernel
theorem dX12_layBalanced_52 : decode cX12_layBalanced 52 = .ok (.getfield 40, 3) := by decide +kernel
theorem dX12_layBalanced_55 : decode cX12_layBalanced 55 = .ok (.iload 4, 2) := by decide +kernel
theorem dX12_layBalanced_57 : decode cX12_layBalanced 57 = .ok (.iaload, 1) := by decide +kernel
theorem dX12_layBalanced_58 : decode cX12_layBalanced 58 = .ok (.imul, 1) := by decide +kernel
theorem dX12_layBalanced_59 : decode cX12_layBalanced 59 = .ok (.iadd, 1) := by decide +kernel
theorem dX12_layBalanced_60 : decode cX12_layBalanced 60 = .ok (.iload 4, 2) := by decide +kernel
theorem dX12_layBalanced_62 : decode cX12_layBalanced 62 = .ok (.iload_n 1, 1) := by decide +kernel
theorem dX12_layBalanced_63 : decode cX12_layBalanced 63 = .ok (.aload_n 0, 1) := by decide +kernel
theorem dX12_layBalanced_64 : decode cX12_layBalanced 64 = .ok (.iload_n 3, 1) := by decide +kernel
theorem dX12_layBalanced_65 : decode cX12_layBalanced 65 = .ok (.invokevirtual 121, 3) := by decide +kernel
theorem dX12_layBalanced_68 : decode cX12_layBalanced 68 = .ok (.aload_n 0, 1) := by decide +kernel
theorem dX12_layBalanced_69 : decode cX12_layBalanced 69 = .ok (.getfield 40, 3) := by decide +kernel
theorem dX12_layBalanced_72 : decode cX12_layBalanced 72 = .ok (.iload_n 3, 1) := by decide +kernel
theorem dX12_layBalanced_73 : decode cX12_layBalanced 73 = .ok (.iaload, 1) := by decide +kernel
theorem dX12_layBalanced_74 : decode cX12_layBalanced 74 = .ok (.imul, 1) := by decide +kernel
theorem dX12_layBalanced_75 : decode cX12_layBalanced 75 = .ok (.iadd, 1) := by decide +kernel
theorem dX12_layBalanced_76 : decode cX12_layBalanced 76 = .ok (.iload_n 3, 1) := by decide +kernel
theorem dX12_layBalanced_77 : decode cX12_layBalanced 77 = .ok (.invokevirtual 219, 3) := by decide +kernel
theorem dX12_layBalanced_80 : decode cX12_layBalanced 80 = .ok (.ifCond .eq 6, 3) := by decide +kernel
theorem dX12_layBalanced_83 : decode cX12_layBalanced 83 = .ok (.iload 4, 2) := by decide +kernel
theorem dX12_layBalanced_85 : decode cX12_layBalanced 85 = .ok (.istore_n 3, 1) := by decide +kernel
theorem dX12_layBalanced_86 : decode cX12_layBalanced 86 = .ok (.iinc 4 1, 3) := by decide +kernel
theorem dX12_layBalanced_89 : decode cX12_layBalanced 89 = .ok (.goto (-72), 3) := by decide +kernel
theorem dX12_layBalanced_92 : decode cX12_layBalanced 92 = .ok (.aload_n 0, 1) := by decide +kernel
theorem dX12_layBalanced_93 : decode cX12_layBalanced 93 = .ok (.getfield 58, 3) := by decide +kernel
theorem dX12_layBalanced_96 : decode cX12_layBalanced 96 = .ok (.iload_n 2, 1) := by decide +kernel
theorem dX12_layBalanced_97 : decode cX12_layBalanced 97 = .ok (.iload_n 3, 1) := by decide +kernel
theorem dX12_layBalanced_98 : decode cX12_layBalanced 98 = .ok (.iastore, 1) := by decide +kernel
theorem dX12_layBalanced_99 : decode cX12_layBalanced 99 = .ok (.iload_n 1, 1) := by decide +kernel
theorem dX12_layBalanced_100 : decode cX12_layBalanced 100 = .ok (.aload_n 0, 1) := by decide +kernel
theorem dX12_layBalanced_101 : decode cX12_layBalanced 101 = .ok (.iload_n 3, 1) := by decide +kernel
theorem dX12_layBalanced_102 : decode cX12_layBalanced 102 = .ok (.invokevirtual 121, 3) := by decide +kernel
theorem dX12_layBalanced_105 : decode cX12_layBalanced 105 = .ok (.aload_n 0, 1) := by decide +kernel
theorem dX12_layBalanced_106 : decode cX12_layBalanced 106 = .ok (.getfield 40, 3) := by decide +kernel
theorem dX12_layBalanced_109 : decode cX12_layBalanced 109 = .ok (.iload_n 3, 1) := by decide +kernel
theorem dX12_layBalanced_110 : decode cX12_layBalanced 110 = .ok (.iaload, 1) := by decide +kernel
theorem dX12_layBalanced_111 : decode cX12_layBalanced 111 = .ok (.imul, 1) := by decide +kernel
theorem dX12_layBalanced_112 : decode cX12_layBalanced 112 = .ok (.iadd, 1) := by decide +kernel
theorem dX12_layBalanced_113 : decode cX12_layBalanced 113 = .ok (.istore_n 1, 1) := by decide +kernel
theorem dX12_layBalanced_114 : decode cX12_layBalanced 114 = .ok (.iinc 2 1, 3) := by decide +kernel
theorem dX12_layBalanced_117 : decode cX12_layBalanced 117 = .ok (.goto (-113), 3) := by decide +kernel
theorem dX12_layBalanced_120 : decode cX12_layBalanced 120 = .ok (.return_, 1) := by decide +kernel
set_option maxRecDepth 20000 in
theorem ggX12_isLighter_X12_weighs : GoodIn wsX12_isLighter wsX12_weighs := goodIn_r _ [9, 10, 11, 12, 13, 14, 15, 16, 17, 18, 19, 20, 21, 22, 23, 24, 25, 26, 27, 28, 29, 30, 31, 32, 33, 34, 35, 36, 37, 38, 39, 40, 41, 42, 43, 44] rfl (by decide +kernel)
set_option maxRecDepth 20000 in
theorem gX12_isLighter_X12_weighs : GoodIn wsX12_isLighter (wsV RX12 121 RX12 yX12_weighs wsX12_weighs) := goodIn_app (goodIn_of _ (by decide +kernel)) ggX12_isLighter_X12_weighs
theorem dX12_isLighter_0 : decode cX12_isLighter 0 = .ok (.iload_n 1, 1) := by decide +kernel
theorem dX12_isLighter_1 : decode cX12_isLighter 1 = .ok (.invokestatic 188, 3) := by decide +kernel
theorem dX12_isLighter_4 : decode cX12_isLighter 4 = .ok (.iload_n 3, 1) := by decide +kernel
theorem dX12_isLighter_5 : decode cX12_isLighter 5 = .ok (.invokestatic 188, 3) := by decide +kernel
theorem dX12_isLighter_8 : decode cX12_isLighter 8 = .ok (.if_icmp .eq 20, 3) := by decide +kernel
theorem dX12_isLighter_11 : decode cX12_isLighter 11 = .ok (.iload_n 1, 1) := by decide +kernel
theorem dX12_isLighter_12 : decode cX12_isLighter 12 = .ok (.invokestatic 188, 3) := by decide +kernel
theorem dX12_isLighter_15 : decode cX12_isLighter 15 = .ok (.iload_n 3, 1) := by decide +kernel
theorem dX12_isLighter_16 : decode cX12_isLighter 16 = .ok (.invokestatic 188, 3) := by decide +kernel
theorem dX12_isLighter_19 : decode cX12_isLighter 19 = .ok (.if_icmp .ge 7, 3) := by decide +kernel
theorem dX12_isLighter_22 : decode cX12_isLighter 22 = .ok (.iconst 1, 1) := by decide +kernel
theorem dX12_isLighter_23 : decode cX12_isLighter 23 = .ok (.goto 4, 3) := by decide +kernel
theorem dX12_isLighter_26 : decode cX12_isLighter 26 = .ok (.iconst 0, 1) := by decide +kernel
theorem dX12_isLighter_27 : decode cX12_isLighter 27 = .ok (.ireturn, 1) := by decide +kernel
theorem dX12_isLighter_28 : decode cX12_isLighter 28 = .ok (.aload_n 0, 1) := by decide +kernel
theorem dX12_isLighter_29 : decode cX12_isLighter 29 = .ok (.iload_n 2, 1) := by decide +kernel
theorem dX12_isLighter_30 : decode cX12_isLighter 30 = .ok (.invokevirtual 121, 3) := by decide +kernel
theorem dX12_isLighter_33 : decode cX12_isLighter 33 = .ok (.aload_n 0, 1) := by decide +kernel
theorem dX12_isLighter_34 : decode cX12_isLighter 34 = .ok (.iload 4, 2) := by decide +kernel
theorem dX12_isLighter_36 : decode cX12_isLighter 36 = .ok (.invokevirtual 121, 3) := by decide +kernel
theorem dX12_isLighter_39 : decode cX12_isLighter 39 = .ok (.if_icmp .le 7, 3) := by decide +kernel
theorem dX12_isLighter_42 : decode cX12_isLighter 42 = .ok (.iconst 1, 1) := by decide +kernel
theorem dX12_isLighter_43 : decode cX12_isLighter 43 = .ok (.goto 4, 3) := by decide +kernel
theorem dX12_isLighter_46 : decode cX12_isLighter 46 = .ok (.iconst 0, 1) := by decide +kernel
theorem dX12_isLighter_47 : decode cX12_isLighter 47 = .ok (.ireturn, 1) := by decide +kernel
set_option maxRecDepth 20000 in
theorem ggX12_order_X12_in : GoodIn wsX12_order wsX12_in := goodIn_r _ [7] rfl (by decide +kernel)
set_option maxRecDepth 20000 in
theorem gX12_order_X12_in : GoodIn wsX12_order (va_wsS RX12 101 yX12_in wsX12_in) := goodIn_app (goodIn_of _ (by decide +kernel)) ggX12_order_X12_in
set_option maxRecDepth 20000 in
theorem ggX12_order_X12_layRank : GoodIn wsX12_order wsX12_layRank := goodIn_r _ [11, 1, 3, 12, 13, 14, 6, 15, 16, 17, 18, 19, 20, 21, 22, 23, 24, 25, 26, 27, 28, 29, 30, 31, 32, 33, 34, 35, 36, 37, 38, 39, 40, 41, 42, 43, 44, 45, 46, 47, 48, 49, 50, 51, 52, 53, 54, 55, 56, 57, 58, 59, 60, 61, 62, 63, 64, 65, 66, 67, 68, 69, 70, 71, 72] rfl (by decide +kernel)
set_option maxRecDepth 20000 in
theorem gX12_order_X12_layRank : GoodIn wsX12_order (wsV RX12 222 RX12 yX12_layRank wsX12_layRank) := goodIn_app (goodIn_of _ (by decide +kernel)) ggX12_order_X12_layRank
theorem dX12_order_0 : decode cX12_order 0 = .ok (.iload_n 1, 1) := by decide +kernel
theorem dX12_order_1 : decode cX12_order 1 = .ok (.iconst 0, 1) := by decide +kernel
theorem dX12_order_2 : decode cX12_order 2 = .ok (.iconst 3, 1) := by decide +kernel
theorem dX12_order_3 : decode cX12_order 3 = .ok (.invokestatic 101, 3) := by decide +kernel
theorem dX12_order_6 : decode cX12_order 6 = .ok (.ifCond .eq 7, 3) := by decide +kernel
theorem dX12_order_9 : decode cX12_order 9 = .ok (.iload_n 2, 1) := by decide +kernel
theorem dX12_order_10 : decode cX12_order 10 = .ok (.ifCond .ge 5, 3) := by decide +kernel
theorem dX12_order_13 : decode cX12_order 13 = .ok (.iconst (-1), 1) := by decide +kernel
theorem dX12_order_14 : decode cX12_order 14 = .ok (.ireturn, 1) := by decide +kernel
theorem dX12_order_15 : decode cX12_order 15 = .ok (.iload_n 2, 1) := by decide +kernel
theorem dX12_order_16 : decode cX12_order 16 = .ok (.aload_n 0, 1) := by decide +kernel
theorem dX12_order_17 : decode cX12_order 17 = .ok (.getfield 98, 3) := by decide +kernel
theorem dX12_order_20 : decode cX12_order 20 = .ok (.if_icmp .lt 6, 3) := by decide +kernel
theorem dX12_order_23 : decode cX12_order 23 = .ok (.bipush (-2), 2) := by decide +kernel
theorem dX12_order_25 : decode cX12_order 25 = .ok (.ireturn, 1) := by decide +kernel
theorem dX12_order_26 : decode cX12_order 26 = .ok (.aload_n 0, 1) := by decide +kernel
theorem dX12_order_27 : decode cX12_order 27 = .ok (.iload_n 1, 1) := by decide +kernel
theorem dX12_order_28 : decode cX12_order 28 = .ok (.invokevirtual 222, 3) := by decide +kernel
theorem dX12_order_31 : decode cX12_order 31 = .ok (.aload_n 0, 1) := by decide +kernel
theorem dX12_order_32 : decode cX12_order 32 = .ok (.getfield 28, 3) := by decide +kernel
theorem dX12_order_35 : decode cX12_order 35 = .ok (.aload_n 0, 1) := by decide +kernel
theorem dX12_order_36 : decode cX12_order 36 = .ok (.getfield 58, 3) := by decide +kernel
theorem dX12_order_39 : decode cX12_order 39 = .ok (.iload_n 2, 1) := by decide +kernel
theorem dX12_order_40 : decode cX12_order 40 = .ok (.iaload, 1) := by decide +kernel
theorem dX12_order_41 : decode cX12_order 41 = .ok (.iaload, 1) := by decide +kernel
theorem dX12_order_42 : decode cX12_order 42 = .ok (.ireturn, 1) := by decide +kernel
set_option maxRecDepth 20000 in
theorem ggX12_next_X12_isName : GoodIn wsX12_next wsX12_isName := goodIn_r _ [6, 7] rfl (by decide +kernel)
set_option maxRecDepth 20000 in
theorem gX12_next_X12_isName : GoodIn wsX12_next (va_wsS RX12 110 yX12_isName wsX12_isName) := goodIn_app (goodIn_of _ (by decide +kernel)) ggX12_next_X12_isName
theorem dX12_next_0 : decode cX12_next 0 = .ok (.iload_n 1, 1) := by decide +kernel
theorem dX12_next_1 : decode cX12_next 1 = .ok (.ifCond .eq 12, 3) := by decide +kernel
theorem dX12_next_4 : decode cX12_next 4 = .ok (.iload_n 1, 1) := by decide +kernel
theorem dX12_next_5 : decode cX12_next 5 = .ok (.invokestatic 110, 3) := by decide +kernel
theorem dX12_next_8 : decode cX12_next 8 = .ok (.ifCond .ne 5, 3) := by decide +kernel
theorem dX12_next_11 : decode cX12_next 11 = .ok (.iconst (-1), 1) := by decide +kernel
theorem dX12_next_12 : decode cX12_next 12 = .ok (.ireturn, 1) := by decide +kernel
theorem dX12_next_13 : decode cX12_next 13 = .ok (.iconst 0, 1) := by decide +kernel
theorem dX12_next_14 : decode cX12_next 14 = .ok (.istore_n 2, 1) := by decide +kernel
theorem dX12_next_15 : decode cX12_next 15 = .ok (.iload_n 2, 1) := by decide +kernel
theorem dX12_next_16 : decode cX12_next 16 = .ok (.aload_n 0, 1) := by decide +kernel
theorem dX12_next_17 : decode cX12_next 17 = .ok (.getfield 98, 3) := by decide +kernel
theorem dX12_next_20 : decode cX12_next 20 = .ok (.if_icmp .ge 26, 3) := by decide +kernel
theorem dX12_next_23 : decode cX12_next 23 = .ok (.aload_n 0, 1) := by decide +kernel
theorem dX12_next_24 : decode cX12_next 24 = .ok (.getfield 28, 3) := by decide +kernel
theorem dX12_next_27 : decode cX12_next 27 = .ok (.iload_n 2, 1) := by decide +kernel
theorem dX12_next_28 : decode cX12_next 28 = .ok (.iaload, 1) := by decide +kernel
theorem dX12_next_29 : decode cX12_next 29 = .ok (.iload_n 1, 1) := by decide +kernel
theorem dX12_next_30 : decode cX12_next 30 = .ok (.if_icmp .le 10, 3) := by decide +kernel
theorem dX12_next_33 : decode cX12_next 33 = .ok (.aload_n 0, 1) := by decide +kernel
theorem dX12_next_34 : decode cX12_next 34 = .ok (.getfield 28, 3) := by decide +kernel
theorem dX12_next_37 : decode cX12_next 37 = .ok (.iload_n 2, 1) := by decide +kernel
theorem dX12_next_38 : decode cX12_next 38 = .ok (.iaload, 1) := by decide +kernel
theorem dX12_next_39 : decode cX12_next 39 = .ok (.ireturn, 1) := by decide +kernel
theorem dX12_next_40 : decode cX12_next 40 = .ok (.iinc 2 1, 3) := by decide +kernel
theorem dX12_next_43 : decode cX12_next 43 = .ok (.goto (-28), 3) := by decide +kernel
theorem dX12_next_46 : decode cX12_next 46 = .ok (.bipush (-2), 2) := by decide +kernel
theorem dX12_next_48 : decode cX12_next 48 = .ok (.ireturn, 1) := by decide +kernel
set_option maxRecDepth 20000 in
theorem ggX12_turn_X12_aside : GoodIn wsX12_turn wsX12_aside := goodIn_r _ [12, 5, 6, 13, 14, 15, 11, 16, 17, 18, 19, 20, 21, 22, 23, 24, 25, 26, 27, 28, 29, 30, 31, 32, 33, 34, 35, 36, 37, 38, 39, 40, 41, 42, 43, 44, 45, 46, 47, 48, 49, 50, 51] rfl (by decide +kernel)
set_option maxRecDepth 20000 in
theorem gX12_turn_X12_aside : GoodIn wsX12_turn (wsV RX12 158 RX12 yX12_aside wsX12_aside) := goodIn_app (goodIn_of _ (by decide +kernel)) ggX12_turn_X12_aside
set_option maxRecDepth 20000 in
theorem ggX12_turn_X12_weighs : GoodIn wsX12_turn wsX12_weighs := goodIn_r _ [16, 17, 18, 19, 20, 21, 22, 23, 24, 25, 26, 27, 28, 29, 30, 31, 32, 33, 34, 35, 36, 37, 38, 39, 40, 41, 42, 43, 44, 45, 46, 47, 48, 49, 50, 51] rfl (by decide +kernel)
set_option maxRecDepth 20000 in
theorem gX12_turn_X12_weighs : GoodIn wsX12_turn (wsV RX12 121 RX12 yX12_weighs wsX12_weighs) := goodIn_app (goodIn_of _ (by decide +kernel)) ggX12_turn_X12_weighs
theorem dX12_turn_0 : decode cX12_turn 0 = .ok (.aload_n 0, 1) := by decide +kernel
theorem dX12_turn_1 : decode cX12_turn 1 = .ok (.invokevirtual 158, 3) := by decide +kernel
theorem dX12_turn_4 : decode cX12_turn 4 = .ok (.istore_n 1, 1) := by decide +kernel
theorem dX12_turn_5 : decode cX12_turn 5 = .ok (.iload_n 1, 1) := by decide +kernel
theorem dX12_turn_6 : decode cX12_turn 6 = .ok (.invokestatic 188, 3) := by decide +kernel
theorem dX12_turn_9 : decode cX12_turn 9 = .ok (.istore_n 2, 1) := by decide +kernel
theorem dX12_turn_10 : decode cX12_turn 10 = .ok (.bipush (-2), 2) := by decide +kernel
theorem dX12_turn_12 : decode cX12_turn 12 = .ok (.istore_n 3, 1) := by decide +kernel
theorem dX12_turn_13 : decode cX12_turn 13 = .ok (.iconst 0, 1) := by decide +kernel
theorem dX12_turn_14 : decode cX12_turn 14 = .ok (.istore 4, 2) := by decide +kernel
theorem dX12_turn_16 : decode cX12_turn 16 = .ok (.iload 4, 2) := by decide +kernel
theorem dX12_turn_18 : decode cX12_turn 18 = .ok (.aload_n 0, 1) := by decide +kernel
theorem dX12_turn_19 : decode cX12_turn 19 = .ok (.getfield 98, 3) := by decide +kernel
theorem dX12_turn_22 : decode cX12_turn 22 = .ok (.if_icmp .ge 52, 3) := by decide +kernel
theorem dX12_turn_25 : decode cX12_turn 25 = .ok (.iload_n 1, 1) := by decide +kernel
theorem dX12_turn_26 : decode cX12_turn 26 = .ok (.iconst 2, 1) := by decide +kernel
theorem dX12_turn_27 : decode cX12_turn 27 = .ok (.aload_n 0, 1) := by decide +kernel
theorem dX12_turn_28 : decode cX12_turn 28 = .ok (.iload 4, 2) := by decide +kernel
theorem dX12_turn_30 : decode cX12_turn 30 = .ok (.invokevirtual 121, 3) := by decide +kernel
theorem dX12_turn_33 : decode cX12_turn 33 = .ok (.imul, 1) := by decide +kernel
theorem dX12_turn_34 : decode cX12_turn 34 = .ok (.aload_n 0, 1) := by decide +kernel
theorem dX12_turn_35 : decode cX12_turn 35 = .ok (.getfield 40, 3) := by decide +kernel
theorem dX12_turn_38 : decode cX12_turn 38 = .ok (.iload 4, 2) := by decide +kernel
theorem dX12_turn_40 : decode cX12_turn 40 = .ok (.iaload, 1) := by decide +kernel
theorem dX12_turn_41 : decode cX12_turn 41 = .ok (.imul, 1) := by decide +kernel
theorem dX12_turn_42 : decode cX12_turn 42 = .ok (.isub, 1) := by decide +kernel
theorem dX12_turn_43 : decode cX12_turn 43 = .ok (.invokestatic 188, 3) := by decide +kernel
theorem dX12_turn_46 : decode cX12_turn 46 = .ok (.istore 5, 2) := by decide +kernel
theorem dX12_turn_48 : decode cX12_turn 48 = .ok (.iload 5, 2) := by decide +kernel
theorem dX12_turn_50 : decode cX12_turn 50 = .ok (.iload_n 2, 1) := by decide +kernel
theorem dX12_turn_51 : decode cX12_turn 51 = .ok (.if_icmp .lt 6, 3) := by decide +kernel
theorem dX12_turn_54 : decode cX12_turn 54 = .ok (.goto 14, 3) := by decide +kernel
theorem dX12_turn_57 : decode cX12_turn 57 = .ok (.iload 5, 2) := by decide +kernel
theorem dX12_turn_59 : decode cX12_turn 59 = .ok (.istore_n 2, 1) := by decide +kernel
theorem dX12_turn_60 : decode cX12_turn 60 = .ok (.aload_n 0, 1) := by decide +kernel
theorem dX12_turn_61 : decode cX12_turn 61 = .ok (.getfield 28, 3) := by decide +kernel
theorem dX12_turn_64 : decode cX12_turn 64 = .ok (.iload 4, 2) := by decide +kernel
theorem dX12_turn_66 : decode cX12_turn 66 = .ok (.iaload, 1) := by decide +kernel
theorem dX12_turn_67 : decode cX12_turn 67 = .ok (.istore_n 3, 1) := by decide +kernel
theorem dX12_turn_68 : decode cX12_turn 68 = .ok (.iinc 4 1, 3) := by decide +kernel
theorem dX12_turn_71 : decode cX12_turn 71 = .ok (.goto (-55), 3) := by decide +kernel
theorem dX12_turn_74 : decode cX12_turn 74 = .ok (.iload_n 3, 1) := by decide +kernel
theorem dX12_turn_75 : decode cX12_turn 75 = .ok (.ireturn, 1) := by decide +kernel
set_option maxRecDepth 20000 in
theorem ggX12_change_X12_in : GoodIn wsX12_change wsX12_in := goodIn_r _ [11] rfl (by decide +kernel)
set_option maxRecDepth 20000 in
theorem gX12_change_X12_in : GoodIn wsX12_change (va_wsS RX12 101 yX12_in wsX12_in) := goodIn_app (goodIn_of _ (by decide +kernel)) ggX12_change_X12_in
set_option maxRecDepth 20000 in
theorem ggX12_change_X12_restOf : GoodIn wsX12_change wsX12_restOf := goodIn_r _ [15, 16, 17, 1, 2, 3, 4, 18, 19, 20, 10, 21, 22, 5, 23, 24, 25, 26, 27, 28, 29, 30, 31, 32, 33, 34, 35, 36, 37, 38, 39, 40, 41, 42, 43, 44, 45, 46, 56, 57, 58, 59, 60, 61, 62, 63, 64, 65, 66, 67, 68, 69, 70, 71, 72, 73, 74, 75, 76, 77, 78, 79, 80, 81, 82, 83, 84, 85, 86, 87] rfl (by decide +kernel)
set_option maxRecDepth 20000 in
theorem gX12_change_X12_restOf : GoodIn wsX12_change (wsV RX12 194 RX12 yX12_restOf wsX12_restOf) := goodIn_app (goodIn_of _ (by decide +kernel)) ggX12_change_X12_restOf
set_option maxRecDepth 20000 in
theorem ggX12_change_X12_offBy : GoodIn wsX12_change wsX12_offBy := goodIn_r _ [50, 17, 35, 36, 37, 10, 38, 16, 39, 40, 3, 41, 42, 43, 44, 45, 46, 51, 52, 53, 54, 22, 5, 6, 23, 55, 24, 25, 26, 27, 28, 29, 30, 56, 57, 58, 59, 60, 61, 62, 63, 64, 65, 66, 67, 68, 69, 70, 71, 72, 73, 74, 75, 76, 77, 78, 79, 80, 81, 82, 83, 84, 85, 86, 87] rfl (by decide +kernel)
set_option maxRecDepth 20000 in
theorem gX12_change_X12_offBy : GoodIn wsX12_change (wsV RX12 197 RX12 yX12_offBy wsX12_offBy) := goodIn_app (goodIn_of _ (by decide +kernel)) ggX12_change_X12_offBy
set_option maxRecDepth 20000 in
theorem ggX12_change_X12_weighs : GoodIn wsX12_change wsX12_weighs := goodIn_r _ [27, 28, 29, 30, 56, 57, 58, 59, 60, 61, 62, 63, 64, 65, 66, 67, 68, 69, 70, 71, 72, 73, 74, 75, 76, 77, 78, 79, 80, 81, 82, 83, 84, 85, 86, 87] rfl (by decide +kernel)
set_option maxRecDepth 20000 in
theorem gX12_change_X12_weighs : GoodIn wsX12_change (wsV RX12 121 RX12 yX12_weighs wsX12_weighs) := goodIn_app (goodIn_of _ (by decide +kernel)) ggX12_change_X12_weighs
theorem dX12_change_0 : decode cX12_change 0 = .ok (.iload_n 1, 1) := by decide +kernel
theorem dX12_change_1 : decode cX12_change 1 = .ok (.iconst 0, 1) := by decide +kernel
theorem dX12_change_2 : decode cX12_change 2 = .ok (.iconst 1, 1) := by decide +kernel
theorem dX12_change_3 : decode cX12_change 3 = .ok (.invokestatic 101, 3) := by decide +kernel
theorem dX12_change_6 : decode cX12_change 6 = .ok (.ifCond .ne 5, 3) := by decide +kernel
theorem dX12_change_9 : decode cX12_change 9 = .ok (.iconst (-1), 1) := by decide +kernel
theorem dX12_change_10 : decode cX12_change 10 = .ok (.ireturn, 1) := by decide +kernel
theorem dX12_change_11 : decode cX12_change 11 = .ok (.aload_n 0, 1) := by decide +kernel
theorem dX12_change_12 : decode cX12_change 12 = .ok (.iconst 0, 1) := by decide +kernel
theorem dX12_change_13 : decode cX12_change 13 = .ok (.invokevirtual 194, 3) := by decide +kernel
theorem dX12_change_16 : decode cX12_change 16 = .ok (.istore_n 2, 1) := by decide +kernel
theorem dX12_change_17 : decode cX12_change 17 = .ok (.iload_n 2, 1) := by decide +kernel
theorem dX12_change_18 : decode cX12_change 18 = .ok (.bipush (-2), 2) := by decide +kernel
theorem dX12_change_20 : decode cX12_change 20 = .ok (.if_icmp .ne 6, 3) := by decide +kernel
theorem dX12_change_23 : decode cX12_change 23 = .ok (.bipush (-2), 2) := by decide +kernel
theorem dX12_change_25 : decode cX12_change 25 = .ok (.ireturn, 1) := by decide +kernel
theorem dX12_change_26 : decode cX12_change 26 = .ok (.aload_n 0, 1) := by decide +kernel
theorem dX12_change_27 : decode cX12_change 27 = .ok (.iconst 0, 1) := by decide +kernel
theorem dX12_change_28 : decode cX12_change 28 = .ok (.iload_n 2, 1) := by decide +kernel
theorem dX12_change_29 : decode cX12_change 29 = .ok (.invokevirtual 197, 3) := by decide +kernel
theorem dX12_change_32 : decode cX12_change 32 = .ok (.istore_n 3, 1) := by decide +kernel
theorem dX12_change_33 : decode cX12_change 33 = .ok (.iload_n 3, 1) := by decide +kernel
theorem dX12_change_34 : decode cX12_change 34 = .ok (.invokestatic 188, 3) := by decide +kernel
theorem dX12_change_37 : decode cX12_change 37 = .ok (.istore 4, 2) := by decide +kernel
theorem dX12_change_39 : decode cX12_change 39 = .ok (.bipush (-2), 2) := by decide +kernel
theorem dX12_change_41 : decode cX12_change 41 = .ok (.istore 5, 2) := by decide +kernel
theorem dX12_change_43 : decode cX12_change 43 = .ok (.iconst 0, 1) := by decide +kernel
theorem dX12_change_44 : decode cX12_change 44 = .ok (.istore 6, 2) := by decide +kernel
theorem dX12_change_46 : decode cX12_change 46 = .ok (.iload 6, 2) := by decide +kernel
theorem dX12_change_48 : decode cX12_change 48 = .ok (.aload_n 0, 1) := by decide +kernel
theorem dX12_change_49 : decode cX12_change 49 = .ok (.getfield 98, 3) := by decide +kernel
theorem dX12_change_52 : decode cX12_change 52 = .ok (.if_icmp .ge 112, 3) := by decide +kernel
theorem dX12_change_55 : decode cX12_change 55 = .ok (.iload 6, 2) := by decide +kernel
theorem dX12_change_57 : decode cX12_change 57 = .ok (.iconst 1, 1) := by decide +kernel
theorem dX12_change_58 : decode cX12_change 58 = .ok (.iadd, 1) := by decide +kernel
theorem dX12_change_59 : decode cX12_change 59 = .ok (.istore 7, 2) := by decide +kernel
theorem dX12_change_61 : decode cX12_change 61 = .ok (.iload 7, 2) := by decide +kernel
theorem dX12_change_63 : decode cX12_change 63 = .ok (.aload_n 0, 1) := by decide +kernel
theorem dX12_change_64 : decode cX12_change 64 = .ok (.getfield 98, 3) := by decide +kernel
theorem dX12_change_67 : decode cX12_change 67 = .ok (.if_icmp .ge 91, 3) := by decide +kernel
theorem dX12_change_70 : decode cX12_change 70 = .ok (.iconst 2, 1) := by decide +kernel
theorem dX12_change_71 : decode cX12_change 71 = .ok (.aload_n 0, 1) := by decide +kernel
theorem dX12_change_72 : decode cX12_change 72 = .ok (.iload 6, 2) := by decide +kernel
theorem dX12_change_74 : decode cX12_change 74 = .ok (.invokevirtual 121, 3) := by decide +kernel
theorem dX12_change_77 : decode cX12_change 77 = .ok (.aload_n 0, 1) := by decide +kernel
theorem dX12_change_78 : decode cX12_change 78 = .ok (.iload 7, 2) := by decide +kernel
theorem dX12_change_80 : decode cX12_change 80 = .ok (.invokevirtual 121, 3) := by decide +kernel
theorem dX12_change_83 : decode cX12_change 83 = .ok (.isub, 1) := by decide +kernel
theorem dX12_change_84 : decode cX12_change 84 = .ok (.imul, 1) := by decide +kernel
theorem dX12_change_85 : decode cX12_change 85 = .ok (.aload_n 0, 1) := by decide +kernel
theorem dX12_change_86 : decode cX12_change 86 = .ok (.getfield 37, 3) := by decide +kernel
theorem dX12_change_89 : decode cX12_change 89 = .ok (.iload 7, 2) := by decide +kernel
theorem dX12_change_91 : decode cX12_change 91 = .ok (.iaload, 1) := by decide +kernel
theorem dX12_change_92 : decode cX12_change 92 = .ok (.aload_n 0, 1) := by decide +kernel
theorem dX12_change_93 : decode cX12_change 93 = .ok (.getfield 37, 3) := by decide +kernel
theorem dX12_change_96 : decode cX12_change 96 = .ok (.iload 6, 2) := by decide +kernel
theorem dX12_change_98 : decode cX12_change 98 = .ok (.iaload, 1) := by decide +kernel
theorem dX12_change_99 : decode cX12_change 99 = .ok (.isub, 1) := by decide +kernel
theorem dX12_change_100 : decode cX12_change 100 = .ok (.imul, 1) := by decide +kernel
theorem dX12_change_101 : decode cX12_change 101 = .ok (.istore 8, 2) := by decide +kernel
theorem dX12_change_103 : decode cX12_change 103 = .ok (.iload_n 3, 1) := by decide +kernel
theorem dX12_change_104 : decode cX12_change 104 = .ok (.bipush 64, 2) := by decide +kernel
theorem dX12_change_106 : decode cX12_change 106 = .ok (.iload 8, 2) := by decide +kernel
theorem dX12_change_108 : decode cX12_change 108 = .ok (.imul, 1) := by decide +kernel
theorem dX12_change_109 : decode cX12_change 109 = .ok (.isub, 1) := by decide +kernel
theorem dX12_change_110 : decode cX12_change 110 = .ok (.invokestatic 188, 3) := by decide +kernel
theorem dX12_change_113 : decode cX12_change 113 = .ok (.istore 9, 2) := by decide +kernel
theorem dX12_change_115 : decode cX12_change 115 = .ok (.iload 9, 2) := by decide +kernel
theorem dX12_change_117 : decode cX12_change 117 = .ok (.iload 4, 2) := by decide +kernel
theorem dX12_change_119 : decode cX12_change 119 = .ok (.if_icmp .lt 6, 3) := by decide +kernel
theorem dX12_change_122 : decode cX12_change 122 = .ok (.goto 30, 3) := by decide +kernel
theorem dX12_change_125 : decode cX12_change 125 = .ok (.iload 9, 2) := by decide +kernel
theorem dX12_change_127 : decode cX12_change 127 = .ok (.istore 4, 2) := by decide +kernel
theorem dX12_change_129 : decode cX12_change 129 = .ok (.iload_n 1, 1) := by decide +kernel
theorem dX12_change_130 : decode cX12_change 130 = .ok (.ifCond .ne 13, 3) := by decide +kernel
theorem dX12_change_133 : decode cX12_change 133 = .ok (.aload_n 0, 1) := by decide +kernel
theorem dX12_change_134 : decode cX12_change 134 = .ok (.getfield 28, 3) := by decide +kernel
theorem dX12_change_137 : decode cX12_change 137 = .ok (.iload 6, 2) := by decide +kernel
theorem dX12_change_139 : decode cX12_change 139 = .ok (.iaload, 1) := by decide +kernel
theorem dX12_change_140 : decode cX12_change 140 = .ok (.goto 10, 3) := by decide +kernel
theorem dX12_change_143 : decode cX12_change 143 = .ok (.aload_n 0, 1) := by decide +kernel
theorem dX12_change_144 : decode cX12_change 144 = .ok (.getfield 28, 3) := by decide +kernel
theorem dX12_change_147 : decode cX12_change 147 = .ok (.iload 7, 2) := by decide +kernel
theorem dX12_change_149 : decode cX12_change 149 = .ok (.iaload, 1) := by decide +kernel
theorem dX12_change_150 : decode cX12_change 150 = .ok (.istore 5, 2) := by decide +kernel
theorem dX12_change_152 : decode cX12_change 152 = .ok (.iinc 7 1, 3) := by decide +kernel
theorem dX12_change_155 : decode cX12_change 155 = .ok (.goto (-94), 3) := by decide +kernel
theorem dX12_change_158 : decode cX12_change 158 = .ok (.iinc 6 1, 3) := by decide +kernel
theorem dX12_change_161 : decode cX12_change 161 = .ok (.goto (-115), 3) := by decide +kernel
theorem dX12_change_164 : decode cX12_change 164 = .ok (.iload 5, 2) := by decide +kernel
theorem dX12_change_166 : decode cX12_change 166 = .ok (.ireturn, 1) := by decide +kernel
set_option maxRecDepth 20000 in
theorem ggX12_layLines_X12_layRank : GoodIn wsX12_layLines wsX12_layRank := goodIn_r _ [8, 2, 3, 9, 10, 11, 7, 12, 13, 14, 15, 16, 17, 18, 19, 20, 21, 22, 23, 24, 25, 26, 27, 28, 29, 30, 31, 32, 33, 34, 35, 36, 37, 66, 67, 68, 69, 70, 71, 72, 73, 74, 75, 76, 77, 78, 79, 80, 81, 82, 83, 84, 85, 86, 87, 88, 89, 90, 91, 92, 93, 94, 95, 96, 97] rfl (by decide +kernel)
set_option maxRecDepth 20000 in
theorem gX12_layLines_X12_layRank : GoodIn wsX12_layLines (wsV RX12 222 RX12 yX12_layRank wsX12_layRank) := goodIn_app (goodIn_of _ (by decide +kernel)) ggX12_layLines_X12_layRank
set_option maxRecDepth 20000 in
theorem ggX12_layLines_X12_allWeight : GoodIn wsX12_layLines wsX12_allWeight := goodIn_r _ [41, 42, 2, 43, 14, 15, 16, 7, 17, 18, 19, 20, 66, 67, 68, 69, 70, 71, 72, 73, 74, 75, 76, 77, 78, 79, 80, 81, 82, 83, 84, 85, 86, 87, 88, 89, 90, 91, 92, 93, 94, 95, 96, 97] rfl (by decide +kernel)
set_option maxRecDepth 20000 in
theorem gX12_layLines_X12_allWeight : GoodIn wsX12_layLines (wsV RX12 152 RX12 yX12_allWeight wsX12_allWeight) := goodIn_app (goodIn_of _ (by decide +kernel)) ggX12_layLines_X12_allWeight
set_option maxRecDepth 20000 in
theorem ggX12_layLines_X12_lineFor : GoodIn wsX12_layLines wsX12_lineFor := goodIn_r _ [47, 48, 49, 50, 51, 7, 52, 53, 54, 55, 56, 57, 58, 59, 36, 60, 61, 62, 63, 64, 65, 66, 67, 68, 69, 70, 71, 72, 73, 74, 75, 76, 77, 78, 79, 80, 81, 82, 83, 84, 85, 86, 87, 88, 89, 90, 91, 92, 93, 94, 95, 96, 97] rfl (by decide +kernel)
set_option maxRecDepth 20000 in
theorem gX12_layLines_X12_lineFor : GoodIn wsX12_layLines (wsV RX12 185 RX12 yX12_lineFor wsX12_lineFor) := goodIn_app (goodIn_of _ (by decide +kernel)) ggX12_layLines_X12_lineFor
set_option maxRecDepth 20000 in
theorem ggX12_layLines_X12_weighs : GoodIn wsX12_layLines wsX12_weighs := goodIn_r _ [17, 18, 19, 20, 66, 67, 68, 69, 70, 71, 72, 73, 74, 75, 76, 77, 78, 79, 80, 81, 82, 83, 84, 85, 86, 87, 88, 89, 90, 91, 92, 93, 94, 95, 96, 97] rfl (by decide +kernel)
set_option maxRecDepth 20000 in
theorem gX12_layLines_X12_weighs : GoodIn wsX12_layLines (wsV RX12 121 RX12 yX12_weighs wsX12_weighs) := goodIn_app (goodIn_of _ (by decide +kernel)) ggX12_layLines_X12_weighs
theorem dX12_layLines_0 : decode cX12_layLines 0 = .ok (.aload_n 0, 1) := by decide +kernel
theorem dX12_layLines_1 : decode cX12_layLines 1 = .ok (.iconst 0, 1) := by decide +kernel
theorem dX12_layLines_2 : decode cX12_layLines 2 = .ok (.invokevirtual 222, 3) := by decide +kernel
theorem dX12_layLines_5 : decode cX12_layLines 5 = .ok (.aload_n 0, 1) := by decide +kernel
theorem dX12_layLines_6 : decode cX12_layLines 6 = .ok (.invokevirtual 152, 3) := by decide +kernel
theorem dX12_layLines_9 : decode cX12_layLines 9 = .ok (.istore_n 2, 1) := by decide +kernel
theorem dX12_layLines_10 : decode cX12_layLines 10 = .ok (.iconst 0, 1) := by decide +kernel
theorem dX12_layLines_11 : decode cX12_layLines 11 = .ok (.istore_n 3, 1) := by decide +kernel
theorem dX12_layLines_12 : decode cX12_layLines 12 = .ok (.iload_n 3, 1) := by decide +kernel
theorem dX12_layLines_13 : decode cX12_layLines 13 = .ok (.iload_n 1, 1) := by decide +kernel
theorem dX12_layLines_14 : decode cX12_layLines 14 = .ok (.if_icmp .ge 41, 3) := by decide +kernel
theorem dX12_layLines_17 : decode cX12_layLines 17 = .ok (.aload_n 0, 1) := by decide +kernel
theorem dX12_layLines_18 : decode cX12_layLines 18 = .ok (.getfield 61, 3) := by decide +kernel
theorem dX12_layLines_21 : decode cX12_layLines 21 = .ok (.iload_n 3, 1) := by decide +kernel
theorem dX12_layLines_22 : decode cX12_layLines 22 = .ok (.aload_n 0, 1) := by decide +kernel
theorem dX12_layLines_23 : decode cX12_layLines 23 = .ok (.iload_n 2, 1) := by decide +kernel
theorem dX12_layLines_24 : decode cX12_layLines 24 = .ok (.invokevirtual 185, 3) := by decide +kernel
theorem dX12_layLines_27 : decode cX12_layLines 27 = .ok (.iastore, 1) := by decide +kernel
theorem dX12_layLines_28 : decode cX12_layLines 28 = .ok (.iload_n 3, 1) := by decide +kernel
theorem dX12_layLines_29 : decode cX12_layLines 29 = .ok (.aload_n 0, 1) := by decide +kernel
theorem dX12_layLines_30 : decode cX12_layLines 30 = .ok (.getfield 98, 3) := by decide +kernel
theorem dX12_layLines_33 : decode cX12_layLines 33 = .ok (.if_icmp .ge 16, 3) := by decide +kernel
theorem dX12_layLines_36 : decode cX12_layLines 36 = .ok (.iload_n 2, 1) := by decide +kernel
theorem dX12_layLines_37 : decode cX12_layLines 37 = .ok (.aload_n 0, 1) := by decide +kernel
theorem dX12_layLines_38 : decode cX12_layLines 38 = .ok (.aload_n 0, 1) := by decide +kernel
theorem dX12_layLines_39 : decode cX12_layLines 39 = .ok (.getfield 58, 3) := by decide +kernel
theorem dX12_layLines_42 : decode cX12_layLines 42 = .ok (.iload_n 3, 1) := by decide +kernel
theorem dX12_layLines_43 : decode cX12_layLines 43 = .ok (.iaload, 1) := by decide +kernel
theorem dX12_layLines_44 : decode cX12_layLines 44 = .ok (.invokevirtual 121, 3) := by decide +kernel
theorem dX12_layLines_47 : decode cX12_layLines 47 = .ok (.isub, 1) := by decide +kernel
theorem dX12_layLines_48 : decode cX12_layLines 48 = .ok (.istore_n 2, 1) := by decide +kernel
theorem dX12_layLines_49 : decode cX12_layLines 49 = .ok (.iinc 3 1, 3) := by decide +kernel
theorem dX12_layLines_52 : decode cX12_layLines 52 = .ok (.goto (-40), 3) := by decide +kernel
theorem dX12_layLines_55 : decode cX12_layLines 55 = .ok (.return_, 1) := by decide +kernel
set_option maxRecDepth 20000 in
theorem ggX12_isSo_X12_layLines : GoodIn wsX12_isSo wsX12_layLines := goodIn_r _ [7, 1, 8, 9, 10, 11, 12, 6, 13, 14, 15, 16, 17, 18, 19, 20, 21, 22, 23, 24, 25, 26, 27, 28, 29, 30, 31, 32, 33, 34, 35, 36, 37, 38, 39, 40, 41, 42, 43, 44, 45, 46, 47, 48, 49, 50, 51, 52, 53, 54, 55, 56, 57, 58, 59, 60, 61, 62, 63, 64, 65, 66, 67, 68, 69, 70, 71, 72, 73, 74, 75, 76, 77, 78, 79, 80, 81, 82, 83, 84, 85, 86, 87, 88, 89, 90, 91, 92, 93, 94, 95, 96, 97, 98, 99, 100, 101, 102] rfl (by decide +kernel)
set_option maxRecDepth 20000 in
theorem gX12_isSo_X12_layLines : GoodIn wsX12_isSo (wsV RX12 225 RX12 yX12_layLines wsX12_layLines) := goodIn_app (goodIn_of _ (by decide +kernel)) ggX12_isSo_X12_layLines
theorem dX12_isSo_0 : decode cX12_isSo 0 = .ok (.aload_n 0, 1) := by decide +kernel
theorem dX12_isSo_1 : decode cX12_isSo 1 = .ok (.iload_n 2, 1) := by decide +kernel
theorem dX12_isSo_2 : decode cX12_isSo 2 = .ok (.invokevirtual 225, 3) := by decide +kernel
theorem dX12_isSo_5 : decode cX12_isSo 5 = .ok (.iconst 0, 1) := by decide +kernel
theorem dX12_isSo_6 : decode cX12_isSo 6 = .ok (.istore_n 3, 1) := by decide +kernel
theorem dX12_isSo_7 : decode cX12_isSo 7 = .ok (.iload_n 3, 1) := by decide +kernel
theorem dX12_isSo_8 : decode cX12_isSo 8 = .ok (.iload_n 2, 1) := by decide +kernel
theorem dX12_isSo_9 : decode cX12_isSo 9 = .ok (.if_icmp .ge 28, 3) := by decide +kernel
theorem dX12_isSo_12 : decode cX12_isSo 12 = .ok (.aload_n 0, 1) := by decide +kernel
theorem dX12_isSo_13 : decode cX12_isSo 13 = .ok (.getfield 61, 3) := by decide +kernel
theorem dX12_isSo_16 : decode cX12_isSo 16 = .ok (.iload_n 3, 1) := by decide +kernel
theorem dX12_isSo_17 : decode cX12_isSo 17 = .ok (.iaload, 1) := by decide +kernel
theorem dX12_isSo_18 : decode cX12_isSo 18 = .ok (.aload_n 0, 1) := by decide +kernel
theorem dX12_isSo_19 : decode cX12_isSo 19 = .ok (.getfield 82, 3) := by decide +kernel
theorem dX12_isSo_22 : decode cX12_isSo 22 = .ok (.iload_n 1, 1) := by decide +kernel
theorem dX12_isSo_23 : decode cX12_isSo 23 = .ok (.aaload, 1) := by decide +kernel
theorem dX12_isSo_24 : decode cX12_isSo 24 = .ok (.iload_n 3, 1) := by decide +kernel
theorem dX12_isSo_25 : decode cX12_isSo 25 = .ok (.iaload, 1) := by decide +kernel
theorem dX12_isSo_26 : decode cX12_isSo 26 = .ok (.if_icmp .eq 5, 3) := by decide +kernel
theorem dX12_isSo_29 : decode cX12_isSo 29 = .ok (.iconst 0, 1) := by decide +kernel
theorem dX12_isSo_30 : decode cX12_isSo 30 = .ok (.ireturn, 1) := by decide +kernel
theorem dX12_isSo_31 : decode cX12_isSo 31 = .ok (.iinc 3 1, 3) := by decide +kernel
theorem dX12_isSo_34 : decode cX12_isSo 34 = .ok (.goto (-27), 3) := by decide +kernel
theorem dX12_isSo_37 : decode cX12_isSo 37 = .ok (.iconst 1, 1) := by decide +kernel
theorem dX12_isSo_38 : decode cX12_isSo 38 = .ok (.ireturn, 1) := by decide +kernel
set_option maxRecDepth 20000 in
theorem ggX12_fits_X12_isRow : GoodIn wsX12_fits wsX12_isRow := goodIn_r _ [7, 8, 9, 6, 10] rfl (by decide +kernel)
set_option maxRecDepth 20000 in
theorem gX12_fits_X12_isRow : GoodIn wsX12_fits (va_wsS RX12 228 yX12_isRow wsX12_isRow) := goodIn_app (goodIn_of _ (by decide +kernel)) ggX12_fits_X12_isRow
set_option maxRecDepth 20000 in
theorem ggX12_fits_X12_in : GoodIn wsX12_fits wsX12_in := goodIn_r _ [10] rfl (by decide +kernel)
set_option maxRecDepth 20000 in
theorem gX12_fits_X12_in : GoodIn wsX12_fits (va_wsS RX12 101 yX12_in wsX12_in) := goodIn_app (goodIn_of _ (by decide +kernel)) ggX12_fits_X12_in
set_option maxRecDepth 20000 in
theorem ggX12_fits_X12_isName : GoodIn wsX12_fits wsX12_isName := goodIn_r _ [13, 14] rfl (by decide +kernel)
set_option maxRecDepth 20000 in
theorem gX12_fits_X12_isName : GoodIn wsX12_fits (va_wsS RX12 110 yX12_isName wsX12_isName) := goodIn_app (goodIn_of _ (by decide +kernel)) ggX12_fits_X12_isName
set_option maxRecDepth 20000 in
theorem ggX12_fits_X12_find : GoodIn wsX12_fits wsX12_find := goodIn_r _ [18, 2, 19, 91, 92, 93, 94, 95, 96, 97, 98, 99, 100, 101, 102, 103, 104, 105, 106, 107, 108, 109, 110, 111, 112, 113, 114, 115, 116, 117, 118, 119, 120, 121, 122] rfl (by decide +kernel)
set_option maxRecDepth 20000 in
theorem gX12_fits_X12_find : GoodIn wsX12_fits (wsV RX12 113 RX12 yX12_find wsX12_find) := goodIn_app (goodIn_of _ (by decide +kernel)) ggX12_fits_X12_find
set_option maxRecDepth 20000 in
theorem ggX12_fits_X12_isSo : GoodIn wsX12_fits wsX12_isSo := goodIn_r _ [23, 24, 25, 26, 27, 28, 6, 29, 2, 30, 31, 32, 33, 34, 35, 36, 37, 38, 39, 40, 41, 42, 43, 3, 44, 45, 46, 47, 48, 49, 50, 51, 52, 53, 54, 55, 56, 57, 58, 59, 60, 61, 62, 63, 64, 65, 66, 67, 68, 69, 70, 71, 72, 73, 74, 75, 76, 77, 78, 79, 80, 81, 82, 83, 84, 85, 86, 87, 88, 89, 90, 91, 92, 93, 94, 95, 96, 97, 98, 99, 100, 101, 102, 103, 104, 105, 106, 107, 108, 109, 110, 111, 112, 113, 114, 115, 116, 117, 118, 119, 120, 121, 122] rfl (by decide +kernel)
set_option maxRecDepth 20000 in
theorem gX12_fits_X12_isSo : GoodIn wsX12_fits (wsV RX12 231 RX12 yX12_isSo wsX12_isSo) := goodIn_app (goodIn_of _ (by decide +kernel)) ggX12_fits_X12_isSo
theorem dX12_fits_0 : decode cX12_fits 0 = .ok (.iload_n 1, 1) := by decide +kernel
theorem dX12_fits_1 : decode cX12_fits 1 = .ok (.invokestatic 228, 3) := by decide +kernel
theorem dX12_fits_4 : decode cX12_fits 4 = .ok (.ifCond .eq 30, 3) := by decide +kernel
theorem dX12_fits_7 : decode cX12_fits 7 = .ok (.iload_n 2, 1) := by decide +kernel
theorem dX12_fits_8 : decode cX12_fits 8 = .ok (.iconst 0, 1) := by decide +kernel
theorem dX12_fits_9 : decode cX12_fits 9 = .ok (.bipush 17, 2) := by decide +kernel
theorem dX12_fits_11 : decode cX12_fits 11 = .ok (.invokestatic 101, 3) := by decide +kernel
theorem dX12_fits_14 : decode cX12_fits 14 = .ok (.ifCond .eq 20, 3) := by decide +kernel
theorem dX12_fits_17 : decode cX12_fits 17 = .ok (.iload_n 3, 1) := by decide +kernel
theorem dX12_fits_18 : decode cX12_fits 18 = .ok (.invokestatic 110, 3) := by decide +kernel
theorem dX12_fits_21 : decode cX12_fits 21 = .ok (.ifCond .eq 13, 3) := by decide +kernel
theorem dX12_fits_24 : decode cX12_fits 24 = .ok (.iload 4, 2) := by decide +kernel
theorem dX12_fits_26 : decode cX12_fits 26 = .ok (.iconst 0, 1) := by decide +kernel
theorem dX12_fits_27 : decode cX12_fits 27 = .ok (.iconst 1, 1) := by decide +kernel
theorem dX12_fits_28 : decode cX12_fits 28 = .ok (.invokestatic 101, 3) := by decide +kernel
theorem dX12_fits_31 : decode cX12_fits 31 = .ok (.ifCond .ne 5, 3) := by decide +kernel
theorem dX12_fits_34 : decode cX12_fits 34 = .ok (.iconst (-1), 1) := by decide +kernel
theorem dX12_fits_35 : decode cX12_fits 35 = .ok (.ireturn, 1) := by decide +kernel
theorem dX12_fits_36 : decode cX12_fits 36 = .ok (.aload_n 0, 1) := by decide +kernel
theorem dX12_fits_37 : decode cX12_fits 37 = .ok (.iload_n 3, 1) := by decide +kernel
theorem dX12_fits_38 : decode cX12_fits 38 = .ok (.invokevirtual 113, 3) := by decide +kernel
theorem dX12_fits_41 : decode cX12_fits 41 = .ok (.istore 5, 2) := by decide +kernel
theorem dX12_fits_43 : decode cX12_fits 43 = .ok (.iload 5, 2) := by decide +kernel
theorem dX12_fits_45 : decode cX12_fits 45 = .ok (.ifCond .ge 6, 3) := by decide +kernel
theorem dX12_fits_48 : decode cX12_fits 48 = .ok (.bipush (-2), 2) := by decide +kernel
theorem dX12_fits_50 : decode cX12_fits 50 = .ok (.ireturn, 1) := by decide +kernel
theorem dX12_fits_51 : decode cX12_fits 51 = .ok (.aload_n 0, 1) := by decide +kernel
theorem dX12_fits_52 : decode cX12_fits 52 = .ok (.getfield 77, 3) := by decide +kernel
theorem dX12_fits_55 : decode cX12_fits 55 = .ok (.iload_n 1, 1) := by decide +kernel
theorem dX12_fits_56 : decode cX12_fits 56 = .ok (.iaload, 1) := by decide +kernel
theorem dX12_fits_57 : decode cX12_fits 57 = .ok (.ifCond .ge 6, 3) := by decide +kernel
theorem dX12_fits_60 : decode cX12_fits 60 = .ok (.bipush (-11), 2) := by decide +kernel
theorem dX12_fits_62 : decode cX12_fits 62 = .ok (.ireturn, 1) := by decide +kernel
theorem dX12_fits_63 : decode cX12_fits 63 = .ok (.aload_n 0, 1) := by decide +kernel
theorem dX12_fits_64 : decode cX12_fits 64 = .ok (.getfield 77, 3) := by decide +kernel
theorem dX12_fits_67 : decode cX12_fits 67 = .ok (.iload_n 1, 1) := by decide +kernel
theorem dX12_fits_68 : decode cX12_fits 68 = .ok (.iaload, 1) := by decide +kernel
theorem dX12_fits_69 : decode cX12_fits 69 = .ok (.iload_n 2, 1) := by decide +kernel
theorem dX12_fits_70 : decode cX12_fits 70 = .ok (.if_icmp .ge 6, 3) := by decide +kernel
theorem dX12_fits_73 : decode cX12_fits 73 = .ok (.bipush (-13), 2) := by decide +kernel
theorem dX12_fits_75 : decode cX12_fits 75 = .ok (.ireturn, 1) := by decide +kernel
theorem dX12_fits_76 : decode cX12_fits 76 = .ok (.aload_n 0, 1) := by decide +kernel
theorem dX12_fits_77 : decode cX12_fits 77 = .ok (.getfield 98, 3) := by decide +kernel
theorem dX12_fits_80 : decode cX12_fits 80 = .ok (.iconst 1, 1) := by decide +kernel
theorem dX12_fits_81 : decode cX12_fits 81 = .ok (.iadd, 1) := by decide +kernel
theorem dX12_fits_82 : decode cX12_fits 82 = .ok (.iload_n 2, 1) := by decide +kernel
theorem dX12_fits_83 : decode cX12_fits 83 = .ok (.if_icmp .ge 6, 3) := by decide +kernel
theorem dX12_fits_86 : decode cX12_fits 86 = .ok (.bipush (-5), 2) := by decide +kernel
theorem dX12_fits_88 : decode cX12_fits 88 = .ok (.ireturn, 1) := by decide +kernel
theorem dX12_fits_89 : decode cX12_fits 89 = .ok (.aload_n 0, 1) := by decide +kernel
theorem dX12_fits_90 : decode cX12_fits 90 = .ok (.getfield 34, 3) := by decide +kernel
theorem dX12_fits_93 : decode cX12_fits 93 = .ok (.iload 5, 2) := by decide +kernel
theorem dX12_fits_95 : decode cX12_fits 95 = .ok (.iaload, 1) := by decide +kernel
theorem dX12_fits_96 : decode cX12_fits 96 = .ok (.istore 6, 2) := by decide +kernel
theorem dX12_fits_98 : decode cX12_fits 98 = .ok (.iconst 0, 1) := by decide +kernel
theorem dX12_fits_99 : decode cX12_fits 99 = .ok (.istore 7, 2) := by decide +kernel
theorem dX12_fits_101 : decode cX12_fits 101 = .ok (.bipush (-2), 2) := by decide +kernel
theorem dX12_fits_103 : decode cX12_fits 103 = .ok (.istore 8, 2) := by decide +kernel
theorem dX12_fits_105 : decode cX12_fits 105 = .ok (.sipush 999, 3) := by decide +kernel
theorem dX12_fits_108 : decode cX12_fits 108 = .ok (.istore 9, 2) := by decide +kernel
theorem dX12_fits_110 : decode cX12_fits 110 = .ok (.iload 9, 2) := by decide +kernel
theorem dX12_fits_112 : decode cX12_fits 112 = .ok (.iconst 1, 1) := by decide +kernel
theorem dX12_fits_113 : decode cX12_fits 113 = .ok (.if_icmp .lt 37, 3) := by decide +kernel
theorem dX12_fits_116 : decode cX12_fits 116 = .ok (.aload_n 0, 1) := by decide +kernel
theorem dX12_fits_117 : decode cX12_fits 117 = .ok (.getfield 34, 3) := by decide +kernel
theorem dX12_fits_120 : decode cX12_fits 120 = .ok (.iload 5, 2) := by decide +kernel
theorem dX12_fits_122 : decode cX12_fits 122 = .ok (.iload 9, 2) := by decide +kernel
theorem dX12_fits_124 : decode cX12_fits 124 = .ok (.iastore, 1) := by decide +kernel
theorem dX12_fits_125 : decode cX12_fits 125 = .ok (.aload_n 0, 1) := by decide +kernel
theorem dX12_fits_126 : decode cX12_fits 126 = .ok (.iload_n 1, 1) := by decide +kernel
theorem dX12_fits_127 : decode cX12_fits 127 = .ok (.iload_n 2, 1) := by decide +kernel
theorem dX12_fits_128 : decode cX12_fits 128 = .ok (.invokevirtual 231, 3) := by decide +kernel
theorem dX12_fits_131 : decode cX12_fits 131 = .ok (.ifCond .ne 6, 3) := by decide +kernel
theorem dX12_fits_134 : decode cX12_fits 134 = .ok (.goto 10, 3) := by decide +kernel
theorem dX12_fits_137 : decode cX12_fits 137 = .ok (.iinc 7 1, 3) := by decide +kernel
theorem dX12_fits_140 : decode cX12_fits 140 = .ok (.iload 9, 2) := by decide +kernel
theorem dX12_fits_142 : decode cX12_fits 142 = .ok (.istore 8, 2) := by decide +kernel
theorem dX12_fits_144 : decode cX12_fits 144 = .ok (.iinc 9 (-1), 3) := by decide +kernel
theorem dX12_fits_147 : decode cX12_fits 147 = .ok (.goto (-37), 3) := by decide +kernel
theorem dX12_fits_150 : decode cX12_fits 150 = .ok (.aload_n 0, 1) := by decide +kernel
theorem dX12_fits_151 : decode cX12_fits 151 = .ok (.getfield 34, 3) := by decide +kernel
theorem dX12_fits_154 : decode cX12_fits 154 = .ok (.iload 5, 2) := by decide +kernel
theorem dX12_fits_156 : decode cX12_fits 156 = .ok (.iload 6, 2) := by decide +kernel
theorem dX12_fits_158 : decode cX12_fits 158 = .ok (.iastore, 1) := by decide +kernel
theorem dX12_fits_159 : decode cX12_fits 159 = .ok (.iload 4, 2) := by decide +kernel
theorem dX12_fits_161 : decode cX12_fits 161 = .ok (.ifCond .ne 8, 3) := by decide +kernel
theorem dX12_fits_164 : decode cX12_fits 164 = .ok (.iload 7, 2) := by decide +kernel
theorem dX12_fits_166 : decode cX12_fits 166 = .ok (.goto 5, 3) := by decide +kernel
theorem dX12_fits_169 : decode cX12_fits 169 = .ok (.iload 8, 2) := by decide +kernel
theorem dX12_fits_171 : decode cX12_fits 171 = .ok (.ireturn, 1) := by decide +kernel
theorem dX12_says_0 : decode cX12_says 0 = .ok (.aload_n 0, 1) := by decide +kernel
theorem dX12_says_1 : decode cX12_says 1 = .ok (.getfield 64, 3) := by decide +kernel
theorem dX12_says_4 : decode cX12_says 4 = .ok (.aload_n 0, 1) := by decide +kernel
theorem dX12_says_5 : decode cX12_says 5 = .ok (.getfield 234, 3) := by decide +kernel
theorem dX12_says_8 : decode cX12_says 8 = .ok (.iload_n 1, 1) := by decide +kernel
theorem dX12_says_9 : decode cX12_says 9 = .ok (.i2b, 1) := by decide +kernel
theorem dX12_says_10 : decode cX12_says 10 = .ok (.bastore, 1) := by decide +kernel
theorem dX12_says_11 : decode cX12_says 11 = .ok (.aload_n 0, 1) := by decide +kernel
theorem dX12_says_12 : decode cX12_says 12 = .ok (.dup, 1) := by decide +kernel
theorem dX12_says_13 : decode cX12_says 13 = .ok (.getfield 234, 3) := by decide +kernel
theorem dX12_says_16 : decode cX12_says 16 = .ok (.iconst 1, 1) := by decide +kernel
theorem dX12_says_17 : decode cX12_says 17 = .ok (.iadd, 1) := by decide +kernel
theorem dX12_says_18 : decode cX12_says 18 = .ok (.putfield 234, 3) := by decide +kernel
theorem dX12_says_21 : decode cX12_says 21 = .ok (.return_, 1) := by decide +kernel
set_option maxRecDepth 20000 in
theorem ggX12_saysNumber_X12_saysNumber : GoodIn wsX12_saysNumber wsX12_saysNumber := goodIn_r _ [0, 1, 2, 3, 4, 5, 6, 7, 8, 9, 10, 11, 12, 13, 14, 15, 16, 17, 18, 19, 20, 21, 22, 23, 24, 25, 26, 27, 28, 29, 30, 31, 32, 33, 34, 35, 36, 37, 38, 39, 40, 41, 42] rfl (by decide +kernel)
set_option maxRecDepth 20000 in
theorem gX12_saysNumber_X12_saysNumber : GoodIn wsX12_saysNumber (wsV RX12 237 RX12 yX12_saysNumber wsX12_saysNumber) := goodIn_app (goodIn_of _ (by decide +kernel)) ggX12_saysNumber_X12_saysNumber
set_option maxRecDepth 20000 in
theorem ggX12_saysNumber_X12_says : GoodIn wsX12_saysNumber wsX12_says := goodIn_r _ [8, 9, 10, 11, 12, 13, 14, 15, 16, 17, 18, 19, 20, 21, 22, 23, 24, 25, 26, 27, 28, 29, 30, 31, 32, 33, 34, 35, 36, 37, 38, 39, 40, 41, 42] rfl (by decide +kernel)
set_option maxRecDepth 20000 in
theorem gX12_saysNumber_X12_says : GoodIn wsX12_saysNumber (wsV RX12 240 RX12 yX12_says wsX12_says) := goodIn_app (goodIn_of _ (by decide +kernel)) ggX12_saysNumber_X12_says
theorem dX12_saysNumber_0 : decode cX12_saysNumber 0 = .ok (.iload_n 1, 1) := by decide +kernel
theorem dX12_saysNumber_1 : decode cX12_saysNumber 1 = .ok (.bipush 10, 2) := by decide +kernel
theorem dX12_saysNumber_3 : decode cX12_saysNumber 3 = .ok (.if_icmp .lt 11, 3) := by decide +kernel
theorem dX12_saysNumber_6 : decode cX12_saysNumber 6 = .ok (.aload_n 0, 1) := by decide +kernel
theorem dX12_saysNumber_7 : decode cX12_saysNumber 7 = .ok (.iload_n 1, 1) := by decide +kernel
theorem dX12_saysNumber_8 : decode cX12_saysNumber 8 = .ok (.bipush 10, 2) := by decide +kernel
theorem dX12_saysNumber_10 : decode cX12_saysNumber 10 = .ok (.idiv, 1) := by decide +kernel
theorem dX12_saysNumber_11 : decode cX12_saysNumber 11 = .ok (.invokevirtual 237, 3) := by decide +kernel
theorem dX12_saysNumber_14 : decode cX12_saysNumber 14 = .ok (.aload_n 0, 1) := by decide +kernel
theorem dX12_saysNumber_15 : decode cX12_saysNumber 15 = .ok (.bipush 48, 2) := by decide +kernel
theorem dX12_saysNumber_17 : decode cX12_saysNumber 17 = .ok (.iload_n 1, 1) := by decide +kernel
theorem dX12_saysNumber_18 : decode cX12_saysNumber 18 = .ok (.bipush 10, 2) := by decide +kernel
theorem dX12_saysNumber_20 : decode cX12_saysNumber 20 = .ok (.irem, 1) := by decide +kernel
theorem dX12_saysNumber_21 : decode cX12_saysNumber 21 = .ok (.iadd, 1) := by decide +kernel
theorem dX12_saysNumber_22 : decode cX12_saysNumber 22 = .ok (.invokevirtual 240, 3) := by decide +kernel
theorem dX12_saysNumber_25 : decode cX12_saysNumber 25 = .ok (.return_, 1) := by decide +kernel
set_option maxRecDepth 20000 in
theorem ggX12_saysName_X12_saysName : GoodIn wsX12_saysName wsX12_saysName := goodIn_r _ [0, 1, 2, 3, 4, 5, 6, 7, 8, 9, 10, 11, 12, 13, 14, 15, 16, 17, 18, 19, 20, 21, 22, 23, 24, 25, 26, 27, 28, 29, 30, 31, 32, 33, 34, 35, 36, 37, 38, 39, 40, 41, 42] rfl (by decide +kernel)
set_option maxRecDepth 20000 in
theorem gX12_saysName_X12_saysName : GoodIn wsX12_saysName (wsV RX12 243 RX12 yX12_saysName wsX12_saysName) := goodIn_app (goodIn_of _ (by decide +kernel)) ggX12_saysName_X12_saysName
set_option maxRecDepth 20000 in
theorem ggX12_saysName_X12_says : GoodIn wsX12_saysName wsX12_says := goodIn_r _ [8, 9, 10, 11, 12, 13, 14, 15, 16, 17, 18, 19, 20, 21, 22, 23, 24, 25, 26, 27, 28, 29, 30, 31, 32, 33, 34, 35, 36, 37, 38, 39, 40, 41, 42] rfl (by decide +kernel)
set_option maxRecDepth 20000 in
theorem gX12_saysName_X12_says : GoodIn wsX12_saysName (wsV RX12 240 RX12 yX12_says wsX12_says) := goodIn_app (goodIn_of _ (by decide +kernel)) ggX12_saysName_X12_says
theorem dX12_saysName_0 : decode cX12_saysName 0 = .ok (.iload_n 1, 1) := by decide +kernel
theorem dX12_saysName_1 : decode cX12_saysName 1 = .ok (.bipush 27, 2) := by decide +kernel
theorem dX12_saysName_3 : decode cX12_saysName 3 = .ok (.if_icmp .lt 11, 3) := by decide +kernel
theorem dX12_saysName_6 : decode cX12_saysName 6 = .ok (.aload_n 0, 1) := by decide +kernel
theorem dX12_saysName_7 : decode cX12_saysName 7 = .ok (.iload_n 1, 1) := by decide +kernel
theorem dX12_saysName_8 : decode cX12_saysName 8 = .ok (.bipush 27, 2) := by decide +kernel
theorem dX12_saysName_10 : decode cX12_saysName 10 = .ok (.idiv, 1) := by decide +kernel
theorem dX12_saysName_11 : decode cX12_saysName 11 = .ok (.invokevirtual 243, 3) := by decide +kernel
theorem dX12_saysName_14 : decode cX12_saysName 14 = .ok (.aload_n 0, 1) := by decide +kernel
theorem dX12_saysName_15 : decode cX12_saysName 15 = .ok (.bipush 97, 2) := by decide +kernel
theorem dX12_saysName_17 : decode cX12_saysName 17 = .ok (.iload_n 1, 1) := by decide +kernel
theorem dX12_saysName_18 : decode cX12_saysName 18 = .ok (.bipush 27, 2) := by decide +kernel
theorem dX12_saysName_20 : decode cX12_saysName 20 = .ok (.irem, 1) := by decide +kernel
theorem dX12_saysName_21 : decode cX12_saysName 21 = .ok (.iadd, 1) := by decide +kernel
theorem dX12_saysName_22 : decode cX12_saysName 22 = .ok (.iconst 1, 1) := by decide +kernel
theorem dX12_saysName_23 : decode cX12_saysName 23 = .ok (.isub, 1) := by decide +kernel
theorem dX12_saysName_24 : decode cX12_saysName 24 = .ok (.invokevirtual 240, 3) := by decide +kernel
theorem dX12_saysName_27 : decode cX12_saysName 27 = .ok (.return_, 1) := by decide +kernel
set_option maxRecDepth 20000 in
theorem ggX12_layReport_X12_saysName : GoodIn wsX12_layReport wsX12_saysName := goodIn_r _ [16, 12, 13, 14, 15, 17, 18, 19, 20, 21, 1, 67, 68, 69, 70, 71, 72, 73, 74, 75, 76, 77, 78, 79, 80, 81, 82, 83, 84, 85, 86, 87, 88, 89, 90, 91, 92, 93, 94, 95, 96, 97, 98] rfl (by decide +kernel)
set_option maxRecDepth 20000 in
theorem gX12_layReport_X12_saysName : GoodIn wsX12_layReport (wsV RX12 243 RX12 yX12_saysName wsX12_saysName) := goodIn_app (goodIn_of _ (by decide +kernel)) ggX12_layReport_X12_saysName
set_option maxRecDepth 20000 in
theorem ggX12_layReport_J0_charAt_5068e : GoodIn wsX12_layReport wsJ0_charAt_5068e := goodIn_r _ [26, 27, 28, 29, 30, 25, 31, 32, 33, 34, 35, 36, 37, 38, 39, 40, 41, 42, 43, 44, 45, 46, 47, 48, 49, 50, 51, 52, 53, 54, 55, 56, 57, 58, 59, 60, 61, 62] rfl (by decide +kernel)
set_option maxRecDepth 20000 in
theorem gX12_layReport_J0_charAt_5068e : GoodIn wsX12_layReport (wsV RX12 248 RJ0 yJ0_charAt_5068e wsJ0_charAt_5068e) := goodIn_app (goodIn_of _ (by decide +kernel)) ggX12_layReport_J0_charAt_5068e
set_option maxRecDepth 20000 in
theorem ggX12_layReport_X12_says : GoodIn wsX12_layReport wsX12_says := goodIn_r _ [20, 21, 1, 67, 68, 69, 70, 71, 72, 73, 74, 75, 76, 77, 78, 79, 80, 81, 82, 83, 84, 85, 86, 87, 88, 89, 90, 91, 92, 93, 94, 95, 96, 97, 98] rfl (by decide +kernel)
set_option maxRecDepth 20000 in
theorem gX12_layReport_X12_says : GoodIn wsX12_layReport (wsV RX12 240 RX12 yX12_says wsX12_says) := goodIn_app (goodIn_of _ (by decide +kernel)) ggX12_layReport_X12_says
set_option maxRecDepth 20000 in
theorem ggX12_layReport_X12_saysNumber : GoodIn wsX12_layReport wsX12_saysNumber := goodIn_r _ [66, 63, 64, 65, 15, 17, 18, 19, 20, 21, 1, 67, 68, 69, 70, 71, 72, 73, 74, 75, 76, 77, 78, 79, 80, 81, 82, 83, 84, 85, 86, 87, 88, 89, 90, 91, 92, 93, 94, 95, 96, 97, 98] rfl (by decide +kernel)
set_option maxRecDepth 20000 in
theorem gX12_layReport_X12_saysNumber : GoodIn wsX12_layReport (wsV RX12 237 RX12 yX12_saysNumber wsX12_saysNumber) := goodIn_app (goodIn_of _ (by decide +kernel)) ggX12_layReport_X12_saysNumber
theorem dX12_layReport_0 : decode cX12_layReport 0 = .ok (.aload_n 0, 1) := by decide +kernel
theorem dX12_layReport_1 : decode cX12_layReport 1 = .ok (.iconst 0, 1) := by decide +kernel
theorem dX12_layReport_2 : decode cX12_layReport 2 = .ok (.putfield 234, 3) := by decide +kernel
theorem dX12_layReport_5 : decode cX12_layReport 5 = .ok (.iconst 0, 1) := by decide +kernel
theorem dX12_layReport_6 : decode cX12_layReport 6 = .ok (.istore_n 1, 1) := by decide +kernel
theorem dX12_layReport_7 : decode cX12_layReport 7 = .ok (.iload_n 1, 1) := by decide +kernel
theorem dX12_layReport_8 : decode cX12_layReport 8 = .ok (.aload_n 0, 1) := by decide +kernel
theorem dX12_layReport_9 : decode cX12_layReport 9 = .ok (.getfield 98, 3) := by decide +kernel
theorem dX12_layReport_12 : decode cX12_layReport 12 = .ok (.if_icmp .ge 108, 3) := by decide +kernel
theorem dX12_layReport_15 : decode cX12_layReport 15 = .ok (.aload_n 0, 1) := by decide +kernel
theorem dX12_layReport_16 : decode cX12_layReport 16 = .ok (.aload_n 0, 1) := by decide +kernel
theorem dX12_layReport_17 : decode cX12_layReport 17 = .ok (.getfield 28, 3) := by decide +kernel
theorem dX12_layReport_20 : decode cX12_layReport 20 = .ok (.iload_n 1, 1) := by decide +kernel
theorem dX12_layReport_21 : decode cX12_layReport 21 = .ok (.iaload, 1) := by decide +kernel
theorem dX12_layReport_22 : decode cX12_layReport 22 = .ok (.invokevirtual 243, 3) := by decide +kernel
theorem dX12_layReport_25 : decode cX12_layReport 25 = .ok (.aload_n 0, 1) := by decide +kernel
theorem dX12_layReport_26 : decode cX12_layReport 26 = .ok (.ldc 246, 2) := by decide +kernel
theorem dX12_layReport_28 : decode cX12_layReport 28 = .ok (.aload_n 0, 1) := by decide +kernel
theorem dX12_layReport_29 : decode cX12_layReport 29 = .ok (.getfield 31, 3) := by decide +kernel
theorem dX12_layReport_32 : decode cX12_layReport 32 = .ok (.iload_n 1, 1) := by decide +kernel
theorem dX12_layReport_33 : decode cX12_layReport 33 = .ok (.iaload, 1) := by decide +kernel
theorem dX12_layReport_34 : decode cX12_layReport 34 = .ok (.invokevirtual 248, 3) := by decide +kernel
theorem dX12_layReport_37 : decode cX12_layReport 37 = .ok (.invokevirtual 240, 3) := by decide +kernel
theorem dX12_layReport_40 : decode cX12_layReport 40 = .ok (.aload_n 0, 1) := by decide +kernel
theorem dX12_layReport_41 : decode cX12_layReport 41 = .ok (.aload_n 0, 1) := by decide +kernel
theorem dX12_layReport_42 : decode cX12_layReport 42 = .ok (.getfield 34, 3) := by decide +kernel
theorem dX12_layReport_45 : decode cX12_layReport 45 = .ok (.iload_n 1, 1) := by decide +kernel
theorem dX12_layReport_46 : decode cX12_layReport 46 = .ok (.iaload, 1) := by decide +kernel
theorem dX12_layReport_47 : decode cX12_layReport 47 = .ok (.invokevirtual 237, 3) := by decide +kernel
theorem dX12_layReport_50 : decode cX12_layReport 50 = .ok (.aload_n 0, 1) := by decide +kernel
theorem dX12_layReport_51 : decode cX12_layReport 51 = .ok (.bipush 64, 2) := by decide +kernel
theorem dX12_layReport_53 : decode cX12_layReport 53 = .ok (.invokevirtual 240, 3) := by decide +kernel
theorem dX12_layReport_56 : decode cX12_layReport 56 = .ok (.aload_n 0, 1) := by decide +kernel
theorem dX12_layReport_57 : decode cX12_layReport 57 = .ok (.aload_n 0, 1) := by decide +kernel
theorem dX12_layReport_58 : decode cX12_layReport 58 = .ok (.getfield 37, 3) := by decide +kernel
theorem dX12_layReport_61 : decode cX12_layReport 61 = .ok (.iload_n 1, 1) := by decide +kernel
theorem dX12_layReport_62 : decode cX12_layReport 62 = .ok (.iaload, 1) := by decide +kernel
theorem dX12_layReport_63 : decode cX12_layReport 63 = .ok (.invokevirtual 237, 3) := by decide +kernel
theorem dX12_layReport_66 : decode cX12_layReport 66 = .ok (.aload_n 0, 1) := by decide +kernel
theorem dX12_layReport_67 : decode cX12_layReport 67 = .ok (.getfield 40, 3) := by decide +kernel
theorem dX12_layReport_70 : decode cX12_layReport 70 = .ok (.iload_n 1, 1) := by decide +kernel
theorem dX12_layReport_71 : decode cX12_layReport 71 = .ok (.iaload, 1) := by decide +kernel
theorem dX12_layReport_72 : decode cX12_layReport 72 = .ok (.ifCond .eq 36, 3) := by decide +kernel
theorem dX12_layReport_75 : decode cX12_layReport 75 = .ok (.aload_n 0, 1) := by decide +kernel
theorem dX12_layReport_76 : decode cX12_layReport 76 = .ok (.aload_n 0, 1) := by decide +kernel
theorem dX12_layReport_77 : decode cX12_layReport 77 = .ok (.getfield 40, 3) := by decide +kernel
theorem dX12_layReport_80 : decode cX12_layReport 80 = .ok (.iload_n 1, 1) := by decide +kernel
theorem dX12_layReport_81 : decode cX12_layReport 81 = .ok (.iaload, 1) := by decide +kernel
theorem dX12_layReport_82 : decode cX12_layReport 82 = .ok (.ifCond .ge 8, 3) := by decide +kernel
theorem dX12_layReport_85 : decode cX12_layReport 85 = .ok (.bipush 108, 2) := by decide +kernel
theorem dX12_layReport_87 : decode cX12_layReport 87 = .ok (.goto 5, 3) := by decide +kernel
theorem dX12_layReport_90 : decode cX12_layReport 90 = .ok (.bipush 114, 2) := by decide +kernel
theorem dX12_layReport_92 : decode cX12_layReport 92 = .ok (.invokevirtual 240, 3) := by decide +kernel
theorem dX12_layReport_95 : decode cX12_layReport 95 = .ok (.aload_n 0, 1) := by decide +kernel
theorem dX12_layReport_96 : decode cX12_layReport 96 = .ok (.aload_n 0, 1) := by decide +kernel
theorem dX12_layReport_97 : decode cX12_layReport 97 = .ok (.getfield 40, 3) := by decide +kernel
theorem dX12_layReport_100 : decode cX12_layReport 100 = .ok (.iload_n 1, 1) := by decide +kernel
theorem dX12_layReport_101 : decode cX12_layReport 101 = .ok (.iaload, 1) := by decide +kernel
theorem dX12_layReport_102 : decode cX12_layReport 102 = .ok (.invokestatic 188, 3) := by decide +kernel
theorem dX12_layReport_105 : decode cX12_layReport 105 = .ok (.invokevirtual 237, 3) := by decide +kernel
theorem dX12_layReport_108 : decode cX12_layReport 108 = .ok (.aload_n 0, 1) := by decide +kernel
theorem dX12_layReport_109 : decode cX12_layReport 109 = .ok (.bipush 59, 2) := by decide +kernel
theorem dX12_layReport_111 : decode cX12_layReport 111 = .ok (.invokevirtual 240, 3) := by decide +kernel
theorem dX12_layReport_114 : decode cX12_layReport 114 = .ok (.iinc 1 1, 3) := by decide +kernel
theorem dX12_layReport_117 : decode cX12_layReport 117 = .ok (.goto (-110), 3) := by decide +kernel
theorem dX12_layReport_120 : decode cX12_layReport 120 = .ok (.return_, 1) := by decide +kernel
set_option maxRecDepth 20000 in
theorem ggX12_say_X12_layReport : GoodIn wsX12_say wsX12_layReport := goodIn_r _ [7, 1, 8, 9, 10, 11, 12, 13, 14, 15, 16, 17, 18, 19, 20, 6, 21, 22, 23, 24, 25, 2, 26, 27, 28, 29, 30, 31, 32, 33, 34, 35, 36, 37, 38, 39, 40, 41, 42, 43, 44, 45, 46, 47, 48, 49, 50, 51, 52, 53, 54, 55, 56, 57, 58, 59, 60, 61, 62, 63, 64, 65, 66, 67, 68, 69, 70, 71, 72, 73, 74, 75, 76, 77, 78, 79, 80, 81, 82, 83, 84, 85, 86, 87, 88, 89, 90, 91, 92, 93, 94, 95, 96, 97, 98, 99, 100, 101, 102] rfl (by decide +kernel)
set_option maxRecDepth 20000 in
theorem gX12_say_X12_layReport : GoodIn wsX12_say (wsV RX12 254 RX12 yX12_layReport wsX12_layReport) := goodIn_app (goodIn_of _ (by decide +kernel)) ggX12_say_X12_layReport
theorem dX12_say_0 : decode cX12_say 0 = .ok (.iload_n 1, 1) := by decide +kernel
theorem dX12_say_1 : decode cX12_say 1 = .ok (.iconst (-1), 1) := by decide +kernel
theorem dX12_say_2 : decode cX12_say 2 = .ok (.if_icmp .ge 5, 3) := by decide +kernel
theorem dX12_say_5 : decode cX12_say 5 = .ok (.iconst (-1), 1) := by decide +kernel
theorem dX12_say_6 : decode cX12_say 6 = .ok (.ireturn, 1) := by decide +kernel
theorem dX12_say_7 : decode cX12_say 7 = .ok (.aload_n 0, 1) := by decide +kernel
theorem dX12_say_8 : decode cX12_say 8 = .ok (.invokevirtual 254, 3) := by decide +kernel
theorem dX12_say_11 : decode cX12_say 11 = .ok (.iload_n 1, 1) := by decide +kernel
theorem dX12_say_12 : decode cX12_say 12 = .ok (.iconst (-1), 1) := by decide +kernel
theorem dX12_say_13 : decode cX12_say 13 = .ok (.if_icmp .ne 10, 3) := by decide +kernel
theorem dX12_say_16 : decode cX12_say 16 = .ok (.aload_n 0, 1) := by decide +kernel
theorem dX12_say_17 : decode cX12_say 17 = .ok (.getfield 234, 3) := by decide +kernel
theorem dX12_say_20 : decode cX12_say 20 = .ok (.goto 22, 3) := by decide +kernel
theorem dX12_say_23 : decode cX12_say 23 = .ok (.iload_n 1, 1) := by decide +kernel
theorem dX12_say_24 : decode cX12_say 24 = .ok (.aload_n 0, 1) := by decide +kernel
theorem dX12_say_25 : decode cX12_say 25 = .ok (.getfield 234, 3) := by decide +kernel
theorem dX12_say_28 : decode cX12_say 28 = .ok (.if_icmp .ge 12, 3) := by decide +kernel
theorem dX12_say_31 : decode cX12_say 31 = .ok (.aload_n 0, 1) := by decide +kernel
theorem dX12_say_32 : decode cX12_say 32 = .ok (.getfield 64, 3) := by decide +kernel
theorem dX12_say_35 : decode cX12_say 35 = .ok (.iload_n 1, 1) := by decide +kernel
theorem dX12_say_36 : decode cX12_say 36 = .ok (.baload, 1) := by decide +kernel
theorem dX12_say_37 : decode cX12_say 37 = .ok (.goto 5, 3) := by decide +kernel
theorem dX12_say_40 : decode cX12_say 40 = .ok (.bipush (-2), 2) := by decide +kernel
theorem dX12_say_42 : decode cX12_say 42 = .ok (.ireturn, 1) := by decide +kernel
set_option maxRecDepth 20000 in
theorem ggX12_feed_X12_in : GoodIn wsX12_feed wsX12_in := goodIn_r _ [6] rfl (by decide +kernel)
set_option maxRecDepth 20000 in
theorem gX12_feed_X12_in : GoodIn wsX12_feed (va_wsS RX12 101 yX12_in wsX12_in) := goodIn_app (goodIn_of _ (by decide +kernel)) ggX12_feed_X12_in
theorem dX12_feed_0 : decode cX12_feed 0 = .ok (.iload_n 1, 1) := by decide +kernel
theorem dX12_feed_1 : decode cX12_feed 1 = .ok (.bipush 32, 2) := by decide +kernel
theorem dX12_feed_3 : decode cX12_feed 3 = .ok (.bipush 126, 2) := by decide +kernel
theorem dX12_feed_5 : decode cX12_feed 5 = .ok (.invokestatic 101, 3) := by decide +kernel
theorem dX12_feed_8 : decode cX12_feed 8 = .ok (.ifCond .ne 5, 3) := by decide +kernel
theorem dX12_feed_11 : decode cX12_feed 11 = .ok (.iconst (-1), 1) := by decide +kernel
theorem dX12_feed_12 : decode cX12_feed 12 = .ok (.ireturn, 1) := by decide +kernel
theorem dX12_feed_13 : decode cX12_feed 13 = .ok (.aload_n 0, 1) := by decide +kernel
theorem dX12_feed_14 : decode cX12_feed 14 = .ok (.getfield 257, 3) := by decide +kernel
theorem dX12_feed_17 : decode cX12_feed 17 = .ok (.bipush 80, 2) := by decide +kernel
theorem dX12_feed_19 : decode cX12_feed 19 = .ok (.if_icmp .ne 6, 3) := by decide +kernel
theorem dX12_feed_22 : decode cX12_feed 22 = .ok (.bipush (-3), 2) := by decide +kernel
theorem dX12_feed_24 : decode cX12_feed 24 = .ok (.ireturn, 1) := by decide +kernel
theorem dX12_feed_25 : decode cX12_feed 25 = .ok (.aload_n 0, 1) := by decide +kernel
theorem dX12_feed_26 : decode cX12_feed 26 = .ok (.getfield 68, 3) := by decide +kernel
theorem dX12_feed_29 : decode cX12_feed 29 = .ok (.aload_n 0, 1) := by decide +kernel
theorem dX12_feed_30 : decode cX12_feed 30 = .ok (.getfield 257, 3) := by decide +kernel
theorem dX12_feed_33 : decode cX12_feed 33 = .ok (.iload_n 1, 1) := by decide +kernel
theorem dX12_feed_34 : decode cX12_feed 34 = .ok (.i2b, 1) := by decide +kernel
theorem dX12_feed_35 : decode cX12_feed 35 = .ok (.bastore, 1) := by decide +kernel
theorem dX12_feed_36 : decode cX12_feed 36 = .ok (.aload_n 0, 1) := by decide +kernel
theorem dX12_feed_37 : decode cX12_feed 37 = .ok (.dup, 1) := by decide +kernel
theorem dX12_feed_38 : decode cX12_feed 38 = .ok (.getfield 257, 3) := by decide +kernel
theorem dX12_feed_41 : decode cX12_feed 41 = .ok (.iconst 1, 1) := by decide +kernel
theorem dX12_feed_42 : decode cX12_feed 42 = .ok (.iadd, 1) := by decide +kernel
theorem dX12_feed_43 : decode cX12_feed 43 = .ok (.putfield 257, 3) := by decide +kernel
theorem dX12_feed_46 : decode cX12_feed 46 = .ok (.aload_n 0, 1) := by decide +kernel
theorem dX12_feed_47 : decode cX12_feed 47 = .ok (.getfield 257, 3) := by decide +kernel
theorem dX12_feed_50 : decode cX12_feed 50 = .ok (.ireturn, 1) := by decide +kernel
theorem dX12_wipe_0 : decode cX12_wipe 0 = .ok (.aload_n 0, 1) := by decide +kernel
theorem dX12_wipe_1 : decode cX12_wipe 1 = .ok (.getfield 257, 3) := by decide +kernel
theorem dX12_wipe_4 : decode cX12_wipe 4 = .ok (.istore_n 1, 1) := by decide +kernel
theorem dX12_wipe_5 : decode cX12_wipe 5 = .ok (.aload_n 0, 1) := by decide +kernel
theorem dX12_wipe_6 : decode cX12_wipe 6 = .ok (.iconst 0, 1) := by decide +kernel
theorem dX12_wipe_7 : decode cX12_wipe 7 = .ok (.putfield 257, 3) := by decide +kernel
theorem dX12_wipe_10 : decode cX12_wipe 10 = .ok (.iload_n 1, 1) := by decide +kernel
theorem dX12_wipe_11 : decode cX12_wipe 11 = .ok (.ireturn, 1) := by decide +kernel
theorem dX12_isAt_0 : decode cX12_isAt 0 = .ok (.aload_n 0, 1) := by decide +kernel
theorem dX12_isAt_1 : decode cX12_isAt 1 = .ok (.getfield 260, 3) := by decide +kernel
theorem dX12_isAt_4 : decode cX12_isAt 4 = .ok (.aload_n 0, 1) := by decide +kernel
theorem dX12_isAt_5 : decode cX12_isAt 5 = .ok (.getfield 257, 3) := by decide +kernel
theorem dX12_isAt_8 : decode cX12_isAt 8 = .ok (.if_icmp .ge 20, 3) := by decide +kernel
theorem dX12_isAt_11 : decode cX12_isAt 11 = .ok (.aload_n 0, 1) := by decide +kernel
theorem dX12_isAt_12 : decode cX12_isAt 12 = .ok (.getfield 68, 3) := by decide +kernel
theorem dX12_isAt_15 : decode cX12_isAt 15 = .ok (.aload_n 0, 1) := by decide +kernel
theorem dX12_isAt_16 : decode cX12_isAt 16 = .ok (.getfield 260, 3) := by decide +kernel
theorem dX12_isAt_19 : decode cX12_isAt 19 = .ok (.baload, 1) := by decide +kernel
theorem dX12_isAt_20 : decode cX12_isAt 20 = .ok (.iload_n 1, 1) := by decide +kernel
theorem dX12_isAt_21 : decode cX12_isAt 21 = .ok (.if_icmp .ne 7, 3) := by decide +kernel
theorem dX12_isAt_24 : decode cX12_isAt 24 = .ok (.iconst 1, 1) := by decide +kernel
theorem dX12_isAt_25 : decode cX12_isAt 25 = .ok (.goto 4, 3) := by decide +kernel
theorem dX12_isAt_28 : decode cX12_isAt 28 = .ok (.iconst 0, 1) := by decide +kernel
theorem dX12_isAt_29 : decode cX12_isAt 29 = .ok (.ireturn, 1) := by decide +kernel
set_option maxRecDepth 20000 in
theorem ggX12_isLetter_X12_in : GoodIn wsX12_isLetter wsX12_in := goodIn_r _ [7] rfl (by decide +kernel)
set_option maxRecDepth 20000 in
theorem gX12_isLetter_X12_in : GoodIn wsX12_isLetter (va_wsS RX12 101 yX12_in wsX12_in) := goodIn_app (goodIn_of _ (by decide +kernel)) ggX12_isLetter_X12_in
theorem dX12_isLetter_0 : decode cX12_isLetter 0 = .ok (.aload_n 0, 1) := by decide +kernel
theorem dX12_isLetter_1 : decode cX12_isLetter 1 = .ok (.getfield 260, 3) := by decide +kernel
theorem dX12_isLetter_4 : decode cX12_isLetter 4 = .ok (.aload_n 0, 1) := by decide +kernel
theorem dX12_isLetter_5 : decode cX12_isLetter 5 = .ok (.getfield 257, 3) := by decide +kernel
theorem dX12_isLetter_8 : decode cX12_isLetter 8 = .ok (.if_icmp .ge 26, 3) := by decide +kernel
theorem dX12_isLetter_11 : decode cX12_isLetter 11 = .ok (.aload_n 0, 1) := by decide +kernel
theorem dX12_isLetter_12 : decode cX12_isLetter 12 = .ok (.getfield 68, 3) := by decide +kernel
theorem dX12_isLetter_15 : decode cX12_isLetter 15 = .ok (.aload_n 0, 1) := by decide +kernel
theorem dX12_isLetter_16 : decode cX12_isLetter 16 = .ok (.getfield 260, 3) := by decide +kernel
theorem dX12_isLetter_19 : decode cX12_isLetter 19 = .ok (.baload, 1) := by decide +kernel
theorem dX12_isLetter_20 : decode cX12_isLetter 20 = .ok (.bipush 97, 2) := by decide +kernel
theorem dX12_isLetter_22 : decode cX12_isLetter 22 = .ok (.bipush 122, 2) := by decide +kernel
theorem dX12_isLetter_24 : decode cX12_isLetter 24 = .ok (.invokestatic 101, 3) := by decide +kernel
theorem dX12_isLetter_27 : decode cX12_isLetter 27 = .ok (.ifCond .eq 7, 3) := by decide +kernel
theorem dX12_isLetter_30 : decode cX12_isLetter 30 = .ok (.iconst 1, 1) := by decide +kernel
theorem dX12_isLetter_31 : decode cX12_isLetter 31 = .ok (.goto 4, 3) := by decide +kernel
theorem dX12_isLetter_34 : decode cX12_isLetter 34 = .ok (.iconst 0, 1) := by decide +kernel
theorem dX12_isLetter_35 : decode cX12_isLetter 35 = .ok (.ireturn, 1) := by decide +kernel
set_option maxRecDepth 20000 in
theorem ggX12_isFigure_X12_in : GoodIn wsX12_isFigure wsX12_in := goodIn_r _ [7] rfl (by decide +kernel)
set_option maxRecDepth 20000 in
theorem gX12_isFigure_X12_in : GoodIn wsX12_isFigure (va_wsS RX12 101 yX12_in wsX12_in) := goodIn_app (goodIn_of _ (by decide +kernel)) ggX12_isFigure_X12_in
theorem dX12_isFigure_0 : decode cX12_isFigure 0 = .ok (.aload_n 0, 1) := by decide +kernel
theorem dX12_isFigure_1 : decode cX12_isFigure 1 = .ok (.getfield 260, 3) := by decide +kernel
theorem dX12_isFigure_4 : decode cX12_isFigure 4 = .ok (.aload_n 0, 1) := by decide +kernel
theorem dX12_isFigure_5 : decode cX12_isFigure 5 = .ok (.getfield 257, 3) := by decide +kernel
theorem dX12_isFigure_8 : decode cX12_isFigure 8 = .ok (.if_icmp .ge 26, 3) := by decide +kernel
theorem dX12_isFigure_11 : decode cX12_isFigure 11 = .ok (.aload_n 0, 1) := by decide +kernel
theorem dX12_isFigure_12 : decode cX12_isFigure 12 = .ok (.getfield 68, 3) := by decide +kernel
theorem dX12_isFigure_15 : decode cX12_isFigure 15 = .ok (.aload_n 0, 1) := by decide +kernel
theorem dX12_isFigure_16 : decode cX12_isFigure 16 = .ok (.getfield 260, 3) := by decide +kernel
theorem dX12_isFigure_19 : decode cX12_isFigure 19 = .ok (.baload, 1) := by decide +kernel
theorem dX12_isFigure_20 : decode cX12_isFigure 20 = .ok (.bipush 48, 2) := by decide +kernel
theorem dX12_isFigure_22 : decode cX12_isFigure 22 = .ok (.bipush 57, 2) := by decide +kernel
theorem dX12_isFigure_24 : decode cX12_isFigure 24 = .ok (.invokestatic 101, 3) := by decide +kernel
theorem dX12_isFigure_27 : decode cX12_isFigure 27 = .ok (.ifCond .eq 7, 3) := by decide +kernel
theorem dX12_isFigure_30 : decode cX12_isFigure 30 = .ok (.iconst 1, 1) := by decide +kernel
theorem dX12_isFigure_31 : decode cX12_isFigure 31 = .ok (.goto 4, 3) := by decide +kernel
theorem dX12_isFigure_34 : decode cX12_isFigure 34 = .ok (.iconst 0, 1) := by decide +kernel
theorem dX12_isFigure_35 : decode cX12_isFigure 35 = .ok (.ireturn, 1) := by decide +kernel
theorem dX12_wordOf_0 : decode cX12_wordOf 0 = .ok (.iload_n 0, 1) := by decide +kernel
theorem dX12_wordOf_1 : decode cX12_wordOf 1 = .ok (.tableswitch 47 0 3 #[31, 35, 39, 43], 31) := by decide +kernel
theorem dX12_wordOf_32 : decode cX12_wordOf 32 = .ok (.ldc_w 263, 3) := by decide +kernel
theorem dX12_wordOf_35 : decode cX12_wordOf 35 = .ok (.areturn, 1) := by decide +kernel
theorem dX12_wordOf_36 : decode cX12_wordOf 36 = .ok (.ldc_w 265, 3) := by decide +kernel
theorem dX12_wordOf_39 : decode cX12_wordOf 39 = .ok (.areturn, 1) := by decide +kernel
theorem dX12_wordOf_40 : decode cX12_wordOf 40 = .ok (.ldc_w 267, 3) := by decide +kernel
theorem dX12_wordOf_43 : decode cX12_wordOf 43 = .ok (.areturn, 1) := by decide +kernel
theorem dX12_wordOf_44 : decode cX12_wordOf 44 = .ok (.ldc_w 269, 3) := by decide +kernel
theorem dX12_wordOf_47 : decode cX12_wordOf 47 = .ok (.areturn, 1) := by decide +kernel
theorem dX12_wordOf_48 : decode cX12_wordOf 48 = .ok (.ldc_w 271, 3) := by decide +kernel
theorem dX12_wordOf_51 : decode cX12_wordOf 51 = .ok (.areturn, 1) := by decide +kernel
set_option maxRecDepth 20000 in
theorem ggX12_isWord_J0_length_8abf5 : GoodIn wsX12_isWord wsJ0_length_8abf5 := goodIn_r _ [6, 7, 8, 9, 10, 5, 11, 12, 13] rfl (by decide +kernel)
set_option maxRecDepth 20000 in
theorem gX12_isWord_J0_length_8abf5 : GoodIn wsX12_isWord (wsV RX12 272 RJ0 yJ0_length_8abf5 wsJ0_length_8abf5) := goodIn_app (goodIn_of _ (by decide +kernel)) ggX12_isWord_J0_length_8abf5
set_option maxRecDepth 20000 in
theorem ggX12_isWord_J0_charAt_5068e : GoodIn wsX12_isWord wsJ0_charAt_5068e := goodIn_r _ [17, 7, 18, 19, 20, 5, 21, 12, 13, 22, 23, 24, 25, 26, 27, 28, 29, 30, 31, 32, 33, 34, 35, 36, 37, 38, 39, 40, 41, 42, 43, 44, 45, 46, 47, 48, 49, 50] rfl (by decide +kernel)
set_option maxRecDepth 20000 in
theorem gX12_isWord_J0_charAt_5068e : GoodIn wsX12_isWord (wsV RX12 248 RJ0 yJ0_charAt_5068e wsJ0_charAt_5068e) := goodIn_app (goodIn_of _ (by decide +kernel)) ggX12_isWord_J0_charAt_5068e
theorem dX12_isWord_0 : decode cX12_isWord 0 = .ok (.iload_n 3, 1) := by decide +kernel
theorem dX12_isWord_1 : decode cX12_isWord 1 = .ok (.iload_n 2, 1) := by decide +kernel
theorem dX12_isWord_2 : decode cX12_isWord 2 = .ok (.isub, 1) := by decide +kernel
theorem dX12_isWord_3 : decode cX12_isWord 3 = .ok (.aload_n 1, 1) := by decide +kernel
theorem dX12_isWord_4 : decode cX12_isWord 4 = .ok (.invokevirtual 272, 3) := by decide +kernel
theorem dX12_isWord_7 : decode cX12_isWord 7 = .ok (.if_icmp .ne 7, 3) := by decide +kernel
theorem dX12_isWord_10 : decode cX12_isWord 10 = .ok (.iconst 1, 1) := by decide +kernel
theorem dX12_isWord_11 : decode cX12_isWord 11 = .ok (.goto 4, 3) := by decide +kernel
theorem dX12_isWord_14 : decode cX12_isWord 14 = .ok (.iconst 0, 1) := by decide +kernel
theorem dX12_isWord_15 : decode cX12_isWord 15 = .ok (.istore 4, 2) := by decide +kernel
theorem dX12_isWord_17 : decode cX12_isWord 17 = .ok (.iload_n 2, 1) := by decide +kernel
theorem dX12_isWord_18 : decode cX12_isWord 18 = .ok (.istore 5, 2) := by decide +kernel
theorem dX12_isWord_20 : decode cX12_isWord 20 = .ok (.iload 4, 2) := by decide +kernel
theorem dX12_isWord_22 : decode cX12_isWord 22 = .ok (.ifCond .eq 40, 3) := by decide +kernel
theorem dX12_isWord_25 : decode cX12_isWord 25 = .ok (.iload 5, 2) := by decide +kernel
theorem dX12_isWord_27 : decode cX12_isWord 27 = .ok (.iload_n 3, 1) := by decide +kernel
theorem dX12_isWord_28 : decode cX12_isWord 28 = .ok (.if_icmp .ge 34, 3) := by decide +kernel
theorem dX12_isWord_31 : decode cX12_isWord 31 = .ok (.aload_n 0, 1) := by decide +kernel
theorem dX12_isWord_32 : decode cX12_isWord 32 = .ok (.getfield 68, 3) := by decide +kernel
theorem dX12_isWord_35 : decode cX12_isWord 35 = .ok (.iload 5, 2) := by decide +kernel
theorem dX12_isWord_37 : decode cX12_isWord 37 = .ok (.baload, 1) := by decide +kernel
theorem dX12_isWord_38 : decode cX12_isWord 38 = .ok (.aload_n 1, 1) := by decide +kernel
theorem dX12_isWord_39 : decode cX12_isWord 39 = .ok (.iload 5, 2) := by decide +kernel
theorem dX12_isWord_41 : decode cX12_isWord 41 = .ok (.iload_n 2, 1) := by decide +kernel
theorem dX12_isWord_42 : decode cX12_isWord 42 = .ok (.isub, 1) := by decide +kernel
theorem dX12_isWord_43 : decode cX12_isWord 43 = .ok (.invokevirtual 248, 3) := by decide +kernel
theorem dX12_isWord_46 : decode cX12_isWord 46 = .ok (.if_icmp .ne 7, 3) := by decide +kernel
theorem dX12_isWord_49 : decode cX12_isWord 49 = .ok (.iconst 1, 1) := by decide +kernel
theorem dX12_isWord_50 : decode cX12_isWord 50 = .ok (.goto 4, 3) := by decide +kernel
theorem dX12_isWord_53 : decode cX12_isWord 53 = .ok (.iconst 0, 1) := by decide +kernel
theorem dX12_isWord_54 : decode cX12_isWord 54 = .ok (.istore 4, 2) := by decide +kernel
theorem dX12_isWord_56 : decode cX12_isWord 56 = .ok (.iinc 5 1, 3) := by decide +kernel
theorem dX12_isWord_59 : decode cX12_isWord 59 = .ok (.goto (-39), 3) := by decide +kernel
theorem dX12_isWord_62 : decode cX12_isWord 62 = .ok (.iload 4, 2) := by decide +kernel
theorem dX12_isWord_64 : decode cX12_isWord 64 = .ok (.ireturn, 1) := by decide +kernel
set_option maxRecDepth 20000 in
theorem ggX12_takesWord_X12_isLetter : GoodIn wsX12_takesWord wsX12_isLetter := goodIn_r _ [8, 1, 9, 10, 11, 12, 7, 13, 70, 71, 72, 73, 74, 75, 76, 77, 78, 79, 80, 81, 82, 83, 84, 85, 86, 87, 88, 89, 90, 91, 92, 93, 94, 95, 96, 97, 98, 99, 100, 101] rfl (by decide +kernel)
set_option maxRecDepth 20000 in
theorem gX12_takesWord_X12_isLetter : GoodIn wsX12_takesWord (wsV RX12 275 RX12 yX12_isLetter wsX12_isLetter) := goodIn_app (goodIn_of _ (by decide +kernel)) ggX12_takesWord_X12_isLetter
set_option maxRecDepth 20000 in
theorem ggX12_takesWord_X12_wordOf : GoodIn wsX12_takesWord wsX12_wordOf := goodIn_r _ [16] rfl (by decide +kernel)
set_option maxRecDepth 20000 in
theorem gX12_takesWord_X12_wordOf : GoodIn wsX12_takesWord (va_wsS RX12 278 yX12_wordOf wsX12_wordOf) := goodIn_app (goodIn_of _ (by decide +kernel)) ggX12_takesWord_X12_wordOf
set_option maxRecDepth 20000 in
theorem ggX12_takesWord_X12_isWord : GoodIn wsX12_takesWord wsX12_isWord := goodIn_r _ [20, 10, 21, 22, 23, 24, 25, 26, 27, 28, 29, 30, 31, 32, 33, 34, 35, 36, 37, 38, 39, 40, 41, 42, 43, 44, 45, 46, 47, 48, 49, 50, 51, 52, 53, 54, 55, 56, 57, 58, 59, 60, 61, 62, 63, 64, 65, 66, 67, 68, 69, 70, 71, 72, 73, 74, 75, 76, 77, 78, 79, 80, 81, 82, 83, 84, 85, 86, 87, 88, 89, 90, 91, 92, 93, 94, 95, 96, 97, 98, 99, 100, 101] rfl (by decide +kernel)
set_option maxRecDepth 20000 in
theorem gX12_takesWord_X12_isWord : GoodIn wsX12_takesWord (wsV RX12 282 RX12 yX12_isWord wsX12_isWord) := goodIn_app (goodIn_of _ (by decide +kernel)) ggX12_takesWord_X12_isWord
theorem dX12_takesWord_0 : decode cX12_takesWord 0 = .ok (.aload_n 0, 1) := by decide +kernel
theorem dX12_takesWord_1 : decode cX12_takesWord 1 = .ok (.getfield 260, 3) := by decide +kernel
theorem dX12_takesWord_4 : decode cX12_takesWord 4 = .ok (.istore_n 1, 1) := by decide +kernel
theorem dX12_takesWord_5 : decode cX12_takesWord 5 = .ok (.aload_n 0, 1) := by decide +kernel
theorem dX12_takesWord_6 : decode cX12_takesWord 6 = .ok (.invokevirtual 275, 3) := by decide +kernel
theorem dX12_takesWord_9 : decode cX12_takesWord 9 = .ok (.ifCond .eq 16, 3) := by decide +kernel
theorem dX12_takesWord_12 : decode cX12_takesWord 12 = .ok (.aload_n 0, 1) := by decide +kernel
theorem dX12_takesWord_13 : decode cX12_takesWord 13 = .ok (.dup, 1) := by decide +kernel
theorem dX12_takesWord_14 : decode cX12_takesWord 14 = .ok (.getfield 260, 3) := by decide +kernel
theorem dX12_takesWord_17 : decode cX12_takesWord 17 = .ok (.iconst 1, 1) := by decide +kernel
theorem dX12_takesWord_18 : decode cX12_takesWord 18 = .ok (.iadd, 1) := by decide +kernel
theorem dX12_takesWord_19 : decode cX12_takesWord 19 = .ok (.putfield 260, 3) := by decide +kernel
theorem dX12_takesWord_22 : decode cX12_takesWord 22 = .ok (.goto (-17), 3) := by decide +kernel
theorem dX12_takesWord_25 : decode cX12_takesWord 25 = .ok (.iconst 0, 1) := by decide +kernel
theorem dX12_takesWord_26 : decode cX12_takesWord 26 = .ok (.istore_n 2, 1) := by decide +kernel
theorem dX12_takesWord_27 : decode cX12_takesWord 27 = .ok (.iload_n 2, 1) := by decide +kernel
theorem dX12_takesWord_28 : decode cX12_takesWord 28 = .ok (.iconst 4, 1) := by decide +kernel
theorem dX12_takesWord_29 : decode cX12_takesWord 29 = .ok (.if_icmp .gt 25, 3) := by decide +kernel
theorem dX12_takesWord_32 : decode cX12_takesWord 32 = .ok (.aload_n 0, 1) := by decide +kernel
theorem dX12_takesWord_33 : decode cX12_takesWord 33 = .ok (.iload_n 2, 1) := by decide +kernel
theorem dX12_takesWord_34 : decode cX12_takesWord 34 = .ok (.invokestatic 278, 3) := by decide +kernel
theorem dX12_takesWord_37 : decode cX12_takesWord 37 = .ok (.iload_n 1, 1) := by decide +kernel
theorem dX12_takesWord_38 : decode cX12_takesWord 38 = .ok (.aload_n 0, 1) := by decide +kernel
theorem dX12_takesWord_39 : decode cX12_takesWord 39 = .ok (.getfield 260, 3) := by decide +kernel
theorem dX12_takesWord_42 : decode cX12_takesWord 42 = .ok (.invokevirtual 282, 3) := by decide +kernel
theorem dX12_takesWord_45 : decode cX12_takesWord 45 = .ok (.ifCond .ne 9, 3) := by decide +kernel
theorem dX12_takesWord_48 : decode cX12_takesWord 48 = .ok (.iinc 2 1, 3) := by decide +kernel
theorem dX12_takesWord_51 : decode cX12_takesWord 51 = .ok (.goto (-24), 3) := by decide +kernel
theorem dX12_takesWord_54 : decode cX12_takesWord 54 = .ok (.iload_n 2, 1) := by decide +kernel
theorem dX12_takesWord_55 : decode cX12_takesWord 55 = .ok (.iconst 4, 1) := by decide +kernel
theorem dX12_takesWord_56 : decode cX12_takesWord 56 = .ok (.if_icmp .le 10, 3) := by decide +kernel
theorem dX12_takesWord_59 : decode cX12_takesWord 59 = .ok (.aload_n 0, 1) := by decide +kernel
theorem dX12_takesWord_60 : decode cX12_takesWord 60 = .ok (.iload_n 1, 1) := by decide +kernel
theorem dX12_takesWord_61 : decode cX12_takesWord 61 = .ok (.putfield 260, 3) := by decide +kernel
theorem dX12_takesWord_64 : decode cX12_takesWord 64 = .ok (.iconst 0, 1) := by decide +kernel
theorem dX12_takesWord_65 : decode cX12_takesWord 65 = .ok (.ireturn, 1) := by decide +kernel
theorem dX12_takesWord_66 : decode cX12_takesWord 66 = .ok (.aload_n 0, 1) := by decide +kernel
theorem dX12_takesWord_67 : decode cX12_takesWord 67 = .ok (.getfield 71, 3) := by decide +kernel
theorem dX12_takesWord_70 : decode cX12_takesWord 70 = .ok (.aload_n 0, 1) := by decide +kernel
theorem dX12_takesWord_71 : decode cX12_takesWord 71 = .ok (.getfield 286, 3) := by decide +kernel
theorem dX12_takesWord_74 : decode cX12_takesWord 74 = .ok (.iload_n 2, 1) := by decide +kernel
theorem dX12_takesWord_75 : decode cX12_takesWord 75 = .ok (.iastore, 1) := by decide +kernel
theorem dX12_takesWord_76 : decode cX12_takesWord 76 = .ok (.iconst 1, 1) := by decide +kernel
theorem dX12_takesWord_77 : decode cX12_takesWord 77 = .ok (.ireturn, 1) := by decide +kernel
set_option maxRecDepth 20000 in
theorem ggX12_takesBlank_X12_isAt : GoodIn wsX12_takesBlank wsX12_isAt := goodIn_r _ [6, 1, 7, 8, 9, 10, 11, 12, 13, 14, 15, 16, 17, 18, 19, 20, 21, 22, 23, 24, 25, 26, 27, 28, 29, 30, 31, 32, 33, 34, 35, 36, 37, 38, 39, 40] rfl (by decide +kernel)
set_option maxRecDepth 20000 in
theorem gX12_takesBlank_X12_isAt : GoodIn wsX12_takesBlank (wsV RX12 289 RX12 yX12_isAt wsX12_isAt) := goodIn_app (goodIn_of _ (by decide +kernel)) ggX12_takesBlank_X12_isAt
theorem dX12_takesBlank_0 : decode cX12_takesBlank 0 = .ok (.aload_n 0, 1) := by decide +kernel
theorem dX12_takesBlank_1 : decode cX12_takesBlank 1 = .ok (.bipush 32, 2) := by decide +kernel
theorem dX12_takesBlank_3 : decode cX12_takesBlank 3 = .ok (.invokevirtual 289, 3) := by decide +kernel
theorem dX12_takesBlank_6 : decode cX12_takesBlank 6 = .ok (.ifCond .ne 5, 3) := by decide +kernel
theorem dX12_takesBlank_9 : decode cX12_takesBlank 9 = .ok (.iconst 0, 1) := by decide +kernel
theorem dX12_takesBlank_10 : decode cX12_takesBlank 10 = .ok (.ireturn, 1) := by decide +kernel
theorem dX12_takesBlank_11 : decode cX12_takesBlank 11 = .ok (.aload_n 0, 1) := by decide +kernel
theorem dX12_takesBlank_12 : decode cX12_takesBlank 12 = .ok (.dup, 1) := by decide +kernel
theorem dX12_takesBlank_13 : decode cX12_takesBlank 13 = .ok (.getfield 260, 3) := by decide +kernel
theorem dX12_takesBlank_16 : decode cX12_takesBlank 16 = .ok (.iconst 1, 1) := by decide +kernel
theorem dX12_takesBlank_17 : decode cX12_takesBlank 17 = .ok (.iadd, 1) := by decide +kernel
theorem dX12_takesBlank_18 : decode cX12_takesBlank 18 = .ok (.putfield 260, 3) := by decide +kernel
theorem dX12_takesBlank_21 : decode cX12_takesBlank 21 = .ok (.iconst 1, 1) := by decide +kernel
theorem dX12_takesBlank_22 : decode cX12_takesBlank 22 = .ok (.ireturn, 1) := by decide +kernel
set_option maxRecDepth 20000 in
theorem ggX12_takesName_X12_takesBlank : GoodIn wsX12_takesName wsX12_takesBlank := goodIn_r _ [9, 2, 10, 11, 12, 8, 13, 14, 1, 22, 23, 24, 25, 26, 27, 28, 29, 30, 31, 32, 33, 34, 35, 36, 37, 38, 39, 40, 41, 42, 43, 44, 45, 46, 47, 48, 49, 50, 51, 52, 53] rfl (by decide +kernel)
set_option maxRecDepth 20000 in
theorem gX12_takesName_X12_takesBlank : GoodIn wsX12_takesName (wsV RX12 293 RX12 yX12_takesBlank wsX12_takesBlank) := goodIn_app (goodIn_of _ (by decide +kernel)) ggX12_takesName_X12_takesBlank
set_option maxRecDepth 20000 in
theorem ggX12_takesName_X12_isLetter : GoodIn wsX12_takesName wsX12_isLetter := goodIn_r _ [18, 2, 14, 1, 19, 20, 8, 21, 22, 23, 24, 25, 26, 27, 28, 29, 30, 31, 32, 33, 34, 35, 36, 37, 38, 39, 40, 41, 42, 43, 44, 45, 46, 47, 48, 49, 50, 51, 52, 53] rfl (by decide +kernel)
set_option maxRecDepth 20000 in
theorem gX12_takesName_X12_isLetter : GoodIn wsX12_takesName (wsV RX12 275 RX12 yX12_isLetter wsX12_isLetter) := goodIn_app (goodIn_of _ (by decide +kernel)) ggX12_takesName_X12_isLetter
theorem dX12_takesName_0 : decode cX12_takesName 0 = .ok (.aload_n 0, 1) := by decide +kernel
theorem dX12_takesName_1 : decode cX12_takesName 1 = .ok (.invokevirtual 293, 3) := by decide +kernel
theorem dX12_takesName_4 : decode cX12_takesName 4 = .ok (.ifCond .eq 10, 3) := by decide +kernel
theorem dX12_takesName_7 : decode cX12_takesName 7 = .ok (.aload_n 0, 1) := by decide +kernel
theorem dX12_takesName_8 : decode cX12_takesName 8 = .ok (.invokevirtual 275, 3) := by decide +kernel
theorem dX12_takesName_11 : decode cX12_takesName 11 = .ok (.ifCond .ne 5, 3) := by decide +kernel
theorem dX12_takesName_14 : decode cX12_takesName 14 = .ok (.iconst 0, 1) := by decide +kernel
theorem dX12_takesName_15 : decode cX12_takesName 15 = .ok (.ireturn, 1) := by decide +kernel
theorem dX12_takesName_16 : decode cX12_takesName 16 = .ok (.iconst 0, 1) := by decide +kernel
theorem dX12_takesName_17 : decode cX12_takesName 17 = .ok (.istore_n 2, 1) := by decide +kernel
theorem dX12_takesName_18 : decode cX12_takesName 18 = .ok (.iconst 0, 1) := by decide +kernel
theorem dX12_takesName_19 : decode cX12_takesName 19 = .ok (.istore_n 3, 1) := by decide +kernel
theorem dX12_takesName_20 : decode cX12_takesName 20 = .ok (.iload_n 3, 1) := by decide +kernel
theorem dX12_takesName_21 : decode cX12_takesName 21 = .ok (.iconst 4, 1) := by decide +kernel
theorem dX12_takesName_22 : decode cX12_takesName 22 = .ok (.if_icmp .ge 46, 3) := by decide +kernel
theorem dX12_takesName_25 : decode cX12_takesName 25 = .ok (.aload_n 0, 1) := by decide +kernel
theorem dX12_takesName_26 : decode cX12_takesName 26 = .ok (.invokevirtual 275, 3) := by decide +kernel
theorem dX12_takesName_29 : decode cX12_takesName 29 = .ok (.ifCond .eq 39, 3) := by decide +kernel
theorem dX12_takesName_32 : decode cX12_takesName 32 = .ok (.bipush 27, 2) := by decide +kernel
theorem dX12_takesName_34 : decode cX12_takesName 34 = .ok (.iload_n 2, 1) := by decide +kernel
theorem dX12_takesName_35 : decode cX12_takesName 35 = .ok (.imul, 1) := by decide +kernel
theorem dX12_takesName_36 : decode cX12_takesName 36 = .ok (.aload_n 0, 1) := by decide +kernel
theorem dX12_takesName_37 : decode cX12_takesName 37 = .ok (.getfield 68, 3) := by decide +kernel
theorem dX12_takesName_40 : decode cX12_takesName 40 = .ok (.aload_n 0, 1) := by decide +kernel
theorem dX12_takesName_41 : decode cX12_takesName 41 = .ok (.getfield 260, 3) := by decide +kernel
theorem dX12_takesName_44 : decode cX12_takesName 44 = .ok (.baload, 1) := by decide +kernel
theorem dX12_takesName_45 : decode cX12_takesName 45 = .ok (.iadd, 1) := by decide +kernel
theorem dX12_takesName_46 : decode cX12_takesName 46 = .ok (.bipush 97, 2) := by decide +kernel
theorem dX12_takesName_48 : decode cX12_takesName 48 = .ok (.isub, 1) := by decide +kernel
theorem dX12_takesName_49 : decode cX12_takesName 49 = .ok (.iconst 1, 1) := by decide +kernel
theorem dX12_takesName_50 : decode cX12_takesName 50 = .ok (.iadd, 1) := by decide +kernel
theorem dX12_takesName_51 : decode cX12_takesName 51 = .ok (.istore_n 2, 1) := by decide +kernel
theorem dX12_takesName_52 : decode cX12_takesName 52 = .ok (.aload_n 0, 1) := by decide +kernel
theorem dX12_takesName_53 : decode cX12_takesName 53 = .ok (.dup, 1) := by decide +kernel
theorem dX12_takesName_54 : decode cX12_takesName 54 = .ok (.getfield 260, 3) := by decide +kernel
theorem dX12_takesName_57 : decode cX12_takesName 57 = .ok (.iconst 1, 1) := by decide +kernel
theorem dX12_takesName_58 : decode cX12_takesName 58 = .ok (.iadd, 1) := by decide +kernel
theorem dX12_takesName_59 : decode cX12_takesName 59 = .ok (.putfield 260, 3) := by decide +kernel
theorem dX12_takesName_62 : decode cX12_takesName 62 = .ok (.iinc 3 1, 3) := by decide +kernel
theorem dX12_takesName_65 : decode cX12_takesName 65 = .ok (.goto (-45), 3) := by decide +kernel
theorem dX12_takesName_68 : decode cX12_takesName 68 = .ok (.aload_n 0, 1) := by decide +kernel
theorem dX12_takesName_69 : decode cX12_takesName 69 = .ok (.getfield 74, 3) := by decide +kernel
theorem dX12_takesName_72 : decode cX12_takesName 72 = .ok (.bipush 6, 2) := by decide +kernel
theorem dX12_takesName_74 : decode cX12_takesName 74 = .ok (.aload_n 0, 1) := by decide +kernel
theorem dX12_takesName_75 : decode cX12_takesName 75 = .ok (.getfield 286, 3) := by decide +kernel
theorem dX12_takesName_78 : decode cX12_takesName 78 = .ok (.imul, 1) := by decide +kernel
theorem dX12_takesName_79 : decode cX12_takesName 79 = .ok (.iload_n 1, 1) := by decide +kernel
theorem dX12_takesName_80 : decode cX12_takesName 80 = .ok (.iadd, 1) := by decide +kernel
theorem dX12_takesName_81 : decode cX12_takesName 81 = .ok (.iload_n 2, 1) := by decide +kernel
theorem dX12_takesName_82 : decode cX12_takesName 82 = .ok (.iastore, 1) := by decide +kernel
theorem dX12_takesName_83 : decode cX12_takesName 83 = .ok (.aload_n 0, 1) := by decide +kernel
theorem dX12_takesName_84 : decode cX12_takesName 84 = .ok (.invokevirtual 275, 3) := by decide +kernel
theorem dX12_takesName_87 : decode cX12_takesName 87 = .ok (.ifCond .ne 7, 3) := by decide +kernel
theorem dX12_takesName_90 : decode cX12_takesName 90 = .ok (.iconst 1, 1) := by decide +kernel
theorem dX12_takesName_91 : decode cX12_takesName 91 = .ok (.goto 4, 3) := by decide +kernel
theorem dX12_takesName_94 : decode cX12_takesName 94 = .ok (.iconst 0, 1) := by decide +kernel
theorem dX12_takesName_95 : decode cX12_takesName 95 = .ok (.ireturn, 1) := by decide +kernel
set_option maxRecDepth 20000 in
theorem ggX12_takesNumber_X12_takesBlank : GoodIn wsX12_takesNumber wsX12_takesBlank := goodIn_r _ [9, 1, 10, 11, 12, 8, 13, 14, 2, 22, 23, 24, 25, 26, 27, 28, 29, 30, 31, 32, 33, 34, 35, 36, 37, 38, 39, 40, 41, 42, 43, 44, 45, 46, 47, 48, 49, 50, 51, 52, 53] rfl (by decide +kernel)
set_option maxRecDepth 20000 in
theorem gX12_takesNumber_X12_takesBlank : GoodIn wsX12_takesNumber (wsV RX12 293 RX12 yX12_takesBlank wsX12_takesBlank) := goodIn_app (goodIn_of _ (by decide +kernel)) ggX12_takesNumber_X12_takesBlank
set_option maxRecDepth 20000 in
theorem ggX12_takesNumber_X12_isAt : GoodIn wsX12_takesNumber wsX12_isAt := goodIn_r _ [13, 1, 14, 2, 22, 23, 24, 25, 26, 27, 28, 29, 30, 31, 32, 33, 34, 35, 36, 37, 38, 39, 40, 41, 42, 43, 44, 45, 46, 47, 48, 49, 50, 51, 52, 53] rfl (by decide +kernel)
set_option maxRecDepth 20000 in
theorem gX12_takesNumber_X12_isAt : GoodIn wsX12_takesNumber (wsV RX12 289 RX12 yX12_isAt wsX12_isAt) := goodIn_app (goodIn_of _ (by decide +kernel)) ggX12_takesNumber_X12_isAt
set_option maxRecDepth 20000 in
theorem ggX12_takesNumber_X12_isFigure : GoodIn wsX12_takesNumber wsX12_isFigure := goodIn_r _ [18, 1, 14, 2, 19, 20, 8, 21, 22, 23, 24, 25, 26, 27, 28, 29, 30, 31, 32, 33, 34, 35, 36, 37, 38, 39, 40, 41, 42, 43, 44, 45, 46, 47, 48, 49, 50, 51, 52, 53] rfl (by decide +kernel)
set_option maxRecDepth 20000 in
theorem gX12_takesNumber_X12_isFigure : GoodIn wsX12_takesNumber (wsV RX12 296 RX12 yX12_isFigure wsX12_isFigure) := goodIn_app (goodIn_of _ (by decide +kernel)) ggX12_takesNumber_X12_isFigure
theorem dX12_takesNumber_0 : decode cX12_takesNumber 0 = .ok (.aload_n 0, 1) := by decide +kernel
theorem dX12_takesNumber_1 : decode cX12_takesNumber 1 = .ok (.invokevirtual 293, 3) := by decide +kernel
theorem dX12_takesNumber_4 : decode cX12_takesNumber 4 = .ok (.ifCond .ne 5, 3) := by decide +kernel
theorem dX12_takesNumber_7 : decode cX12_takesNumber 7 = .ok (.iconst 0, 1) := by decide +kernel
theorem dX12_takesNumber_8 : decode cX12_takesNumber 8 = .ok (.ireturn, 1) := by decide +kernel
theorem dX12_takesNumber_9 : decode cX12_takesNumber 9 = .ok (.iload_n 2, 1) := by decide +kernel
theorem dX12_takesNumber_10 : decode cX12_takesNumber 10 = .ok (.ifCond .eq 16, 3) := by decide +kernel
theorem dX12_takesNumber_13 : decode cX12_takesNumber 13 = .ok (.aload_n 0, 1) := by decide +kernel
theorem dX12_takesNumber_14 : decode cX12_takesNumber 14 = .ok (.bipush 45, 2) := by decide +kernel
theorem dX12_takesNumber_16 : decode cX12_takesNumber 16 = .ok (.invokevirtual 289, 3) := by decide +kernel
theorem dX12_takesNumber_19 : decode cX12_takesNumber 19 = .ok (.ifCond .eq 7, 3) := by decide +kernel
theorem dX12_takesNumber_22 : decode cX12_takesNumber 22 = .ok (.iconst 1, 1) := by decide +kernel
theorem dX12_takesNumber_23 : decode cX12_takesNumber 23 = .ok (.goto 4, 3) := by decide +kernel
theorem dX12_takesNumber_26 : decode cX12_takesNumber 26 = .ok (.iconst 0, 1) := by decide +kernel
theorem dX12_takesNumber_27 : decode cX12_takesNumber 27 = .ok (.istore_n 3, 1) := by decide +kernel
theorem dX12_takesNumber_28 : decode cX12_takesNumber 28 = .ok (.iload_n 3, 1) := by decide +kernel
theorem dX12_takesNumber_29 : decode cX12_takesNumber 29 = .ok (.ifCond .eq 13, 3) := by decide +kernel
theorem dX12_takesNumber_32 : decode cX12_takesNumber 32 = .ok (.aload_n 0, 1) := by decide +kernel
theorem dX12_takesNumber_33 : decode cX12_takesNumber 33 = .ok (.dup, 1) := by decide +kernel
theorem dX12_takesNumber_34 : decode cX12_takesNumber 34 = .ok (.getfield 260, 3) := by decide +kernel
theorem dX12_takesNumber_37 : decode cX12_takesNumber 37 = .ok (.iconst 1, 1) := by decide +kernel
theorem dX12_takesNumber_38 : decode cX12_takesNumber 38 = .ok (.iadd, 1) := by decide +kernel
theorem dX12_takesNumber_39 : decode cX12_takesNumber 39 = .ok (.putfield 260, 3) := by decide +kernel
theorem dX12_takesNumber_42 : decode cX12_takesNumber 42 = .ok (.aload_n 0, 1) := by decide +kernel
theorem dX12_takesNumber_43 : decode cX12_takesNumber 43 = .ok (.invokevirtual 296, 3) := by decide +kernel
theorem dX12_takesNumber_46 : decode cX12_takesNumber 46 = .ok (.ifCond .ne 5, 3) := by decide +kernel
theorem dX12_takesNumber_49 : decode cX12_takesNumber 49 = .ok (.iconst 0, 1) := by decide +kernel
theorem dX12_takesNumber_50 : decode cX12_takesNumber 50 = .ok (.ireturn, 1) := by decide +kernel
theorem dX12_takesNumber_51 : decode cX12_takesNumber 51 = .ok (.iconst 0, 1) := by decide +kernel
theorem dX12_takesNumber_52 : decode cX12_takesNumber 52 = .ok (.istore 4, 2) := by decide +kernel
theorem dX12_takesNumber_54 : decode cX12_takesNumber 54 = .ok (.iconst 0, 1) := by decide +kernel
theorem dX12_takesNumber_55 : decode cX12_takesNumber 55 = .ok (.istore 5, 2) := by decide +kernel
theorem dX12_takesNumber_57 : decode cX12_takesNumber 57 = .ok (.iload 5, 2) := by decide +kernel
theorem dX12_takesNumber_59 : decode cX12_takesNumber 59 = .ok (.iconst 3, 1) := by decide +kernel
theorem dX12_takesNumber_60 : decode cX12_takesNumber 60 = .ok (.if_icmp .ge 46, 3) := by decide +kernel
theorem dX12_takesNumber_63 : decode cX12_takesNumber 63 = .ok (.aload_n 0, 1) := by decide +kernel
theorem dX12_takesNumber_64 : decode cX12_takesNumber 64 = .ok (.invokevirtual 296, 3) := by decide +kernel
theorem dX12_takesNumber_67 : decode cX12_takesNumber 67 = .ok (.ifCond .eq 39, 3) := by decide +kernel
theorem dX12_takesNumber_70 : decode cX12_takesNumber 70 = .ok (.bipush 10, 2) := by decide +kernel
theorem dX12_takesNumber_72 : decode cX12_takesNumber 72 = .ok (.iload 4, 2) := by decide +kernel
theorem dX12_takesNumber_74 : decode cX12_takesNumber 74 = .ok (.imul, 1) := by decide +kernel
theorem dX12_takesNumber_75 : decode cX12_takesNumber 75 = .ok (.aload_n 0, 1) := by decide +kernel
theorem dX12_takesNumber_76 : decode cX12_takesNumber 76 = .ok (.getfield 68, 3) := by decide +kernel
theorem dX12_takesNumber_79 : decode cX12_takesNumber 79 = .ok (.aload_n 0, 1) := by decide +kernel
theorem dX12_takesNumber_80 : decode cX12_takesNumber 80 = .ok (.getfield 260, 3) := by decide +kernel
theorem dX12_takesNumber_83 : decode cX12_takesNumber 83 = .ok (.baload, 1) := by decide +kernel
theorem dX12_takesNumber_84 : decode cX12_takesNumber 84 = .ok (.iadd, 1) := by decide +kernel
theorem dX12_takesNumber_85 : decode cX12_takesNumber 85 = .ok (.bipush 48, 2) := by decide +kernel
theorem dX12_takesNumber_87 : decode cX12_takesNumber 87 = .ok (.isub, 1) := by decide +kernel
theorem dX12_takesNumber_88 : decode cX12_takesNumber 88 = .ok (.istore 4, 2) := by decide +kernel
theorem dX12_takesNumber_90 : decode cX12_takesNumber 90 = .ok (.aload_n 0, 1) := by decide +kernel
theorem dX12_takesNumber_91 : decode cX12_takesNumber 91 = .ok (.dup, 1) := by decide +kernel
theorem dX12_takesNumber_92 : decode cX12_takesNumber 92 = .ok (.getfield 260, 3) := by decide +kernel
theorem dX12_takesNumber_95 : decode cX12_takesNumber 95 = .ok (.iconst 1, 1) := by decide +kernel
theorem dX12_takesNumber_96 : decode cX12_takesNumber 96 = .ok (.iadd, 1) := by decide +kernel
theorem dX12_takesNumber_97 : decode cX12_takesNumber 97 = .ok (.putfield 260, 3) := by decide +kernel
theorem dX12_takesNumber_100 : decode cX12_takesNumber 100 = .ok (.iinc 5 1, 3) := by decide +kernel
theorem dX12_takesNumber_103 : decode cX12_takesNumber 103 = .ok (.goto (-46), 3) := by decide +kernel
theorem dX12_takesNumber_106 : decode cX12_takesNumber 106 = .ok (.aload_n 0, 1) := by decide +kernel
theorem dX12_takesNumber_107 : decode cX12_takesNumber 107 = .ok (.getfield 74, 3) := by decide +kernel
theorem dX12_takesNumber_110 : decode cX12_takesNumber 110 = .ok (.bipush 6, 2) := by decide +kernel
theorem dX12_takesNumber_112 : decode cX12_takesNumber 112 = .ok (.aload_n 0, 1) := by decide +kernel
theorem dX12_takesNumber_113 : decode cX12_takesNumber 113 = .ok (.getfield 286, 3) := by decide +kernel
theorem dX12_takesNumber_116 : decode cX12_takesNumber 116 = .ok (.imul, 1) := by decide +kernel
theorem dX12_takesNumber_117 : decode cX12_takesNumber 117 = .ok (.iload_n 1, 1) := by decide +kernel
theorem dX12_takesNumber_118 : decode cX12_takesNumber 118 = .ok (.iadd, 1) := by decide +kernel
theorem dX12_takesNumber_119 : decode cX12_takesNumber 119 = .ok (.iload_n 3, 1) := by decide +kernel
theorem dX12_takesNumber_120 : decode cX12_takesNumber 120 = .ok (.ifCond .eq 9, 3) := by decide +kernel
theorem dX12_takesNumber_123 : decode cX12_takesNumber 123 = .ok (.iload 4, 2) := by decide +kernel
theorem dX12_takesNumber_125 : decode cX12_takesNumber 125 = .ok (.ineg, 1) := by decide +kernel
theorem dX12_takesNumber_126 : decode cX12_takesNumber 126 = .ok (.goto 5, 3) := by decide +kernel
theorem dX12_takesNumber_129 : decode cX12_takesNumber 129 = .ok (.iload 4, 2) := by decide +kernel
theorem dX12_takesNumber_131 : decode cX12_takesNumber 131 = .ok (.iastore, 1) := by decide +kernel
theorem dX12_takesNumber_132 : decode cX12_takesNumber 132 = .ok (.aload_n 0, 1) := by decide +kernel
theorem dX12_takesNumber_133 : decode cX12_takesNumber 133 = .ok (.invokevirtual 296, 3) := by decide +kernel
theorem dX12_takesNumber_136 : decode cX12_takesNumber 136 = .ok (.ifCond .ne 7, 3) := by decide +kernel
theorem dX12_takesNumber_139 : decode cX12_takesNumber 139 = .ok (.iconst 1, 1) := by decide +kernel
theorem dX12_takesNumber_140 : decode cX12_takesNumber 140 = .ok (.goto 4, 3) := by decide +kernel
theorem dX12_takesNumber_143 : decode cX12_takesNumber 143 = .ok (.iconst 0, 1) := by decide +kernel
theorem dX12_takesNumber_144 : decode cX12_takesNumber 144 = .ok (.ireturn, 1) := by decide +kernel
set_option maxRecDepth 20000 in
theorem ggX12_takesRest_X12_takesName : GoodIn wsX12_takesRest wsX12_takesName := goodIn_r _ [7, 8, 9, 10, 2, 11, 12, 13, 6, 14, 15, 16, 17, 18, 19, 20, 21, 22, 23, 24, 25, 26, 35, 36, 37, 38, 39, 40, 41, 42, 43, 44, 45, 46, 47, 48, 49, 50, 51, 52, 53, 54, 55, 56, 57, 58, 59, 60, 61, 62, 63, 64, 65, 66] rfl (by decide +kernel)
set_option maxRecDepth 20000 in
theorem gX12_takesRest_X12_takesName : GoodIn wsX12_takesRest (wsV RX12 299 RX12 yX12_takesName wsX12_takesName) := goodIn_app (goodIn_of _ (by decide +kernel)) ggX12_takesRest_X12_takesName
set_option maxRecDepth 20000 in
theorem ggX12_takesRest_X12_takesNumber : GoodIn wsX12_takesRest wsX12_takesNumber := goodIn_r _ [30, 9, 8, 10, 2, 11, 12, 13, 6, 14, 15, 16, 17, 18, 19, 31, 32, 33, 34, 24, 25, 26, 35, 36, 37, 38, 39, 40, 41, 42, 43, 44, 45, 46, 47, 48, 49, 50, 51, 52, 53, 54, 55, 56, 57, 58, 59, 60, 61, 62, 63, 64, 65, 66] rfl (by decide +kernel)
set_option maxRecDepth 20000 in
theorem gX12_takesRest_X12_takesNumber : GoodIn wsX12_takesRest (wsV RX12 302 RX12 yX12_takesNumber wsX12_takesNumber) := goodIn_app (goodIn_of _ (by decide +kernel)) ggX12_takesRest_X12_takesNumber
theorem dX12_takesRest_0 : decode cX12_takesRest 0 = .ok (.aload_n 0, 1) := by decide +kernel
theorem dX12_takesRest_1 : decode cX12_takesRest 1 = .ok (.getfield 71, 3) := by decide +kernel
theorem dX12_takesRest_4 : decode cX12_takesRest 4 = .ok (.aload_n 0, 1) := by decide +kernel
theorem dX12_takesRest_5 : decode cX12_takesRest 5 = .ok (.getfield 286, 3) := by decide +kernel
theorem dX12_takesRest_8 : decode cX12_takesRest 8 = .ok (.iaload, 1) := by decide +kernel
theorem dX12_takesRest_9 : decode cX12_takesRest 9 = .ok (.tableswitch 152 0 3 #[31, 90, 122, 128], 31) := by decide +kernel
theorem dX12_takesRest_40 : decode cX12_takesRest 40 = .ok (.aload_n 0, 1) := by decide +kernel
theorem dX12_takesRest_41 : decode cX12_takesRest 41 = .ok (.iconst 0, 1) := by decide +kernel
theorem dX12_takesRest_42 : decode cX12_takesRest 42 = .ok (.invokevirtual 299, 3) := by decide +kernel
theorem dX12_takesRest_45 : decode cX12_takesRest 45 = .ok (.ifCond .eq 52, 3) := by decide +kernel
theorem dX12_takesRest_48 : decode cX12_takesRest 48 = .ok (.aload_n 0, 1) := by decide +kernel
theorem dX12_takesRest_49 : decode cX12_takesRest 49 = .ok (.iconst 1, 1) := by decide +kernel
theorem dX12_takesRest_50 : decode cX12_takesRest 50 = .ok (.iconst 0, 1) := by decide +kernel
theorem dX12_takesRest_51 : decode cX12_takesRest 51 = .ok (.invokevirtual 302, 3) := by decide +kernel
theorem dX12_takesRest_54 : decode cX12_takesRest 54 = .ok (.ifCond .eq 43, 3) := by decide +kernel
theorem dX12_takesRest_57 : decode cX12_takesRest 57 = .ok (.aload_n 0, 1) := by decide +kernel
theorem dX12_takesRest_58 : decode cX12_takesRest 58 = .ok (.iconst 2, 1) := by decide +kernel
theorem dX12_takesRest_59 : decode cX12_takesRest 59 = .ok (.iconst 0, 1) := by decide +kernel
theorem dX12_takesRest_60 : decode cX12_takesRest 60 = .ok (.invokevirtual 302, 3) := by decide +kernel
theorem dX12_takesRest_63 : decode cX12_takesRest 63 = .ok (.ifCond .eq 34, 3) := by decide +kernel
theorem dX12_takesRest_66 : decode cX12_takesRest 66 = .ok (.aload_n 0, 1) := by decide +kernel
theorem dX12_takesRest_67 : decode cX12_takesRest 67 = .ok (.iconst 3, 1) := by decide +kernel
theorem dX12_takesRest_68 : decode cX12_takesRest 68 = .ok (.iconst 0, 1) := by decide +kernel
theorem dX12_takesRest_69 : decode cX12_takesRest 69 = .ok (.invokevirtual 302, 3) := by decide +kernel
theorem dX12_takesRest_72 : decode cX12_takesRest 72 = .ok (.ifCond .eq 25, 3) := by decide +kernel
theorem dX12_takesRest_75 : decode cX12_takesRest 75 = .ok (.aload_n 0, 1) := by decide +kernel
theorem dX12_takesRest_76 : decode cX12_takesRest 76 = .ok (.iconst 4, 1) := by decide +kernel
theorem dX12_takesRest_77 : decode cX12_takesRest 77 = .ok (.iconst 1, 1) := by decide +kernel
theorem dX12_takesRest_78 : decode cX12_takesRest 78 = .ok (.invokevirtual 302, 3) := by decide +kernel
theorem dX12_takesRest_81 : decode cX12_takesRest 81 = .ok (.ifCond .eq 16, 3) := by decide +kernel
theorem dX12_takesRest_84 : decode cX12_takesRest 84 = .ok (.aload_n 0, 1) := by decide +kernel
theorem dX12_takesRest_85 : decode cX12_takesRest 85 = .ok (.iconst 5, 1) := by decide +kernel
theorem dX12_takesRest_86 : decode cX12_takesRest 86 = .ok (.iconst 0, 1) := by decide +kernel
theorem dX12_takesRest_87 : decode cX12_takesRest 87 = .ok (.invokevirtual 302, 3) := by decide +kernel
theorem dX12_takesRest_90 : decode cX12_takesRest 90 = .ok (.ifCond .eq 7, 3) := by decide +kernel
theorem dX12_takesRest_93 : decode cX12_takesRest 93 = .ok (.iconst 1, 1) := by decide +kernel
theorem dX12_takesRest_94 : decode cX12_takesRest 94 = .ok (.goto 4, 3) := by decide +kernel
theorem dX12_takesRest_97 : decode cX12_takesRest 97 = .ok (.iconst 0, 1) := by decide +kernel
theorem dX12_takesRest_98 : decode cX12_takesRest 98 = .ok (.ireturn, 1) := by decide +kernel
theorem dX12_takesRest_99 : decode cX12_takesRest 99 = .ok (.aload_n 0, 1) := by decide +kernel
theorem dX12_takesRest_100 : decode cX12_takesRest 100 = .ok (.iconst 0, 1) := by decide +kernel
theorem dX12_takesRest_101 : decode cX12_takesRest 101 = .ok (.invokevirtual 299, 3) := by decide +kernel
theorem dX12_takesRest_104 : decode cX12_takesRest 104 = .ok (.ifCond .eq 25, 3) := by decide +kernel
theorem dX12_takesRest_107 : decode cX12_takesRest 107 = .ok (.aload_n 0, 1) := by decide +kernel
theorem dX12_takesRest_108 : decode cX12_takesRest 108 = .ok (.iconst 1, 1) := by decide +kernel
theorem dX12_takesRest_109 : decode cX12_takesRest 109 = .ok (.iconst 0, 1) := by decide +kernel
theorem dX12_takesRest_110 : decode cX12_takesRest 110 = .ok (.invokevirtual 302, 3) := by decide +kernel
theorem dX12_takesRest_113 : decode cX12_takesRest 113 = .ok (.ifCond .eq 16, 3) := by decide +kernel
theorem dX12_takesRest_116 : decode cX12_takesRest 116 = .ok (.aload_n 0, 1) := by decide +kernel
theorem dX12_takesRest_117 : decode cX12_takesRest 117 = .ok (.iconst 2, 1) := by decide +kernel
theorem dX12_takesRest_118 : decode cX12_takesRest 118 = .ok (.iconst 1, 1) := by decide +kernel
theorem dX12_takesRest_119 : decode cX12_takesRest 119 = .ok (.invokevirtual 302, 3) := by decide +kernel
theorem dX12_takesRest_122 : decode cX12_takesRest 122 = .ok (.ifCond .eq 7, 3) := by decide +kernel
theorem dX12_takesRest_125 : decode cX12_takesRest 125 = .ok (.iconst 1, 1) := by decide +kernel
theorem dX12_takesRest_126 : decode cX12_takesRest 126 = .ok (.goto 4, 3) := by decide +kernel
theorem dX12_takesRest_129 : decode cX12_takesRest 129 = .ok (.iconst 0, 1) := by decide +kernel
theorem dX12_takesRest_130 : decode cX12_takesRest 130 = .ok (.ireturn, 1) := by decide +kernel
theorem dX12_takesRest_131 : decode cX12_takesRest 131 = .ok (.aload_n 0, 1) := by decide +kernel
theorem dX12_takesRest_132 : decode cX12_takesRest 132 = .ok (.iconst 0, 1) := by decide +kernel
theorem dX12_takesRest_133 : decode cX12_takesRest 133 = .ok (.invokevirtual 299, 3) := by decide +kernel
theorem dX12_takesRest_136 : decode cX12_takesRest 136 = .ok (.ireturn, 1) := by decide +kernel
theorem dX12_takesRest_137 : decode cX12_takesRest 137 = .ok (.aload_n 0, 1) := by decide +kernel
theorem dX12_takesRest_138 : decode cX12_takesRest 138 = .ok (.iconst 0, 1) := by decide +kernel
theorem dX12_takesRest_139 : decode cX12_takesRest 139 = .ok (.iconst 0, 1) := by decide +kernel
theorem dX12_takesRest_140 : decode cX12_takesRest 140 = .ok (.invokevirtual 302, 3) := by decide +kernel
theorem dX12_takesRest_143 : decode cX12_takesRest 143 = .ok (.ifCond .eq 16, 3) := by decide +kernel
theorem dX12_takesRest_146 : decode cX12_takesRest 146 = .ok (.aload_n 0, 1) := by decide +kernel
theorem dX12_takesRest_147 : decode cX12_takesRest 147 = .ok (.iconst 1, 1) := by decide +kernel
theorem dX12_takesRest_148 : decode cX12_takesRest 148 = .ok (.iconst 0, 1) := by decide +kernel
theorem dX12_takesRest_149 : decode cX12_takesRest 149 = .ok (.invokevirtual 302, 3) := by decide +kernel
theorem dX12_takesRest_152 : decode cX12_takesRest 152 = .ok (.ifCond .eq 7, 3) := by decide +kernel
theorem dX12_takesRest_155 : decode cX12_takesRest 155 = .ok (.iconst 1, 1) := by decide +kernel
theorem dX12_takesRest_156 : decode cX12_takesRest 156 = .ok (.goto 4, 3) := by decide +kernel
theorem dX12_takesRest_159 : decode cX12_takesRest 159 = .ok (.iconst 0, 1) := by decide +kernel
theorem dX12_takesRest_160 : decode cX12_takesRest 160 = .ok (.ireturn, 1) := by decide +kernel
theorem dX12_takesRest_161 : decode cX12_takesRest 161 = .ok (.aload_n 0, 1) := by decide +kernel
theorem dX12_takesRest_162 : decode cX12_takesRest 162 = .ok (.iconst 0, 1) := by decide +kernel
theorem dX12_takesRest_163 : decode cX12_takesRest 163 = .ok (.iconst 0, 1) := by decide +kernel
theorem dX12_takesRest_164 : decode cX12_takesRest 164 = .ok (.invokevirtual 302, 3) := by decide +kernel
theorem dX12_takesRest_167 : decode cX12_takesRest 167 = .ok (.ireturn, 1) := by decide +kernel
set_option maxRecDepth 20000 in
theorem ggX12_takesAct_X12_takesWord : GoodIn wsX12_takesAct wsX12_takesWord := goodIn_r _ [6, 7, 8, 1, 9, 10, 11, 5, 12, 13, 14, 15, 16, 17, 18, 19, 20, 21, 22, 23, 24, 25, 26, 27, 28, 29, 30, 31, 32, 33, 34, 35, 36, 37, 38, 39, 40, 41, 42, 43, 44, 45, 46, 47, 48, 49, 50, 51, 52, 53, 54, 55, 56, 57, 58, 59, 60, 61, 62, 63, 64, 65, 66, 67, 68, 69, 70, 71, 72, 73, 99, 100, 101, 102, 103, 104, 105, 106, 107, 108, 109, 110, 111, 112, 113, 114, 115, 116, 117, 118, 119, 120, 121, 122, 123, 124, 125, 126, 127, 128, 129, 130] rfl (by decide +kernel)
set_option maxRecDepth 20000 in
theorem gX12_takesAct_X12_takesWord : GoodIn wsX12_takesAct (wsV RX12 306 RX12 yX12_takesWord wsX12_takesWord) := goodIn_app (goodIn_of _ (by decide +kernel)) ggX12_takesAct_X12_takesWord
set_option maxRecDepth 20000 in
theorem ggX12_takesAct_X12_takesRest : GoodIn wsX12_takesAct wsX12_takesRest := goodIn_r _ [77, 8, 1, 78, 79, 80, 5, 81, 14, 7, 82, 83, 84, 85, 86, 87, 88, 89, 90, 13, 9, 10, 11, 12, 15, 16, 17, 91, 92, 93, 94, 95, 96, 97, 98, 99, 100, 101, 102, 103, 104, 105, 106, 107, 108, 109, 110, 111, 112, 113, 114, 115, 116, 117, 118, 119, 120, 121, 122, 123, 124, 125, 126, 127, 128, 129, 130] rfl (by decide +kernel)
set_option maxRecDepth 20000 in
theorem gX12_takesAct_X12_takesRest : GoodIn wsX12_takesAct (wsV RX12 309 RX12 yX12_takesRest wsX12_takesRest) := goodIn_app (goodIn_of _ (by decide +kernel)) ggX12_takesAct_X12_takesRest
theorem dX12_takesAct_0 : decode cX12_takesAct 0 = .ok (.aload_n 0, 1) := by decide +kernel
theorem dX12_takesAct_1 : decode cX12_takesAct 1 = .ok (.invokevirtual 306, 3) := by decide +kernel
theorem dX12_takesAct_4 : decode cX12_takesAct 4 = .ok (.ifCond .eq 10, 3) := by decide +kernel
theorem dX12_takesAct_7 : decode cX12_takesAct 7 = .ok (.aload_n 0, 1) := by decide +kernel
theorem dX12_takesAct_8 : decode cX12_takesAct 8 = .ok (.invokevirtual 309, 3) := by decide +kernel
theorem dX12_takesAct_11 : decode cX12_takesAct 11 = .ok (.ifCond .ne 5, 3) := by decide +kernel
theorem dX12_takesAct_14 : decode cX12_takesAct 14 = .ok (.iconst 0, 1) := by decide +kernel
theorem dX12_takesAct_15 : decode cX12_takesAct 15 = .ok (.ireturn, 1) := by decide +kernel
theorem dX12_takesAct_16 : decode cX12_takesAct 16 = .ok (.aload_n 0, 1) := by decide +kernel
theorem dX12_takesAct_17 : decode cX12_takesAct 17 = .ok (.dup, 1) := by decide +kernel
theorem dX12_takesAct_18 : decode cX12_takesAct 18 = .ok (.getfield 286, 3) := by decide +kernel
theorem dX12_takesAct_21 : decode cX12_takesAct 21 = .ok (.iconst 1, 1) := by decide +kernel
theorem dX12_takesAct_22 : decode cX12_takesAct 22 = .ok (.iadd, 1) := by decide +kernel
theorem dX12_takesAct_23 : decode cX12_takesAct 23 = .ok (.putfield 286, 3) := by decide +kernel
theorem dX12_takesAct_26 : decode cX12_takesAct 26 = .ok (.iconst 1, 1) := by decide +kernel
theorem dX12_takesAct_27 : decode cX12_takesAct 27 = .ok (.ireturn, 1) := by decide +kernel
set_option maxRecDepth 20000 in
theorem ggX12_takesAll_X12_takesAct : GoodIn wsX12_takesAll wsX12_takesAct := goodIn_r _ [8, 2, 9, 10, 11, 7, 12, 1, 13, 14, 15, 16, 17, 3, 18, 19, 20, 21, 22, 23, 24, 25, 26, 27, 28, 29, 30, 31, 32, 33, 34, 35, 36, 37, 38, 39, 40, 41, 42, 43, 44, 45, 46, 47, 48, 49, 50, 51, 52, 53, 54, 55, 56, 57, 58, 59, 60, 61, 62, 63, 64, 65, 66, 67, 68, 69, 70, 71, 72, 73, 74, 75, 76, 77, 78, 79, 80, 81, 82, 83, 84, 85, 86, 87, 88, 89, 90, 91, 92, 93, 94, 95, 96, 97, 98, 99, 100, 101, 102, 103, 104, 105, 106, 107, 108, 109, 110, 111, 112, 113, 114, 115, 116, 117, 118, 119, 120, 121, 122, 123, 124, 125, 126, 127, 128, 129, 130, 131, 132, 133, 134] rfl (by decide +kernel)
set_option maxRecDepth 20000 in
theorem gX12_takesAll_X12_takesAct : GoodIn wsX12_takesAll (wsV RX12 312 RX12 yX12_takesAct wsX12_takesAct) := goodIn_app (goodIn_of _ (by decide +kernel)) ggX12_takesAll_X12_takesAct
set_option maxRecDepth 20000 in
theorem ggX12_takesAll_X12_isAt : GoodIn wsX12_takesAll wsX12_isAt := goodIn_r _ [94, 1, 3, 18, 103, 104, 105, 106, 107, 108, 109, 110, 111, 112, 113, 114, 115, 116, 117, 118, 119, 120, 121, 122, 123, 124, 125, 126, 127, 128, 129, 130, 131, 132, 133, 134] rfl (by decide +kernel)
set_option maxRecDepth 20000 in
theorem gX12_takesAll_X12_isAt : GoodIn wsX12_takesAll (wsV RX12 289 RX12 yX12_isAt wsX12_isAt) := goodIn_app (goodIn_of _ (by decide +kernel)) ggX12_takesAll_X12_isAt
theorem dX12_takesAll_0 : decode cX12_takesAll 0 = .ok (.aload_n 0, 1) := by decide +kernel
theorem dX12_takesAll_1 : decode cX12_takesAll 1 = .ok (.iconst 0, 1) := by decide +kernel
theorem dX12_takesAll_2 : decode cX12_takesAll 2 = .ok (.putfield 260, 3) := by decide +kernel
theorem dX12_takesAll_5 : decode cX12_takesAll 5 = .ok (.aload_n 0, 1) := by decide +kernel
theorem dX12_takesAll_6 : decode cX12_takesAll 6 = .ok (.iconst 0, 1) := by decide +kernel
theorem dX12_takesAll_7 : decode cX12_takesAll 7 = .ok (.putfield 286, 3) := by decide +kernel
theorem dX12_takesAll_10 : decode cX12_takesAll 10 = .ok (.aload_n 0, 1) := by decide +kernel
theorem dX12_takesAll_11 : decode cX12_takesAll 11 = .ok (.invokevirtual 312, 3) := by decide +kernel
theorem dX12_takesAll_14 : decode cX12_takesAll 14 = .ok (.ifCond .ne 5, 3) := by decide +kernel
theorem dX12_takesAll_17 : decode cX12_takesAll 17 = .ok (.iconst 0, 1) := by decide +kernel
theorem dX12_takesAll_18 : decode cX12_takesAll 18 = .ok (.ireturn, 1) := by decide +kernel
theorem dX12_takesAll_19 : decode cX12_takesAll 19 = .ok (.aload_n 0, 1) := by decide +kernel
theorem dX12_takesAll_20 : decode cX12_takesAll 20 = .ok (.getfield 260, 3) := by decide +kernel
theorem dX12_takesAll_23 : decode cX12_takesAll 23 = .ok (.aload_n 0, 1) := by decide +kernel
theorem dX12_takesAll_24 : decode cX12_takesAll 24 = .ok (.getfield 257, 3) := by decide +kernel
theorem dX12_takesAll_27 : decode cX12_takesAll 27 = .ok (.if_icmp .ge 33, 3) := by decide +kernel
theorem dX12_takesAll_30 : decode cX12_takesAll 30 = .ok (.aload_n 0, 1) := by decide +kernel
theorem dX12_takesAll_31 : decode cX12_takesAll 31 = .ok (.bipush 59, 2) := by decide +kernel
theorem dX12_takesAll_33 : decode cX12_takesAll 33 = .ok (.invokevirtual 289, 3) := by decide +kernel
theorem dX12_takesAll_36 : decode cX12_takesAll 36 = .ok (.ifCond .ne 5, 3) := by decide +kernel
theorem dX12_takesAll_39 : decode cX12_takesAll 39 = .ok (.iconst 0, 1) := by decide +kernel
theorem dX12_takesAll_40 : decode cX12_takesAll 40 = .ok (.ireturn, 1) := by decide +kernel
theorem dX12_takesAll_41 : decode cX12_takesAll 41 = .ok (.aload_n 0, 1) := by decide +kernel
theorem dX12_takesAll_42 : decode cX12_takesAll 42 = .ok (.dup, 1) := by decide +kernel
theorem dX12_takesAll_43 : decode cX12_takesAll 43 = .ok (.getfield 260, 3) := by decide +kernel
theorem dX12_takesAll_46 : decode cX12_takesAll 46 = .ok (.iconst 1, 1) := by decide +kernel
theorem dX12_takesAll_47 : decode cX12_takesAll 47 = .ok (.iadd, 1) := by decide +kernel
theorem dX12_takesAll_48 : decode cX12_takesAll 48 = .ok (.putfield 260, 3) := by decide +kernel
theorem dX12_takesAll_51 : decode cX12_takesAll 51 = .ok (.aload_n 0, 1) := by decide +kernel
theorem dX12_takesAll_52 : decode cX12_takesAll 52 = .ok (.invokevirtual 312, 3) := by decide +kernel
theorem dX12_takesAll_55 : decode cX12_takesAll 55 = .ok (.ifCond .ne (-36), 3) := by decide +kernel
theorem dX12_takesAll_58 : decode cX12_takesAll 58 = .ok (.iconst 0, 1) := by decide +kernel
theorem dX12_takesAll_59 : decode cX12_takesAll 59 = .ok (.ireturn, 1) := by decide +kernel
theorem dX12_takesAll_60 : decode cX12_takesAll 60 = .ok (.iconst 1, 1) := by decide +kernel
theorem dX12_takesAll_61 : decode cX12_takesAll 61 = .ok (.ireturn, 1) := by decide +kernel
set_option maxRecDepth 20000 in
theorem ggX12_done_X12_put : GoodIn wsX12_done wsX12_put := goodIn_r _ [7, 8, 9, 10, 11, 12, 13, 14, 15, 16, 6, 17, 18, 19, 20, 21, 22, 23, 24, 25, 26, 27, 28, 29, 30, 31, 32, 33, 34, 64, 65, 66, 67, 68, 69, 70, 71, 72, 73, 74, 75, 76, 77, 78, 79, 80, 81, 82, 83, 84, 85, 86, 87, 88, 89, 90, 91, 92, 93, 94, 95] rfl (by decide +kernel)
set_option maxRecDepth 20000 in
theorem gX12_done_X12_put : GoodIn wsX12_done (wsV RX12 315 RX12 yX12_put wsX12_put) := goodIn_app (goodIn_of _ (by decide +kernel)) ggX12_done_X12_put
set_option maxRecDepth 20000 in
theorem ggX12_done_X12_move : GoodIn wsX12_done wsX12_move := goodIn_r _ [38, 12, 13, 15, 16, 6, 17, 18, 22, 23, 24, 25, 26, 19, 20, 21, 27, 28, 29, 30, 8, 9, 64, 65, 66, 67, 68, 69, 70, 71, 72, 73, 74, 75, 76, 77, 78, 79, 80, 81, 82, 83, 84, 85, 86, 87, 88, 89, 90, 91, 92, 93, 94, 95] rfl (by decide +kernel)
set_option maxRecDepth 20000 in
theorem gX12_done_X12_move : GoodIn wsX12_done (wsV RX12 318 RX12 yX12_move wsX12_move) := goodIn_app (goodIn_of _ (by decide +kernel)) ggX12_done_X12_move
set_option maxRecDepth 20000 in
theorem ggX12_done_X12_take : GoodIn wsX12_done wsX12_take := goodIn_r _ [42, 8, 15, 16, 6, 17, 18, 27, 28, 29, 30, 9, 43, 44, 45, 46, 11, 47, 10, 31, 32, 33, 34, 12, 13, 14, 64, 65, 66, 67, 68, 69, 70, 71, 72, 73, 74, 75, 76, 77, 78, 79, 80, 81, 82, 83, 84, 85, 86, 87, 88, 89, 90, 91, 92, 93, 94, 95] rfl (by decide +kernel)
set_option maxRecDepth 20000 in
theorem gX12_done_X12_take : GoodIn wsX12_done (wsV RX12 321 RX12 yX12_take wsX12_take) := goodIn_app (goodIn_of _ (by decide +kernel)) ggX12_done_X12_take
set_option maxRecDepth 20000 in
theorem ggX12_done_X12_fill : GoodIn wsX12_done wsX12_fill := goodIn_r _ [51, 52, 53, 54, 55, 56, 6, 57, 19, 20, 21, 64, 65, 66, 67, 68, 69, 70, 71, 72, 73, 74, 75, 76, 77, 78, 79, 80, 81, 82, 83, 84, 85, 86, 87, 88, 89, 90, 91, 92, 93, 94, 95] rfl (by decide +kernel)
set_option maxRecDepth 20000 in
theorem gX12_done_X12_fill : GoodIn wsX12_done (wsV RX12 323 RX12 yX12_fill wsX12_fill) := goodIn_app (goodIn_of _ (by decide +kernel)) ggX12_done_X12_fill
set_option maxRecDepth 20000 in
theorem ggX12_done_X12_set : GoodIn wsX12_done wsX12_set := goodIn_r _ [61, 62, 63, 47, 19, 20, 6, 21, 64, 65, 66, 67, 68, 69, 70, 71, 72, 73, 74, 75, 76, 77, 78, 79, 80, 81, 82, 83, 84, 85, 86, 87, 88, 89, 90, 91, 92, 93, 94, 95] rfl (by decide +kernel)
set_option maxRecDepth 20000 in
theorem gX12_done_X12_set : GoodIn wsX12_done (wsV RX12 325 RX12 yX12_set wsX12_set) := goodIn_app (goodIn_of _ (by decide +kernel)) ggX12_done_X12_set
theorem dX12_done_0 : decode cX12_done 0 = .ok (.aload_n 0, 1) := by decide +kernel
theorem dX12_done_1 : decode cX12_done 1 = .ok (.getfield 74, 3) := by decide +kernel
theorem dX12_done_4 : decode cX12_done 4 = .ok (.bipush 6, 2) := by decide +kernel
theorem dX12_done_6 : decode cX12_done 6 = .ok (.iload_n 1, 1) := by decide +kernel
theorem dX12_done_7 : decode cX12_done 7 = .ok (.imul, 1) := by decide +kernel
theorem dX12_done_8 : decode cX12_done 8 = .ok (.iaload, 1) := by decide +kernel
theorem dX12_done_9 : decode cX12_done 9 = .ok (.istore_n 2, 1) := by decide +kernel
theorem dX12_done_10 : decode cX12_done 10 = .ok (.aload_n 0, 1) := by decide +kernel
theorem dX12_done_11 : decode cX12_done 11 = .ok (.getfield 74, 3) := by decide +kernel
theorem dX12_done_14 : decode cX12_done 14 = .ok (.bipush 6, 2) := by decide +kernel
theorem dX12_done_16 : decode cX12_done 16 = .ok (.iload_n 1, 1) := by decide +kernel
theorem dX12_done_17 : decode cX12_done 17 = .ok (.imul, 1) := by decide +kernel
theorem dX12_done_18 : decode cX12_done 18 = .ok (.iconst 1, 1) := by decide +kernel
theorem dX12_done_19 : decode cX12_done 19 = .ok (.iadd, 1) := by decide +kernel
theorem dX12_done_20 : decode cX12_done 20 = .ok (.iaload, 1) := by decide +kernel
theorem dX12_done_21 : decode cX12_done 21 = .ok (.istore_n 3, 1) := by decide +kernel
theorem dX12_done_22 : decode cX12_done 22 = .ok (.aload_n 0, 1) := by decide +kernel
theorem dX12_done_23 : decode cX12_done 23 = .ok (.getfield 74, 3) := by decide +kernel
theorem dX12_done_26 : decode cX12_done 26 = .ok (.bipush 6, 2) := by decide +kernel
theorem dX12_done_28 : decode cX12_done 28 = .ok (.iload_n 1, 1) := by decide +kernel
theorem dX12_done_29 : decode cX12_done 29 = .ok (.imul, 1) := by decide +kernel
theorem dX12_done_30 : decode cX12_done 30 = .ok (.iconst 2, 1) := by decide +kernel
theorem dX12_done_31 : decode cX12_done 31 = .ok (.iadd, 1) := by decide +kernel
theorem dX12_done_32 : decode cX12_done 32 = .ok (.iaload, 1) := by decide +kernel
theorem dX12_done_33 : decode cX12_done 33 = .ok (.istore 4, 2) := by decide +kernel
theorem dX12_done_35 : decode cX12_done 35 = .ok (.aload_n 0, 1) := by decide +kernel
theorem dX12_done_36 : decode cX12_done 36 = .ok (.getfield 71, 3) := by decide +kernel
theorem dX12_done_39 : decode cX12_done 39 = .ok (.iload_n 1, 1) := by decide +kernel
theorem dX12_done_40 : decode cX12_done 40 = .ok (.iaload, 1) := by decide +kernel
theorem dX12_done_41 : decode cX12_done 41 = .ok (.tableswitch 95 0 3 #[31, 73, 82, 88], 31) := by decide +kernel
theorem dX12_done_72 : decode cX12_done 72 = .ok (.aload_n 0, 1) := by decide +kernel
theorem dX12_done_73 : decode cX12_done 73 = .ok (.iload_n 2, 1) := by decide +kernel
theorem dX12_done_74 : decode cX12_done 74 = .ok (.iload_n 3, 1) := by decide +kernel
theorem dX12_done_75 : decode cX12_done 75 = .ok (.iload 4, 2) := by decide +kernel
theorem dX12_done_77 : decode cX12_done 77 = .ok (.aload_n 0, 1) := by decide +kernel
theorem dX12_done_78 : decode cX12_done 78 = .ok (.getfield 74, 3) := by decide +kernel
theorem dX12_done_81 : decode cX12_done 81 = .ok (.bipush 6, 2) := by decide +kernel
theorem dX12_done_83 : decode cX12_done 83 = .ok (.iload_n 1, 1) := by decide +kernel
theorem dX12_done_84 : decode cX12_done 84 = .ok (.imul, 1) := by decide +kernel
theorem dX12_done_85 : decode cX12_done 85 = .ok (.iconst 3, 1) := by decide +kernel
theorem dX12_done_86 : decode cX12_done 86 = .ok (.iadd, 1) := by decide +kernel
theorem dX12_done_87 : decode cX12_done 87 = .ok (.iaload, 1) := by decide +kernel
theorem dX12_done_88 : decode cX12_done 88 = .ok (.aload_n 0, 1) := by decide +kernel
theorem dX12_done_89 : decode cX12_done 89 = .ok (.getfield 74, 3) := by decide +kernel
theorem dX12_done_92 : decode cX12_done 92 = .ok (.bipush 6, 2) := by decide +kernel
theorem dX12_done_94 : decode cX12_done 94 = .ok (.iload_n 1, 1) := by decide +kernel
theorem dX12_done_95 : decode cX12_done 95 = .ok (.imul, 1) := by decide +kernel
theorem dX12_done_96 : decode cX12_done 96 = .ok (.iconst 4, 1) := by decide +kernel
theorem dX12_done_97 : decode cX12_done 97 = .ok (.iadd, 1) := by decide +kernel
theorem dX12_done_98 : decode cX12_done 98 = .ok (.iaload, 1) := by decide +kernel
theorem dX12_done_99 : decode cX12_done 99 = .ok (.aload_n 0, 1) := by decide +kernel
theorem dX12_done_100 : decode cX12_done 100 = .ok (.getfield 74, 3) := by decide +kernel
theorem dX12_done_103 : decode cX12_done 103 = .ok (.bipush 6, 2) := by decide +kernel
theorem dX12_done_105 : decode cX12_done 105 = .ok (.iload_n 1, 1) := by decide +kernel
theorem dX12_done_106 : decode cX12_done 106 = .ok (.imul, 1) := by decide +kernel
theorem dX12_done_107 : decode cX12_done 107 = .ok (.iconst 5, 1) := by decide +kernel
theorem dX12_done_108 : decode cX12_done 108 = .ok (.iadd, 1) := by decide +kernel
theorem dX12_done_109 : decode cX12_done 109 = .ok (.iaload, 1) := by decide +kernel
theorem dX12_done_110 : decode cX12_done 110 = .ok (.invokevirtual 315, 3) := by decide +kernel
theorem dX12_done_113 : decode cX12_done 113 = .ok (.ireturn, 1) := by decide +kernel
theorem dX12_done_114 : decode cX12_done 114 = .ok (.aload_n 0, 1) := by decide +kernel
theorem dX12_done_115 : decode cX12_done 115 = .ok (.iload_n 2, 1) := by decide +kernel
theorem dX12_done_116 : decode cX12_done 116 = .ok (.iload_n 3, 1) := by decide +kernel
theorem dX12_done_117 : decode cX12_done 117 = .ok (.iload 4, 2) := by decide +kernel
theorem dX12_done_119 : decode cX12_done 119 = .ok (.invokevirtual 318, 3) := by decide +kernel
theorem dX12_done_122 : decode cX12_done 122 = .ok (.ireturn, 1) := by decide +kernel
theorem dX12_done_123 : decode cX12_done 123 = .ok (.aload_n 0, 1) := by decide +kernel
theorem dX12_done_124 : decode cX12_done 124 = .ok (.iload_n 2, 1) := by decide +kernel
theorem dX12_done_125 : decode cX12_done 125 = .ok (.invokevirtual 321, 3) := by decide +kernel
theorem dX12_done_128 : decode cX12_done 128 = .ok (.ireturn, 1) := by decide +kernel
theorem dX12_done_129 : decode cX12_done 129 = .ok (.aload_n 0, 1) := by decide +kernel
theorem dX12_done_130 : decode cX12_done 130 = .ok (.iload_n 2, 1) := by decide +kernel
theorem dX12_done_131 : decode cX12_done 131 = .ok (.iload_n 3, 1) := by decide +kernel
theorem dX12_done_132 : decode cX12_done 132 = .ok (.invokevirtual 323, 3) := by decide +kernel
theorem dX12_done_135 : decode cX12_done 135 = .ok (.ireturn, 1) := by decide +kernel
theorem dX12_done_136 : decode cX12_done 136 = .ok (.aload_n 0, 1) := by decide +kernel
theorem dX12_done_137 : decode cX12_done 137 = .ok (.iconst 2, 1) := by decide +kernel
theorem dX12_done_138 : decode cX12_done 138 = .ok (.iload_n 2, 1) := by decide +kernel
theorem dX12_done_139 : decode cX12_done 139 = .ok (.invokevirtual 325, 3) := by decide +kernel
theorem dX12_done_142 : decode cX12_done 142 = .ok (.ireturn, 1) := by decide +kernel
set_option maxRecDepth 20000 in
theorem ggX12_read_X12_takesAll : GoodIn wsX12_read wsX12_takesAll := goodIn_r _ [8, 2, 3, 1, 9, 10, 11, 7, 12, 13, 14, 15, 16, 17, 18, 19, 20, 21, 22, 23, 24, 25, 26, 27, 28, 29, 30, 31, 32, 33, 34, 35, 36, 37, 38, 39, 40, 41, 42, 43, 44, 45, 46, 47, 48, 49, 50, 51, 52, 53, 54, 55, 56, 57, 58, 59, 60, 61, 62, 63, 64, 65, 66, 67, 68, 69, 70, 71, 72, 73, 74, 75, 76, 77, 78, 79, 80, 81, 82, 83, 84, 85, 86, 87, 88, 89, 90, 91, 92, 93, 94, 95, 96, 97, 98, 99, 100, 101, 102, 103, 104, 105, 106, 168, 169, 170, 171, 172, 173, 174, 175, 176, 177, 178, 179, 180, 181, 182, 183, 184, 185, 186, 187, 188, 189, 190, 191, 192, 193, 194, 195, 196, 197, 198, 199] rfl (by decide +kernel)
set_option maxRecDepth 20000 in
theorem gX12_read_X12_takesAll : GoodIn wsX12_read (wsV RX12 328 RX12 yX12_takesAll wsX12_takesAll) := goodIn_app (goodIn_of _ (by decide +kernel)) ggX12_read_X12_takesAll
set_option maxRecDepth 20000 in
theorem ggX12_read_X12_done : GoodIn wsX12_read wsX12_done := goodIn_r _ [110, 90, 17, 111, 112, 113, 7, 114, 115, 116, 117, 118, 119, 120, 121, 122, 123, 124, 125, 23, 24, 25, 126, 127, 128, 129, 130, 131, 132, 133, 134, 135, 136, 137, 138, 139, 140, 141, 142, 143, 144, 145, 146, 147, 148, 149, 150, 151, 152, 153, 154, 155, 156, 157, 158, 159, 160, 161, 162, 163, 164, 165, 166, 167, 168, 169, 170, 171, 172, 173, 174, 175, 176, 177, 178, 179, 180, 181, 182, 183, 184, 185, 186, 187, 188, 189, 190, 191, 192, 193, 194, 195, 196, 197, 198, 199] rfl (by decide +kernel)
set_option maxRecDepth 20000 in
theorem gX12_read_X12_done : GoodIn wsX12_read (wsV RX12 331 RX12 yX12_done wsX12_done) := goodIn_app (goodIn_of _ (by decide +kernel)) ggX12_read_X12_done
theorem dX12_read_0 : decode cX12_read 0 = .ok (.aload_n 0, 1) := by decide +kernel
theorem dX12_read_1 : decode cX12_read 1 = .ok (.invokevirtual 328, 3) := by decide +kernel
theorem dX12_read_4 : decode cX12_read 4 = .ok (.istore_n 1, 1) := by decide +kernel
theorem dX12_read_5 : decode cX12_read 5 = .ok (.aload_n 0, 1) := by decide +kernel
theorem dX12_read_6 : decode cX12_read 6 = .ok (.iconst 0, 1) := by decide +kernel
theorem dX12_read_7 : decode cX12_read 7 = .ok (.putfield 257, 3) := by decide +kernel
theorem dX12_read_10 : decode cX12_read 10 = .ok (.iload_n 1, 1) := by decide +kernel
theorem dX12_read_11 : decode cX12_read 11 = .ok (.ifCond .ne 11, 3) := by decide +kernel
theorem dX12_read_14 : decode cX12_read 14 = .ok (.bipush (-100), 2) := by decide +kernel
theorem dX12_read_16 : decode cX12_read 16 = .ok (.aload_n 0, 1) := by decide +kernel
theorem dX12_read_17 : decode cX12_read 17 = .ok (.getfield 260, 3) := by decide +kernel
theorem dX12_read_20 : decode cX12_read 20 = .ok (.isub, 1) := by decide +kernel
theorem dX12_read_21 : decode cX12_read 21 = .ok (.ireturn, 1) := by decide +kernel
theorem dX12_read_22 : decode cX12_read 22 = .ok (.iconst 0, 1) := by decide +kernel
theorem dX12_read_23 : decode cX12_read 23 = .ok (.istore_n 2, 1) := by decide +kernel
theorem dX12_read_24 : decode cX12_read 24 = .ok (.iload_n 2, 1) := by decide +kernel
theorem dX12_read_25 : decode cX12_read 25 = .ok (.aload_n 0, 1) := by decide +kernel
theorem dX12_read_26 : decode cX12_read 26 = .ok (.getfield 286, 3) := by decide +kernel
theorem dX12_read_29 : decode cX12_read 29 = .ok (.if_icmp .ge 23, 3) := by decide +kernel
theorem dX12_read_32 : decode cX12_read 32 = .ok (.aload_n 0, 1) := by decide +kernel
theorem dX12_read_33 : decode cX12_read 33 = .ok (.iload_n 2, 1) := by decide +kernel
theorem dX12_read_34 : decode cX12_read 34 = .ok (.invokevirtual 331, 3) := by decide +kernel
theorem dX12_read_37 : decode cX12_read 37 = .ok (.ifCond .ge 9, 3) := by decide +kernel
theorem dX12_read_40 : decode cX12_read 40 = .ok (.sipush (-200), 3) := by decide +kernel
theorem dX12_read_43 : decode cX12_read 43 = .ok (.iload_n 2, 1) := by decide +kernel
theorem dX12_read_44 : decode cX12_read 44 = .ok (.isub, 1) := by decide +kernel
theorem dX12_read_45 : decode cX12_read 45 = .ok (.ireturn, 1) := by decide +kernel
theorem dX12_read_46 : decode cX12_read 46 = .ok (.iinc 2 1, 3) := by decide +kernel
theorem dX12_read_49 : decode cX12_read 49 = .ok (.goto (-25), 3) := by decide +kernel
theorem dX12_read_52 : decode cX12_read 52 = .ok (.aload_n 0, 1) := by decide +kernel
theorem dX12_read_53 : decode cX12_read 53 = .ok (.getfield 286, 3) := by decide +kernel
theorem dX12_read_56 : decode cX12_read 56 = .ok (.ireturn, 1) := by decide +kernel
set_option maxRecDepth 20000 in
theorem ggX12_isRow_X12_in : GoodIn wsX12_isRow wsX12_in := goodIn_r _ [4] rfl (by decide +kernel)
set_option maxRecDepth 20000 in
theorem gX12_isRow_X12_in : GoodIn wsX12_isRow (va_wsS RX12 101 yX12_in wsX12_in) := goodIn_app (goodIn_of _ (by decide +kernel)) ggX12_isRow_X12_in
theorem dX12_isRow_0 : decode cX12_isRow 0 = .ok (.iload_n 0, 1) := by decide +kernel
theorem dX12_isRow_1 : decode cX12_isRow 1 = .ok (.iconst 0, 1) := by decide +kernel
theorem dX12_isRow_2 : decode cX12_isRow 2 = .ok (.iconst 2, 1) := by decide +kernel
theorem dX12_isRow_3 : decode cX12_isRow 3 = .ok (.invokestatic 101, 3) := by decide +kernel
theorem dX12_isRow_6 : decode cX12_isRow 6 = .ok (.ireturn, 1) := by decide +kernel
set_option maxRecDepth 20000 in
theorem ggX12_row_X12_isRow : GoodIn wsX12_row wsX12_isRow := goodIn_r _ [6, 7, 8, 5, 9] rfl (by decide +kernel)
set_option maxRecDepth 20000 in
theorem gX12_row_X12_isRow : GoodIn wsX12_row (va_wsS RX12 228 yX12_isRow wsX12_isRow) := goodIn_app (goodIn_of _ (by decide +kernel)) ggX12_row_X12_isRow
theorem dX12_row_0 : decode cX12_row 0 = .ok (.iload_n 1, 1) := by decide +kernel
theorem dX12_row_1 : decode cX12_row 1 = .ok (.invokestatic 228, 3) := by decide +kernel
theorem dX12_row_4 : decode cX12_row 4 = .ok (.ifCond .eq 9, 3) := by decide +kernel
theorem dX12_row_7 : decode cX12_row 7 = .ok (.iload_n 2, 1) := by decide +kernel
theorem dX12_row_8 : decode cX12_row 8 = .ok (.bipush 40, 2) := by decide +kernel
theorem dX12_row_10 : decode cX12_row 10 = .ok (.if_icmp .le 5, 3) := by decide +kernel
theorem dX12_row_13 : decode cX12_row 13 = .ok (.iconst (-1), 1) := by decide +kernel
theorem dX12_row_14 : decode cX12_row 14 = .ok (.ireturn, 1) := by decide +kernel
theorem dX12_row_15 : decode cX12_row 15 = .ok (.iload_n 2, 1) := by decide +kernel
theorem dX12_row_16 : decode cX12_row 16 = .ok (.iconst (-1), 1) := by decide +kernel
theorem dX12_row_17 : decode cX12_row 17 = .ok (.if_icmp .ge 6, 3) := by decide +kernel
theorem dX12_row_20 : decode cX12_row 20 = .ok (.bipush (-14), 2) := by decide +kernel
theorem dX12_row_22 : decode cX12_row 22 = .ok (.ireturn, 1) := by decide +kernel
theorem dX12_row_23 : decode cX12_row 23 = .ok (.aload_n 0, 1) := by decide +kernel
theorem dX12_row_24 : decode cX12_row 24 = .ok (.getfield 77, 3) := by decide +kernel
theorem dX12_row_27 : decode cX12_row 27 = .ok (.iload_n 1, 1) := by decide +kernel
theorem dX12_row_28 : decode cX12_row 28 = .ok (.iload_n 2, 1) := by decide +kernel
theorem dX12_row_29 : decode cX12_row 29 = .ok (.iastore, 1) := by decide +kernel
theorem dX12_row_30 : decode cX12_row 30 = .ok (.iconst 0, 1) := by decide +kernel
theorem dX12_row_31 : decode cX12_row 31 = .ok (.istore_n 3, 1) := by decide +kernel
theorem dX12_row_32 : decode cX12_row 32 = .ok (.iload_n 3, 1) := by decide +kernel
theorem dX12_row_33 : decode cX12_row 33 = .ok (.bipush 40, 2) := by decide +kernel
theorem dX12_row_35 : decode cX12_row 35 = .ok (.if_icmp .ge 18, 3) := by decide +kernel
theorem dX12_row_38 : decode cX12_row 38 = .ok (.aload_n 0, 1) := by decide +kernel
theorem dX12_row_39 : decode cX12_row 39 = .ok (.getfield 82, 3) := by decide +kernel
theorem dX12_row_42 : decode cX12_row 42 = .ok (.iload_n 1, 1) := by decide +kernel
theorem dX12_row_43 : decode cX12_row 43 = .ok (.aaload, 1) := by decide +kernel
theorem dX12_row_44 : decode cX12_row 44 = .ok (.iload_n 3, 1) := by decide +kernel
theorem dX12_row_45 : decode cX12_row 45 = .ok (.iconst 0, 1) := by decide +kernel
theorem dX12_row_46 : decode cX12_row 46 = .ok (.iastore, 1) := by decide +kernel
theorem dX12_row_47 : decode cX12_row 47 = .ok (.iinc 3 1, 3) := by decide +kernel
theorem dX12_row_50 : decode cX12_row 50 = .ok (.goto (-18), 3) := by decide +kernel
theorem dX12_row_53 : decode cX12_row 53 = .ok (.iconst 1, 1) := by decide +kernel
theorem dX12_row_54 : decode cX12_row 54 = .ok (.ireturn, 1) := by decide +kernel
set_option maxRecDepth 20000 in
theorem ggX12_store_X12_isRow : GoodIn wsX12_store wsX12_isRow := goodIn_r _ [6, 7, 8, 5, 9] rfl (by decide +kernel)
set_option maxRecDepth 20000 in
theorem gX12_store_X12_isRow : GoodIn wsX12_store (va_wsS RX12 228 yX12_isRow wsX12_isRow) := goodIn_app (goodIn_of _ (by decide +kernel)) ggX12_store_X12_isRow
set_option maxRecDepth 20000 in
theorem ggX12_store_X12_in : GoodIn wsX12_store wsX12_in := goodIn_r _ [9] rfl (by decide +kernel)
set_option maxRecDepth 20000 in
theorem gX12_store_X12_in : GoodIn wsX12_store (va_wsS RX12 101 yX12_in wsX12_in) := goodIn_app (goodIn_of _ (by decide +kernel)) ggX12_store_X12_in
theorem dX12_store_0 : decode cX12_store 0 = .ok (.iload_n 1, 1) := by decide +kernel
theorem dX12_store_1 : decode cX12_store 1 = .ok (.invokestatic 228, 3) := by decide +kernel
theorem dX12_store_4 : decode cX12_store 4 = .ok (.ifCond .ne 5, 3) := by decide +kernel
theorem dX12_store_7 : decode cX12_store 7 = .ok (.iconst (-1), 1) := by decide +kernel
theorem dX12_store_8 : decode cX12_store 8 = .ok (.ireturn, 1) := by decide +kernel
theorem dX12_store_9 : decode cX12_store 9 = .ok (.aload_n 0, 1) := by decide +kernel
theorem dX12_store_10 : decode cX12_store 10 = .ok (.getfield 77, 3) := by decide +kernel
theorem dX12_store_13 : decode cX12_store 13 = .ok (.iload_n 1, 1) := by decide +kernel
theorem dX12_store_14 : decode cX12_store 14 = .ok (.iaload, 1) := by decide +kernel
theorem dX12_store_15 : decode cX12_store 15 = .ok (.ifCond .ge 6, 3) := by decide +kernel
theorem dX12_store_18 : decode cX12_store 18 = .ok (.bipush (-11), 2) := by decide +kernel
theorem dX12_store_20 : decode cX12_store 20 = .ok (.ireturn, 1) := by decide +kernel
theorem dX12_store_21 : decode cX12_store 21 = .ok (.iload_n 2, 1) := by decide +kernel
theorem dX12_store_22 : decode cX12_store 22 = .ok (.iconst 0, 1) := by decide +kernel
theorem dX12_store_23 : decode cX12_store 23 = .ok (.aload_n 0, 1) := by decide +kernel
theorem dX12_store_24 : decode cX12_store 24 = .ok (.getfield 77, 3) := by decide +kernel
theorem dX12_store_27 : decode cX12_store 27 = .ok (.iload_n 1, 1) := by decide +kernel
theorem dX12_store_28 : decode cX12_store 28 = .ok (.iaload, 1) := by decide +kernel
theorem dX12_store_29 : decode cX12_store 29 = .ok (.iconst 1, 1) := by decide +kernel
theorem dX12_store_30 : decode cX12_store 30 = .ok (.isub, 1) := by decide +kernel
theorem dX12_store_31 : decode cX12_store 31 = .ok (.invokestatic 101, 3) := by decide +kernel
theorem dX12_store_34 : decode cX12_store 34 = .ok (.ifCond .ne 6, 3) := by decide +kernel
theorem dX12_store_37 : decode cX12_store 37 = .ok (.bipush (-13), 2) := by decide +kernel
theorem dX12_store_39 : decode cX12_store 39 = .ok (.ireturn, 1) := by decide +kernel
theorem dX12_store_40 : decode cX12_store 40 = .ok (.aload_n 0, 1) := by decide +kernel
theorem dX12_store_41 : decode cX12_store 41 = .ok (.getfield 82, 3) := by decide +kernel
theorem dX12_store_44 : decode cX12_store 44 = .ok (.iload_n 1, 1) := by decide +kernel
theorem dX12_store_45 : decode cX12_store 45 = .ok (.aaload, 1) := by decide +kernel
theorem dX12_store_46 : decode cX12_store 46 = .ok (.iload_n 2, 1) := by decide +kernel
theorem dX12_store_47 : decode cX12_store 47 = .ok (.iload_n 3, 1) := by decide +kernel
theorem dX12_store_48 : decode cX12_store 48 = .ok (.iastore, 1) := by decide +kernel
theorem dX12_store_49 : decode cX12_store 49 = .ok (.iconst 1, 1) := by decide +kernel
theorem dX12_store_50 : decode cX12_store 50 = .ok (.ireturn, 1) := by decide +kernel
set_option maxRecDepth 20000 in
theorem ggX12_get_X12_isRow : GoodIn wsX12_get wsX12_isRow := goodIn_r _ [7, 8, 9, 6, 10] rfl (by decide +kernel)
set_option maxRecDepth 20000 in
theorem gX12_get_X12_isRow : GoodIn wsX12_get (va_wsS RX12 228 yX12_isRow wsX12_isRow) := goodIn_app (goodIn_of _ (by decide +kernel)) ggX12_get_X12_isRow
set_option maxRecDepth 20000 in
theorem ggX12_get_X12_in : GoodIn wsX12_get wsX12_in := goodIn_r _ [10] rfl (by decide +kernel)
set_option maxRecDepth 20000 in
theorem gX12_get_X12_in : GoodIn wsX12_get (va_wsS RX12 101 yX12_in wsX12_in) := goodIn_app (goodIn_of _ (by decide +kernel)) ggX12_get_X12_in
theorem dX12_get_0 : decode cX12_get 0 = .ok (.iload_n 1, 1) := by decide +kernel
theorem dX12_get_1 : decode cX12_get 1 = .ok (.invokestatic 228, 3) := by decide +kernel
theorem dX12_get_4 : decode cX12_get 4 = .ok (.ifCond .eq 39, 3) := by decide +kernel
theorem dX12_get_7 : decode cX12_get 7 = .ok (.aload_n 0, 1) := by decide +kernel
theorem dX12_get_8 : decode cX12_get 8 = .ok (.getfield 77, 3) := by decide +kernel
theorem dX12_get_11 : decode cX12_get 11 = .ok (.iload_n 1, 1) := by decide +kernel
theorem dX12_get_12 : decode cX12_get 12 = .ok (.iaload, 1) := by decide +kernel
theorem dX12_get_13 : decode cX12_get 13 = .ok (.ifCond .lt 30, 3) := by decide +kernel
theorem dX12_get_16 : decode cX12_get 16 = .ok (.iload_n 2, 1) := by decide +kernel
theorem dX12_get_17 : decode cX12_get 17 = .ok (.iconst 0, 1) := by decide +kernel
theorem dX12_get_18 : decode cX12_get 18 = .ok (.aload_n 0, 1) := by decide +kernel
theorem dX12_get_19 : decode cX12_get 19 = .ok (.getfield 77, 3) := by decide +kernel
theorem dX12_get_22 : decode cX12_get 22 = .ok (.iload_n 1, 1) := by decide +kernel
theorem dX12_get_23 : decode cX12_get 23 = .ok (.iaload, 1) := by decide +kernel
theorem dX12_get_24 : decode cX12_get 24 = .ok (.iconst 1, 1) := by decide +kernel
theorem dX12_get_25 : decode cX12_get 25 = .ok (.isub, 1) := by decide +kernel
theorem dX12_get_26 : decode cX12_get 26 = .ok (.invokestatic 101, 3) := by decide +kernel
theorem dX12_get_29 : decode cX12_get 29 = .ok (.ifCond .eq 14, 3) := by decide +kernel
theorem dX12_get_32 : decode cX12_get 32 = .ok (.aload_n 0, 1) := by decide +kernel
theorem dX12_get_33 : decode cX12_get 33 = .ok (.getfield 82, 3) := by decide +kernel
theorem dX12_get_36 : decode cX12_get 36 = .ok (.iload_n 1, 1) := by decide +kernel
theorem dX12_get_37 : decode cX12_get 37 = .ok (.aaload, 1) := by decide +kernel
theorem dX12_get_38 : decode cX12_get 38 = .ok (.iload_n 2, 1) := by decide +kernel
theorem dX12_get_39 : decode cX12_get 39 = .ok (.iaload, 1) := by decide +kernel
theorem dX12_get_40 : decode cX12_get 40 = .ok (.goto 5, 3) := by decide +kernel
theorem dX12_get_43 : decode cX12_get 43 = .ok (.ldc 124, 2) := by decide +kernel
theorem dX12_get_45 : decode cX12_get 45 = .ok (.ireturn, 1) := by decide +kernel
set_option maxRecDepth 20000 in
theorem ggX12_film_X12_isRow : GoodIn wsX12_film wsX12_isRow := goodIn_r _ [8, 9, 10, 7, 11] rfl (by decide +kernel)
set_option maxRecDepth 20000 in
theorem gX12_film_X12_isRow : GoodIn wsX12_film (va_wsS RX12 228 yX12_isRow wsX12_isRow) := goodIn_app (goodIn_of _ (by decide +kernel)) ggX12_film_X12_isRow
set_option maxRecDepth 20000 in
theorem ggX12_film_X12_layLines : GoodIn wsX12_film wsX12_layLines := goodIn_r _ [15, 4, 1, 16, 17, 18, 19, 7, 20, 21, 22, 23, 24, 25, 26, 27, 28, 29, 30, 31, 32, 33, 34, 35, 36, 37, 38, 39, 40, 41, 42, 43, 44, 45, 46, 47, 48, 49, 50, 51, 52, 53, 54, 55, 56, 57, 58, 59, 60, 61, 62, 63, 64, 65, 66, 67, 68, 69, 70, 71, 72, 73, 74, 75, 76, 77, 78, 79, 80, 81, 82, 83, 84, 85, 86, 87, 88, 89, 90, 91, 92, 93, 94, 95, 96, 97, 98, 99, 100, 101, 102, 103, 104, 105, 106, 107, 108, 109] rfl (by decide +kernel)
set_option maxRecDepth 20000 in
theorem gX12_film_X12_layLines : GoodIn wsX12_film (wsV RX12 225 RX12 yX12_layLines wsX12_layLines) := goodIn_app (goodIn_of _ (by decide +kernel)) ggX12_film_X12_layLines
theorem dX12_film_0 : decode cX12_film 0 = .ok (.iload_n 1, 1) := by decide +kernel
theorem dX12_film_1 : decode cX12_film 1 = .ok (.invokestatic 228, 3) := by decide +kernel
theorem dX12_film_4 : decode cX12_film 4 = .ok (.ifCond .ne 5, 3) := by decide +kernel
theorem dX12_film_7 : decode cX12_film 7 = .ok (.iconst (-1), 1) := by decide +kernel
theorem dX12_film_8 : decode cX12_film 8 = .ok (.ireturn, 1) := by decide +kernel
theorem dX12_film_9 : decode cX12_film 9 = .ok (.aload_n 0, 1) := by decide +kernel
theorem dX12_film_10 : decode cX12_film 10 = .ok (.getfield 98, 3) := by decide +kernel
theorem dX12_film_13 : decode cX12_film 13 = .ok (.iconst 1, 1) := by decide +kernel
theorem dX12_film_14 : decode cX12_film 14 = .ok (.iadd, 1) := by decide +kernel
theorem dX12_film_15 : decode cX12_film 15 = .ok (.istore_n 2, 1) := by decide +kernel
theorem dX12_film_16 : decode cX12_film 16 = .ok (.aload_n 0, 1) := by decide +kernel
theorem dX12_film_17 : decode cX12_film 17 = .ok (.iload_n 2, 1) := by decide +kernel
theorem dX12_film_18 : decode cX12_film 18 = .ok (.invokevirtual 225, 3) := by decide +kernel
theorem dX12_film_21 : decode cX12_film 21 = .ok (.aload_n 0, 1) := by decide +kernel
theorem dX12_film_22 : decode cX12_film 22 = .ok (.getfield 77, 3) := by decide +kernel
theorem dX12_film_25 : decode cX12_film 25 = .ok (.iload_n 1, 1) := by decide +kernel
theorem dX12_film_26 : decode cX12_film 26 = .ok (.iload_n 2, 1) := by decide +kernel
theorem dX12_film_27 : decode cX12_film 27 = .ok (.iastore, 1) := by decide +kernel
theorem dX12_film_28 : decode cX12_film 28 = .ok (.iconst 0, 1) := by decide +kernel
theorem dX12_film_29 : decode cX12_film 29 = .ok (.istore_n 3, 1) := by decide +kernel
theorem dX12_film_30 : decode cX12_film 30 = .ok (.iload_n 3, 1) := by decide +kernel
theorem dX12_film_31 : decode cX12_film 31 = .ok (.bipush 40, 2) := by decide +kernel
theorem dX12_film_33 : decode cX12_film 33 = .ok (.if_icmp .ge 32, 3) := by decide +kernel
theorem dX12_film_36 : decode cX12_film 36 = .ok (.aload_n 0, 1) := by decide +kernel
theorem dX12_film_37 : decode cX12_film 37 = .ok (.getfield 82, 3) := by decide +kernel
theorem dX12_film_40 : decode cX12_film 40 = .ok (.iload_n 1, 1) := by decide +kernel
theorem dX12_film_41 : decode cX12_film 41 = .ok (.aaload, 1) := by decide +kernel
theorem dX12_film_42 : decode cX12_film 42 = .ok (.iload_n 3, 1) := by decide +kernel
theorem dX12_film_43 : decode cX12_film 43 = .ok (.iload_n 3, 1) := by decide +kernel
theorem dX12_film_44 : decode cX12_film 44 = .ok (.iload_n 2, 1) := by decide +kernel
theorem dX12_film_45 : decode cX12_film 45 = .ok (.if_icmp .ge 12, 3) := by decide +kernel
theorem dX12_film_48 : decode cX12_film 48 = .ok (.aload_n 0, 1) := by decide +kernel
theorem dX12_film_49 : decode cX12_film 49 = .ok (.getfield 61, 3) := by decide +kernel
theorem dX12_film_52 : decode cX12_film 52 = .ok (.iload_n 3, 1) := by decide +kernel
