set_option maxRecDepth 20000 in
theorem ggX3_want_X11_isWithin : GoodIn wsX3_want wsX11_isWithin := goodIn_r _ [13] rfl (by decide +kernel)
set_option maxRecDepth 20000 in
theorem gX3_want_X11_isWithin_n69 : GoodIn wsX3_want (wsX11_isWithin) := ggX3_want_X11_isWithin
set_option maxRecDepth 20000 in
theorem ggX3_want_X2_carriedAt : GoodIn wsX3_want wsX2_carriedAt := goodIn_r _ [17, 18, 19, 20, 8, 21, 22, 23, 24, 25, 26, 27, 28, 29, 30, 31, 32, 33, 34, 35, 36, 37, 6, 7, 9, 10, 43, 44, 45, 46, 47, 48] rfl (by decide +kernel)
set_option maxRecDepth 20000 in
theorem gX3_want_X2_carriedAt : GoodIn wsX3_want (wsV RX3 73 RX2 yX2_carriedAt wsX2_carriedAt) := goodIn_app (goodIn_of _ (by decide +kernel)) ggX3_want_X2_carriedAt
theorem dX3_want_0 : decode cX3_want 0 = .ok (.aload_n 0, 1) := by decide +kernel
theorem dX3_want_1 : decode cX3_want 1 = .ok (.iload_n 3, 1) := by decide +kernel
theorem dX3_want_2 : decode cX3_want 2 = .ok (.putfield 18, 3) := by decide +kernel
theorem dX3_want_5 : decode cX3_want 5 = .ok (.iconst 0, 1) := by decide +kernel
theorem dX3_want_6 : decode cX3_want 6 = .ok (.istore 4, 2) := by decide +kernel
theorem dX3_want_8 : decode cX3_want 8 = .ok (.iload 4, 2) := by decide +kernel
theorem dX3_want_10 : decode cX3_want 10 = .ok (.iload_n 3, 1) := by decide +kernel
theorem dX3_want_11 : decode cX3_want 11 = .ok (.if_icmp .ge 99, 3) := by decide +kernel
theorem dX3_want_14 : decode cX3_want 14 = .ok (.aload_n 2, 1) := by decide +kernel
theorem dX3_want_15 : decode cX3_want 15 = .ok (.iload 4, 2) := by decide +kernel
theorem dX3_want_17 : decode cX3_want 17 = .ok (.iaload, 1) := by decide +kernel
theorem dX3_want_18 : decode cX3_want 18 = .ok (.istore 5, 2) := by decide +kernel
theorem dX3_want_20 : decode cX3_want 20 = .ok (.iload 5, 2) := by decide +kernel
theorem dX3_want_22 : decode cX3_want 22 = .ok (.iconst 0, 1) := by decide +kernel
theorem dX3_want_23 : decode cX3_want 23 = .ok (.aload_n 1, 1) := by decide +kernel
theorem dX3_want_24 : decode cX3_want 24 = .ok (.invokevirtual 66, 3) := by decide +kernel
theorem dX3_want_27 : decode cX3_want 27 = .ok (.invokestatic 69, 3) := by decide +kernel
theorem dX3_want_30 : decode cX3_want 30 = .ok (.istore 6, 2) := by decide +kernel
theorem dX3_want_32 : decode cX3_want 32 = .ok (.aload_n 0, 1) := by decide +kernel
theorem dX3_want_33 : decode cX3_want 33 = .ok (.getfield 9, 3) := by decide +kernel
theorem dX3_want_36 : decode cX3_want 36 = .ok (.iload 4, 2) := by decide +kernel
theorem dX3_want_38 : decode cX3_want 38 = .ok (.aload_n 1, 1) := by decide +kernel
theorem dX3_want_39 : decode cX3_want 39 = .ok (.iload 6, 2) := by decide +kernel
theorem dX3_want_41 : decode cX3_want 41 = .ok (.ifCond .eq 10, 3) := by decide +kernel
theorem dX3_want_44 : decode cX3_want 44 = .ok (.iload 5, 2) := by decide +kernel
theorem dX3_want_46 : decode cX3_want 46 = .ok (.iconst 1, 1) := by decide +kernel
theorem dX3_want_47 : decode cX3_want 47 = .ok (.isub, 1) := by decide +kernel
theorem dX3_want_48 : decode cX3_want 48 = .ok (.goto 7, 3) := by decide +kernel
theorem dX3_want_51 : decode cX3_want 51 = .ok (.aload_n 1, 1) := by decide +kernel
theorem dX3_want_52 : decode cX3_want 52 = .ok (.invokevirtual 66, 3) := by decide +kernel
theorem dX3_want_55 : decode cX3_want 55 = .ok (.invokevirtual 73, 3) := by decide +kernel
theorem dX3_want_58 : decode cX3_want 58 = .ok (.iconst 1, 1) := by decide +kernel
theorem dX3_want_59 : decode cX3_want 59 = .ok (.iadd, 1) := by decide +kernel
theorem dX3_want_60 : decode cX3_want 60 = .ok (.iastore, 1) := by decide +kernel
theorem dX3_want_61 : decode cX3_want 61 = .ok (.aload_n 0, 1) := by decide +kernel
theorem dX3_want_62 : decode cX3_want 62 = .ok (.getfield 15, 3) := by decide +kernel
theorem dX3_want_65 : decode cX3_want 65 = .ok (.iload 4, 2) := by decide +kernel
theorem dX3_want_67 : decode cX3_want 67 = .ok (.iload 6, 2) := by decide +kernel
theorem dX3_want_69 : decode cX3_want 69 = .ok (.ifCond .eq 12, 3) := by decide +kernel
theorem dX3_want_72 : decode cX3_want 72 = .ok (.aload_n 1, 1) := by decide +kernel
theorem dX3_want_73 : decode cX3_want 73 = .ok (.iload 5, 2) := by decide +kernel
theorem dX3_want_75 : decode cX3_want 75 = .ok (.invokevirtual 73, 3) := by decide +kernel
theorem dX3_want_78 : decode cX3_want 78 = .ok (.goto 5, 3) := by decide +kernel
theorem dX3_want_81 : decode cX3_want 81 = .ok (.ldc 78, 2) := by decide +kernel
theorem dX3_want_83 : decode cX3_want 83 = .ok (.iastore, 1) := by decide +kernel
theorem dX3_want_84 : decode cX3_want 84 = .ok (.iload 6, 2) := by decide +kernel
theorem dX3_want_86 : decode cX3_want 86 = .ok (.ifCond .ne 18, 3) := by decide +kernel
theorem dX3_want_89 : decode cX3_want 89 = .ok (.iload 5, 2) := by decide +kernel
theorem dX3_want_91 : decode cX3_want 91 = .ok (.bipush (-2), 2) := by decide +kernel
theorem dX3_want_93 : decode cX3_want 93 = .ok (.if_icmp .eq 11, 3) := by decide +kernel
theorem dX3_want_96 : decode cX3_want 96 = .ok (.aload_n 0, 1) := by decide +kernel
theorem dX3_want_97 : decode cX3_want 97 = .ok (.getfield 15, 3) := by decide +kernel
theorem dX3_want_100 : decode cX3_want 100 = .ok (.iload 4, 2) := by decide +kernel
theorem dX3_want_102 : decode cX3_want 102 = .ok (.iconst 0, 1) := by decide +kernel
theorem dX3_want_103 : decode cX3_want 103 = .ok (.iastore, 1) := by decide +kernel
theorem dX3_want_104 : decode cX3_want 104 = .ok (.iinc 4 1, 3) := by decide +kernel
theorem dX3_want_107 : decode cX3_want 107 = .ok (.goto (-99), 3) := by decide +kernel
theorem dX3_want_110 : decode cX3_want 110 = .ok (.return_, 1) := by decide +kernel
set_option maxRecDepth 20000 in
theorem ggX3_tryWeights_X3_isSo : GoodIn wsX3_tryWeights wsX3_isSo := goodIn_r _ [9, 10, 11, 12, 1, 13, 14, 15, 16, 17, 18, 19, 20, 21, 22, 23, 24, 25, 26, 27, 28, 29, 30, 31, 32, 33, 34, 35, 36, 37, 38, 39, 40, 41, 42, 43, 44, 45, 46, 47, 48, 49, 50, 51, 52, 53, 54, 55, 56, 57, 58, 59, 60, 61, 62, 63, 64, 65, 66, 67, 68, 79, 80, 81, 82, 83, 69, 70, 71, 72, 73, 74, 75, 76, 77, 78, 84, 85, 86, 87, 88, 89, 90, 91, 92, 93, 94, 95] rfl (by decide +kernel)
set_option maxRecDepth 20000 in
theorem gX3_tryWeights_X3_isSo : GoodIn wsX3_tryWeights (wsV RX3 82 RX3 yX3_isSo wsX3_isSo) := goodIn_app (goodIn_of _ (by decide +kernel)) ggX3_tryWeights_X3_isSo
theorem dX3_tryWeights_0 : decode cX3_tryWeights 0 = .ok (.aload_n 1, 1) := by decide +kernel
theorem dX3_tryWeights_1 : decode cX3_tryWeights 1 = .ok (.getfield 50, 3) := by decide +kernel
theorem dX3_tryWeights_4 : decode cX3_tryWeights 4 = .ok (.getfield 79, 3) := by decide +kernel
theorem dX3_tryWeights_7 : decode cX3_tryWeights 7 = .ok (.iload_n 3, 1) := by decide +kernel
theorem dX3_tryWeights_8 : decode cX3_tryWeights 8 = .ok (.iaload, 1) := by decide +kernel
theorem dX3_tryWeights_9 : decode cX3_tryWeights 9 = .ok (.istore 4, 2) := by decide +kernel
theorem dX3_tryWeights_11 : decode cX3_tryWeights 11 = .ok (.aload_n 0, 1) := by decide +kernel
theorem dX3_tryWeights_12 : decode cX3_tryWeights 12 = .ok (.iconst 0, 1) := by decide +kernel
theorem dX3_tryWeights_13 : decode cX3_tryWeights 13 = .ok (.putfield 22, 3) := by decide +kernel
theorem dX3_tryWeights_16 : decode cX3_tryWeights 16 = .ok (.aload_n 0, 1) := by decide +kernel
theorem dX3_tryWeights_17 : decode cX3_tryWeights 17 = .ok (.bipush (-2), 2) := by decide +kernel
theorem dX3_tryWeights_19 : decode cX3_tryWeights 19 = .ok (.putfield 25, 3) := by decide +kernel
theorem dX3_tryWeights_22 : decode cX3_tryWeights 22 = .ok (.iconst 1, 1) := by decide +kernel
theorem dX3_tryWeights_23 : decode cX3_tryWeights 23 = .ok (.istore 5, 2) := by decide +kernel
theorem dX3_tryWeights_25 : decode cX3_tryWeights 25 = .ok (.iload 5, 2) := by decide +kernel
theorem dX3_tryWeights_27 : decode cX3_tryWeights 27 = .ok (.sipush 999, 3) := by decide +kernel
theorem dX3_tryWeights_30 : decode cX3_tryWeights 30 = .ok (.if_icmp .gt 52, 3) := by decide +kernel
theorem dX3_tryWeights_33 : decode cX3_tryWeights 33 = .ok (.aload_n 1, 1) := by decide +kernel
theorem dX3_tryWeights_34 : decode cX3_tryWeights 34 = .ok (.getfield 50, 3) := by decide +kernel
theorem dX3_tryWeights_37 : decode cX3_tryWeights 37 = .ok (.getfield 79, 3) := by decide +kernel
theorem dX3_tryWeights_40 : decode cX3_tryWeights 40 = .ok (.iload_n 3, 1) := by decide +kernel
theorem dX3_tryWeights_41 : decode cX3_tryWeights 41 = .ok (.iload 5, 2) := by decide +kernel
theorem dX3_tryWeights_43 : decode cX3_tryWeights 43 = .ok (.iastore, 1) := by decide +kernel
theorem dX3_tryWeights_44 : decode cX3_tryWeights 44 = .ok (.aload_n 0, 1) := by decide +kernel
theorem dX3_tryWeights_45 : decode cX3_tryWeights 45 = .ok (.aload_n 1, 1) := by decide +kernel
theorem dX3_tryWeights_46 : decode cX3_tryWeights 46 = .ok (.aload_n 2, 1) := by decide +kernel
theorem dX3_tryWeights_47 : decode cX3_tryWeights 47 = .ok (.invokevirtual 82, 3) := by decide +kernel
theorem dX3_tryWeights_50 : decode cX3_tryWeights 50 = .ok (.ifCond .eq 26, 3) := by decide +kernel
theorem dX3_tryWeights_53 : decode cX3_tryWeights 53 = .ok (.aload_n 0, 1) := by decide +kernel
theorem dX3_tryWeights_54 : decode cX3_tryWeights 54 = .ok (.getfield 22, 3) := by decide +kernel
theorem dX3_tryWeights_57 : decode cX3_tryWeights 57 = .ok (.ifCond .ne 9, 3) := by decide +kernel
theorem dX3_tryWeights_60 : decode cX3_tryWeights 60 = .ok (.aload_n 0, 1) := by decide +kernel
theorem dX3_tryWeights_61 : decode cX3_tryWeights 61 = .ok (.iload 5, 2) := by decide +kernel
theorem dX3_tryWeights_63 : decode cX3_tryWeights 63 = .ok (.putfield 25, 3) := by decide +kernel
theorem dX3_tryWeights_66 : decode cX3_tryWeights 66 = .ok (.aload_n 0, 1) := by decide +kernel
theorem dX3_tryWeights_67 : decode cX3_tryWeights 67 = .ok (.dup, 1) := by decide +kernel
theorem dX3_tryWeights_68 : decode cX3_tryWeights 68 = .ok (.getfield 22, 3) := by decide +kernel
theorem dX3_tryWeights_71 : decode cX3_tryWeights 71 = .ok (.iconst 1, 1) := by decide +kernel
theorem dX3_tryWeights_72 : decode cX3_tryWeights 72 = .ok (.iadd, 1) := by decide +kernel
theorem dX3_tryWeights_73 : decode cX3_tryWeights 73 = .ok (.putfield 22, 3) := by decide +kernel
theorem dX3_tryWeights_76 : decode cX3_tryWeights 76 = .ok (.iinc 5 1, 3) := by decide +kernel
theorem dX3_tryWeights_79 : decode cX3_tryWeights 79 = .ok (.goto (-54), 3) := by decide +kernel
theorem dX3_tryWeights_82 : decode cX3_tryWeights 82 = .ok (.aload_n 1, 1) := by decide +kernel
theorem dX3_tryWeights_83 : decode cX3_tryWeights 83 = .ok (.getfield 50, 3) := by decide +kernel
theorem dX3_tryWeights_86 : decode cX3_tryWeights 86 = .ok (.getfield 79, 3) := by decide +kernel
theorem dX3_tryWeights_89 : decode cX3_tryWeights 89 = .ok (.iload_n 3, 1) := by decide +kernel
theorem dX3_tryWeights_90 : decode cX3_tryWeights 90 = .ok (.iload 4, 2) := by decide +kernel
theorem dX3_tryWeights_92 : decode cX3_tryWeights 92 = .ok (.iastore, 1) := by decide +kernel
theorem dX3_tryWeights_93 : decode cX3_tryWeights 93 = .ok (.return_, 1) := by decide +kernel
set_option maxRecDepth 20000 in
theorem ggX3_isSo_X0_allWeight : GoodIn wsX3_isSo wsX0_allWeight := goodIn_r _ [11, 12, 13, 14, 15, 16, 17, 18, 19, 20, 10, 21, 22, 23, 24, 25, 26, 27, 28, 66, 67, 68, 78, 79, 80, 81, 82, 83, 69, 70, 71, 72, 73, 74, 75, 84, 85, 86, 87] rfl (by decide +kernel)
set_option maxRecDepth 20000 in
theorem gX3_isSo_X0_allWeight : GoodIn wsX3_isSo (wsV RX3 34 RX0 yX0_allWeight wsX0_allWeight) := goodIn_app (goodIn_of _ (by decide +kernel)) ggX3_isSo_X0_allWeight
set_option maxRecDepth 20000 in
theorem ggX3_isSo_X11_isWithin : GoodIn wsX3_isSo wsX11_isWithin := goodIn_r _ [31] rfl (by decide +kernel)
set_option maxRecDepth 20000 in
theorem gX3_isSo_X11_isWithin_n69 : GoodIn wsX3_isSo (wsX11_isWithin) := ggX3_isSo_X11_isWithin
set_option maxRecDepth 20000 in
theorem ggX3_isSo_X4_arrange : GoodIn wsX3_isSo wsX4_arrange := goodIn_r _ [36, 37, 38, 39, 40, 41, 42, 35, 43, 44, 45, 46, 47, 48, 49, 50, 51, 52, 53, 19, 20, 10, 21, 14, 22, 23, 24, 25, 26, 27, 12, 28, 54, 55, 56, 57, 58, 59, 66, 67, 68, 69, 70, 71, 72, 73, 74, 75, 76, 77, 78, 79, 80, 81, 82, 83] rfl (by decide +kernel)
set_option maxRecDepth 20000 in
theorem gX3_isSo_X4_arrange : GoodIn wsX3_isSo (wsV RX3 28 RX4 yX4_arrange wsX4_arrange) := goodIn_app (goodIn_of _ (by decide +kernel)) ggX3_isSo_X4_arrange
set_option maxRecDepth 20000 in
theorem ggX3_isSo_X0_weighsAt : GoodIn wsX3_isSo wsX0_weighsAt := goodIn_r _ [21, 14, 22, 23, 24, 25, 26, 10, 27, 12, 28, 66, 67, 68, 69, 70, 71, 72, 73, 74, 75, 78, 79, 80, 81, 82, 83] rfl (by decide +kernel)
set_option maxRecDepth 20000 in
theorem gX3_isSo_X0_weighsAt : GoodIn wsX3_isSo (wsV RX3 62 RX0 yX0_weighsAt wsX0_weighsAt) := goodIn_app (goodIn_of _ (by decide +kernel)) ggX3_isSo_X0_weighsAt
theorem dX3_isSo_0 : decode cX3_isSo 0 = .ok (.aload_n 1, 1) := by decide +kernel
theorem dX3_isSo_1 : decode cX3_isSo 1 = .ok (.invokevirtual 34, 3) := by decide +kernel
theorem dX3_isSo_4 : decode cX3_isSo 4 = .ok (.istore_n 3, 1) := by decide +kernel
theorem dX3_isSo_5 : decode cX3_isSo 5 = .ok (.aload_n 0, 1) := by decide +kernel
theorem dX3_isSo_6 : decode cX3_isSo 6 = .ok (.getfield 18, 3) := by decide +kernel
theorem dX3_isSo_9 : decode cX3_isSo 9 = .ok (.ifCond .le 24, 3) := by decide +kernel
theorem dX3_isSo_12 : decode cX3_isSo 12 = .ok (.iload_n 3, 1) := by decide +kernel
theorem dX3_isSo_13 : decode cX3_isSo 13 = .ok (.aload_n 0, 1) := by decide +kernel
theorem dX3_isSo_14 : decode cX3_isSo 14 = .ok (.getfield 9, 3) := by decide +kernel
theorem dX3_isSo_17 : decode cX3_isSo 17 = .ok (.iconst 0, 1) := by decide +kernel
theorem dX3_isSo_18 : decode cX3_isSo 18 = .ok (.iaload, 1) := by decide +kernel
theorem dX3_isSo_19 : decode cX3_isSo 19 = .ok (.aload_n 0, 1) := by decide +kernel
theorem dX3_isSo_20 : decode cX3_isSo 20 = .ok (.getfield 15, 3) := by decide +kernel
theorem dX3_isSo_23 : decode cX3_isSo 23 = .ok (.iconst 0, 1) := by decide +kernel
theorem dX3_isSo_24 : decode cX3_isSo 24 = .ok (.iaload, 1) := by decide +kernel
theorem dX3_isSo_25 : decode cX3_isSo 25 = .ok (.invokestatic 69, 3) := by decide +kernel
theorem dX3_isSo_28 : decode cX3_isSo 28 = .ok (.ifCond .ne 5, 3) := by decide +kernel
theorem dX3_isSo_31 : decode cX3_isSo 31 = .ok (.iconst 0, 1) := by decide +kernel
theorem dX3_isSo_32 : decode cX3_isSo 32 = .ok (.ireturn, 1) := by decide +kernel
theorem dX3_isSo_33 : decode cX3_isSo 33 = .ok (.aload_n 2, 1) := by decide +kernel
theorem dX3_isSo_34 : decode cX3_isSo 34 = .ok (.aload_n 1, 1) := by decide +kernel
theorem dX3_isSo_35 : decode cX3_isSo 35 = .ok (.iconst 0, 1) := by decide +kernel
theorem dX3_isSo_36 : decode cX3_isSo 36 = .ok (.invokevirtual 28, 3) := by decide +kernel
theorem dX3_isSo_39 : decode cX3_isSo 39 = .ok (.iconst 0, 1) := by decide +kernel
theorem dX3_isSo_40 : decode cX3_isSo 40 = .ok (.istore 4, 2) := by decide +kernel
theorem dX3_isSo_42 : decode cX3_isSo 42 = .ok (.iload 4, 2) := by decide +kernel
theorem dX3_isSo_44 : decode cX3_isSo 44 = .ok (.aload_n 0, 1) := by decide +kernel
theorem dX3_isSo_45 : decode cX3_isSo 45 = .ok (.getfield 18, 3) := by decide +kernel
theorem dX3_isSo_48 : decode cX3_isSo 48 = .ok (.if_icmp .ge 58, 3) := by decide +kernel
theorem dX3_isSo_51 : decode cX3_isSo 51 = .ok (.iload_n 3, 1) := by decide +kernel
theorem dX3_isSo_52 : decode cX3_isSo 52 = .ok (.aload_n 0, 1) := by decide +kernel
theorem dX3_isSo_53 : decode cX3_isSo 53 = .ok (.getfield 9, 3) := by decide +kernel
theorem dX3_isSo_56 : decode cX3_isSo 56 = .ok (.iload 4, 2) := by decide +kernel
theorem dX3_isSo_58 : decode cX3_isSo 58 = .ok (.iaload, 1) := by decide +kernel
theorem dX3_isSo_59 : decode cX3_isSo 59 = .ok (.aload_n 0, 1) := by decide +kernel
theorem dX3_isSo_60 : decode cX3_isSo 60 = .ok (.getfield 15, 3) := by decide +kernel
theorem dX3_isSo_63 : decode cX3_isSo 63 = .ok (.iload 4, 2) := by decide +kernel
theorem dX3_isSo_65 : decode cX3_isSo 65 = .ok (.iaload, 1) := by decide +kernel
theorem dX3_isSo_66 : decode cX3_isSo 66 = .ok (.invokestatic 69, 3) := by decide +kernel
theorem dX3_isSo_69 : decode cX3_isSo 69 = .ok (.ifCond .ne 5, 3) := by decide +kernel
theorem dX3_isSo_72 : decode cX3_isSo 72 = .ok (.iconst 0, 1) := by decide +kernel
theorem dX3_isSo_73 : decode cX3_isSo 73 = .ok (.ireturn, 1) := by decide +kernel
theorem dX3_isSo_74 : decode cX3_isSo 74 = .ok (.iload 4, 2) := by decide +kernel
theorem dX3_isSo_76 : decode cX3_isSo 76 = .ok (.aload_n 1, 1) := by decide +kernel
theorem dX3_isSo_77 : decode cX3_isSo 77 = .ok (.getfield 50, 3) := by decide +kernel
theorem dX3_isSo_80 : decode cX3_isSo 80 = .ok (.getfield 54, 3) := by decide +kernel
theorem dX3_isSo_83 : decode cX3_isSo 83 = .ok (.if_icmp .ge 17, 3) := by decide +kernel
theorem dX3_isSo_86 : decode cX3_isSo 86 = .ok (.iload_n 3, 1) := by decide +kernel
theorem dX3_isSo_87 : decode cX3_isSo 87 = .ok (.aload_n 1, 1) := by decide +kernel
theorem dX3_isSo_88 : decode cX3_isSo 88 = .ok (.aload_n 2, 1) := by decide +kernel
theorem dX3_isSo_89 : decode cX3_isSo 89 = .ok (.getfield 59, 3) := by decide +kernel
theorem dX3_isSo_92 : decode cX3_isSo 92 = .ok (.iload 4, 2) := by decide +kernel
theorem dX3_isSo_94 : decode cX3_isSo 94 = .ok (.iaload, 1) := by decide +kernel
theorem dX3_isSo_95 : decode cX3_isSo 95 = .ok (.invokevirtual 62, 3) := by decide +kernel
theorem dX3_isSo_98 : decode cX3_isSo 98 = .ok (.isub, 1) := by decide +kernel
theorem dX3_isSo_99 : decode cX3_isSo 99 = .ok (.istore_n 3, 1) := by decide +kernel
theorem dX3_isSo_100 : decode cX3_isSo 100 = .ok (.iinc 4 1, 3) := by decide +kernel
theorem dX3_isSo_103 : decode cX3_isSo 103 = .ok (.goto (-61), 3) := by decide +kernel
theorem dX3_isSo_106 : decode cX3_isSo 106 = .ok (.iconst 1, 1) := by decide +kernel
theorem dX3_isSo_107 : decode cX3_isSo 107 = .ok (.ireturn, 1) := by decide +kernel
theorem dX4_init_0 : decode cX4_init 0 = .ok (.aload_n 0, 1) := by decide +kernel
theorem dX4_init_1 : decode cX4_init 1 = .ok (.invokespecial 3, 3) := by decide +kernel
theorem dX4_init_4 : decode cX4_init 4 = .ok (.aload_n 0, 1) := by decide +kernel
theorem dX4_init_5 : decode cX4_init 5 = .ok (.bipush 16, 2) := by decide +kernel
theorem dX4_init_7 : decode cX4_init 7 = .ok (.newarray .int, 2) := by decide +kernel
theorem dX4_init_9 : decode cX4_init 9 = .ok (.putfield 9, 3) := by decide +kernel
theorem dX4_init_12 : decode cX4_init 12 = .ok (.aload_n 0, 1) := by decide +kernel
theorem dX4_init_13 : decode cX4_init 13 = .ok (.bipush 16, 2) := by decide +kernel
theorem dX4_init_15 : decode cX4_init 15 = .ok (.newarray .int, 2) := by decide +kernel
theorem dX4_init_17 : decode cX4_init 17 = .ok (.putfield 15, 3) := by decide +kernel
theorem dX4_init_20 : decode cX4_init 20 = .ok (.return_, 1) := by decide +kernel
set_option maxRecDepth 20000 in
theorem ggX4_arrange_X4_balance : GoodIn wsX4_arrange wsX4_balance := goodIn_r _ [8, 1, 2, 3, 9, 10, 11, 12, 7, 13, 14, 15, 16, 17, 18, 19, 20, 21, 22, 23, 24, 25, 26, 27, 28, 29, 30, 31, 38, 39, 40, 41, 42, 43, 44, 45, 46, 47, 48, 49, 50, 51, 52, 53, 54, 55] rfl (by decide +kernel)
set_option maxRecDepth 20000 in
theorem gX4_arrange_X4_balance : GoodIn wsX4_arrange (wsV RX4 30 RX4 yX4_balance wsX4_balance) := goodIn_app (goodIn_of _ (by decide +kernel)) ggX4_arrange_X4_balance
set_option maxRecDepth 20000 in
theorem ggX4_arrange_X4_sort : GoodIn wsX4_arrange wsX4_sort := goodIn_r _ [35, 1, 2, 36, 37, 3, 18, 19, 20, 21, 22, 23, 24, 25, 26, 27, 28, 29, 30, 31, 38, 39, 40, 41, 42, 43, 44, 45, 46, 47, 48, 49, 50, 51, 52, 53, 54, 55] rfl (by decide +kernel)
set_option maxRecDepth 20000 in
theorem gX4_arrange_X4_sort : GoodIn wsX4_arrange (wsV RX4 34 RX4 yX4_sort wsX4_sort) := goodIn_app (goodIn_of _ (by decide +kernel)) ggX4_arrange_X4_sort
theorem dX4_arrange_0 : decode cX4_arrange 0 = .ok (.iconst 0, 1) := by decide +kernel
theorem dX4_arrange_1 : decode cX4_arrange 1 = .ok (.istore_n 3, 1) := by decide +kernel
theorem dX4_arrange_2 : decode cX4_arrange 2 = .ok (.iload_n 3, 1) := by decide +kernel
theorem dX4_arrange_3 : decode cX4_arrange 3 = .ok (.aload_n 1, 1) := by decide +kernel
theorem dX4_arrange_4 : decode cX4_arrange 4 = .ok (.getfield 18, 3) := by decide +kernel
theorem dX4_arrange_7 : decode cX4_arrange 7 = .ok (.getfield 24, 3) := by decide +kernel
theorem dX4_arrange_10 : decode cX4_arrange 10 = .ok (.if_icmp .ge 16, 3) := by decide +kernel
theorem dX4_arrange_13 : decode cX4_arrange 13 = .ok (.aload_n 0, 1) := by decide +kernel
theorem dX4_arrange_14 : decode cX4_arrange 14 = .ok (.getfield 9, 3) := by decide +kernel
theorem dX4_arrange_17 : decode cX4_arrange 17 = .ok (.iload_n 3, 1) := by decide +kernel
theorem dX4_arrange_18 : decode cX4_arrange 18 = .ok (.iload_n 3, 1) := by decide +kernel
theorem dX4_arrange_19 : decode cX4_arrange 19 = .ok (.iastore, 1) := by decide +kernel
theorem dX4_arrange_20 : decode cX4_arrange 20 = .ok (.iinc 3 1, 3) := by decide +kernel
theorem dX4_arrange_23 : decode cX4_arrange 23 = .ok (.goto (-21), 3) := by decide +kernel
theorem dX4_arrange_26 : decode cX4_arrange 26 = .ok (.iload_n 2, 1) := by decide +kernel
theorem dX4_arrange_27 : decode cX4_arrange 27 = .ok (.iconst 3, 1) := by decide +kernel
theorem dX4_arrange_28 : decode cX4_arrange 28 = .ok (.if_icmp .ne 11, 3) := by decide +kernel
theorem dX4_arrange_31 : decode cX4_arrange 31 = .ok (.aload_n 0, 1) := by decide +kernel
theorem dX4_arrange_32 : decode cX4_arrange 32 = .ok (.aload_n 1, 1) := by decide +kernel
theorem dX4_arrange_33 : decode cX4_arrange 33 = .ok (.invokevirtual 30, 3) := by decide +kernel
theorem dX4_arrange_36 : decode cX4_arrange 36 = .ok (.goto 14, 3) := by decide +kernel
theorem dX4_arrange_39 : decode cX4_arrange 39 = .ok (.iload_n 2, 1) := by decide +kernel
theorem dX4_arrange_40 : decode cX4_arrange 40 = .ok (.iconst 2, 1) := by decide +kernel
theorem dX4_arrange_41 : decode cX4_arrange 41 = .ok (.if_icmp .eq 9, 3) := by decide +kernel
theorem dX4_arrange_44 : decode cX4_arrange 44 = .ok (.aload_n 0, 1) := by decide +kernel
theorem dX4_arrange_45 : decode cX4_arrange 45 = .ok (.aload_n 1, 1) := by decide +kernel
theorem dX4_arrange_46 : decode cX4_arrange 46 = .ok (.iload_n 2, 1) := by decide +kernel
theorem dX4_arrange_47 : decode cX4_arrange 47 = .ok (.invokevirtual 34, 3) := by decide +kernel
theorem dX4_arrange_50 : decode cX4_arrange 50 = .ok (.return_, 1) := by decide +kernel
set_option maxRecDepth 20000 in
theorem ggX4_sort_X0_weighsAt : GoodIn wsX4_sort wsX0_weighsAt := goodIn_r _ [10, 11, 12, 13, 14, 15, 16, 9, 17, 18, 19, 20, 21, 22, 23, 24, 25, 26, 27, 28, 29, 32, 33, 34, 35, 36, 37] rfl (by decide +kernel)
set_option maxRecDepth 20000 in
theorem gX4_sort_X0_weighsAt : GoodIn wsX4_sort (wsV RX4 41 RX0 yX0_weighsAt wsX0_weighsAt) := goodIn_app (goodIn_of _ (by decide +kernel)) ggX4_sort_X0_weighsAt
theorem dX4_sort_0 : decode cX4_sort 0 = .ok (.iconst 0, 1) := by decide +kernel
theorem dX4_sort_1 : decode cX4_sort 1 = .ok (.istore_n 3, 1) := by decide +kernel
theorem dX4_sort_2 : decode cX4_sort 2 = .ok (.iload_n 3, 1) := by decide +kernel
theorem dX4_sort_3 : decode cX4_sort 3 = .ok (.aload_n 1, 1) := by decide +kernel
theorem dX4_sort_4 : decode cX4_sort 4 = .ok (.getfield 18, 3) := by decide +kernel
theorem dX4_sort_7 : decode cX4_sort 7 = .ok (.getfield 24, 3) := by decide +kernel
theorem dX4_sort_10 : decode cX4_sort 10 = .ok (.if_icmp .ge 98, 3) := by decide +kernel
theorem dX4_sort_13 : decode cX4_sort 13 = .ok (.aload_n 0, 1) := by decide +kernel
theorem dX4_sort_14 : decode cX4_sort 14 = .ok (.getfield 15, 3) := by decide +kernel
theorem dX4_sort_17 : decode cX4_sort 17 = .ok (.iload_n 3, 1) := by decide +kernel
theorem dX4_sort_18 : decode cX4_sort 18 = .ok (.iload_n 2, 1) := by decide +kernel
theorem dX4_sort_19 : decode cX4_sort 19 = .ok (.iconst 1, 1) := by decide +kernel
theorem dX4_sort_20 : decode cX4_sort 20 = .ok (.if_icmp .ne 15, 3) := by decide +kernel
theorem dX4_sort_23 : decode cX4_sort 23 = .ok (.aload_n 1, 1) := by decide +kernel
theorem dX4_sort_24 : decode cX4_sort 24 = .ok (.getfield 18, 3) := by decide +kernel
theorem dX4_sort_27 : decode cX4_sort 27 = .ok (.getfield 38, 3) := by decide +kernel
theorem dX4_sort_30 : decode cX4_sort 30 = .ok (.iload_n 3, 1) := by decide +kernel
theorem dX4_sort_31 : decode cX4_sort 31 = .ok (.iaload, 1) := by decide +kernel
theorem dX4_sort_32 : decode cX4_sort 32 = .ok (.goto 8, 3) := by decide +kernel
theorem dX4_sort_35 : decode cX4_sort 35 = .ok (.aload_n 1, 1) := by decide +kernel
theorem dX4_sort_36 : decode cX4_sort 36 = .ok (.iload_n 3, 1) := by decide +kernel
theorem dX4_sort_37 : decode cX4_sort 37 = .ok (.invokevirtual 41, 3) := by decide +kernel
theorem dX4_sort_40 : decode cX4_sort 40 = .ok (.iastore, 1) := by decide +kernel
theorem dX4_sort_41 : decode cX4_sort 41 = .ok (.iload_n 3, 1) := by decide +kernel
theorem dX4_sort_42 : decode cX4_sort 42 = .ok (.istore 4, 2) := by decide +kernel
theorem dX4_sort_44 : decode cX4_sort 44 = .ok (.iload 4, 2) := by decide +kernel
theorem dX4_sort_46 : decode cX4_sort 46 = .ok (.ifCond .le 48, 3) := by decide +kernel
theorem dX4_sort_49 : decode cX4_sort 49 = .ok (.aload_n 0, 1) := by decide +kernel
theorem dX4_sort_50 : decode cX4_sort 50 = .ok (.getfield 15, 3) := by decide +kernel
theorem dX4_sort_53 : decode cX4_sort 53 = .ok (.aload_n 0, 1) := by decide +kernel
theorem dX4_sort_54 : decode cX4_sort 54 = .ok (.getfield 9, 3) := by decide +kernel
theorem dX4_sort_57 : decode cX4_sort 57 = .ok (.iload 4, 2) := by decide +kernel
theorem dX4_sort_59 : decode cX4_sort 59 = .ok (.iconst 1, 1) := by decide +kernel
theorem dX4_sort_60 : decode cX4_sort 60 = .ok (.isub, 1) := by decide +kernel
theorem dX4_sort_61 : decode cX4_sort 61 = .ok (.iaload, 1) := by decide +kernel
theorem dX4_sort_62 : decode cX4_sort 62 = .ok (.iaload, 1) := by decide +kernel
theorem dX4_sort_63 : decode cX4_sort 63 = .ok (.aload_n 0, 1) := by decide +kernel
theorem dX4_sort_64 : decode cX4_sort 64 = .ok (.getfield 15, 3) := by decide +kernel
theorem dX4_sort_67 : decode cX4_sort 67 = .ok (.iload_n 3, 1) := by decide +kernel
theorem dX4_sort_68 : decode cX4_sort 68 = .ok (.iaload, 1) := by decide +kernel
theorem dX4_sort_69 : decode cX4_sort 69 = .ok (.if_icmp .ge 25, 3) := by decide +kernel
theorem dX4_sort_72 : decode cX4_sort 72 = .ok (.aload_n 0, 1) := by decide +kernel
theorem dX4_sort_73 : decode cX4_sort 73 = .ok (.getfield 9, 3) := by decide +kernel
theorem dX4_sort_76 : decode cX4_sort 76 = .ok (.iload 4, 2) := by decide +kernel
theorem dX4_sort_78 : decode cX4_sort 78 = .ok (.aload_n 0, 1) := by decide +kernel
theorem dX4_sort_79 : decode cX4_sort 79 = .ok (.getfield 9, 3) := by decide +kernel
theorem dX4_sort_82 : decode cX4_sort 82 = .ok (.iload 4, 2) := by decide +kernel
theorem dX4_sort_84 : decode cX4_sort 84 = .ok (.iconst 1, 1) := by decide +kernel
theorem dX4_sort_85 : decode cX4_sort 85 = .ok (.isub, 1) := by decide +kernel
theorem dX4_sort_86 : decode cX4_sort 86 = .ok (.iaload, 1) := by decide +kernel
theorem dX4_sort_87 : decode cX4_sort 87 = .ok (.iastore, 1) := by decide +kernel
theorem dX4_sort_88 : decode cX4_sort 88 = .ok (.iinc 4 (-1), 3) := by decide +kernel
theorem dX4_sort_91 : decode cX4_sort 91 = .ok (.goto (-47), 3) := by decide +kernel
theorem dX4_sort_94 : decode cX4_sort 94 = .ok (.aload_n 0, 1) := by decide +kernel
theorem dX4_sort_95 : decode cX4_sort 95 = .ok (.getfield 9, 3) := by decide +kernel
theorem dX4_sort_98 : decode cX4_sort 98 = .ok (.iload 4, 2) := by decide +kernel
theorem dX4_sort_100 : decode cX4_sort 100 = .ok (.iload_n 3, 1) := by decide +kernel
theorem dX4_sort_101 : decode cX4_sort 101 = .ok (.iastore, 1) := by decide +kernel
theorem dX4_sort_102 : decode cX4_sort 102 = .ok (.iinc 3 1, 3) := by decide +kernel
theorem dX4_sort_105 : decode cX4_sort 105 = .ok (.goto (-103), 3) := by decide +kernel
theorem dX4_sort_108 : decode cX4_sort 108 = .ok (.return_, 1) := by decide +kernel
set_option maxRecDepth 20000 in
theorem ggX4_balance_X4_comesAhead : GoodIn wsX4_balance wsX4_comesAhead := goodIn_r _ [9, 1, 4, 10, 11, 12, 13, 14, 15, 16, 17, 18, 19, 20, 21, 22, 23, 24, 25, 26, 27, 28, 29, 30, 31, 32, 33, 34, 35, 36, 37, 40, 41, 42, 43, 44, 45] rfl (by decide +kernel)
set_option maxRecDepth 20000 in
theorem gX4_balance_X4_comesAhead : GoodIn wsX4_balance (wsV RX4 45 RX4 yX4_comesAhead wsX4_comesAhead) := goodIn_app (goodIn_of _ (by decide +kernel)) ggX4_balance_X4_comesAhead
set_option maxRecDepth 20000 in
theorem ggX4_balance_X0_weighsAt : GoodIn wsX4_balance wsX0_weighsAt := goodIn_r _ [18, 19, 20, 21, 22, 23, 24, 17, 25, 26, 27, 28, 29, 30, 31, 32, 33, 34, 35, 36, 37, 40, 41, 42, 43, 44, 45] rfl (by decide +kernel)
set_option maxRecDepth 20000 in
theorem gX4_balance_X0_weighsAt : GoodIn wsX4_balance (wsV RX4 41 RX0 yX0_weighsAt wsX0_weighsAt) := goodIn_app (goodIn_of _ (by decide +kernel)) ggX4_balance_X0_weighsAt
theorem dX4_balance_0 : decode cX4_balance 0 = .ok (.iconst 0, 1) := by decide +kernel
theorem dX4_balance_1 : decode cX4_balance 1 = .ok (.istore_n 2, 1) := by decide +kernel
theorem dX4_balance_2 : decode cX4_balance 2 = .ok (.iconst 0, 1) := by decide +kernel
theorem dX4_balance_3 : decode cX4_balance 3 = .ok (.istore_n 3, 1) := by decide +kernel
theorem dX4_balance_4 : decode cX4_balance 4 = .ok (.iload_n 3, 1) := by decide +kernel
theorem dX4_balance_5 : decode cX4_balance 5 = .ok (.aload_n 1, 1) := by decide +kernel
theorem dX4_balance_6 : decode cX4_balance 6 = .ok (.getfield 18, 3) := by decide +kernel
theorem dX4_balance_9 : decode cX4_balance 9 = .ok (.getfield 24, 3) := by decide +kernel
theorem dX4_balance_12 : decode cX4_balance 12 = .ok (.if_icmp .ge 112, 3) := by decide +kernel
theorem dX4_balance_15 : decode cX4_balance 15 = .ok (.iload_n 3, 1) := by decide +kernel
theorem dX4_balance_16 : decode cX4_balance 16 = .ok (.istore 4, 2) := by decide +kernel
theorem dX4_balance_18 : decode cX4_balance 18 = .ok (.iload_n 3, 1) := by decide +kernel
theorem dX4_balance_19 : decode cX4_balance 19 = .ok (.iconst 1, 1) := by decide +kernel
theorem dX4_balance_20 : decode cX4_balance 20 = .ok (.iadd, 1) := by decide +kernel
theorem dX4_balance_21 : decode cX4_balance 21 = .ok (.istore 5, 2) := by decide +kernel
theorem dX4_balance_23 : decode cX4_balance 23 = .ok (.iload 5, 2) := by decide +kernel
theorem dX4_balance_25 : decode cX4_balance 25 = .ok (.aload_n 1, 1) := by decide +kernel
theorem dX4_balance_26 : decode cX4_balance 26 = .ok (.getfield 18, 3) := by decide +kernel
theorem dX4_balance_29 : decode cX4_balance 29 = .ok (.getfield 24, 3) := by decide +kernel
theorem dX4_balance_32 : decode cX4_balance 32 = .ok (.if_icmp .ge 36, 3) := by decide +kernel
theorem dX4_balance_35 : decode cX4_balance 35 = .ok (.aload_n 0, 1) := by decide +kernel
theorem dX4_balance_36 : decode cX4_balance 36 = .ok (.aload_n 1, 1) := by decide +kernel
theorem dX4_balance_37 : decode cX4_balance 37 = .ok (.iload_n 2, 1) := by decide +kernel
theorem dX4_balance_38 : decode cX4_balance 38 = .ok (.aload_n 0, 1) := by decide +kernel
theorem dX4_balance_39 : decode cX4_balance 39 = .ok (.getfield 9, 3) := by decide +kernel
theorem dX4_balance_42 : decode cX4_balance 42 = .ok (.iload 5, 2) := by decide +kernel
theorem dX4_balance_44 : decode cX4_balance 44 = .ok (.iaload, 1) := by decide +kernel
theorem dX4_balance_45 : decode cX4_balance 45 = .ok (.aload_n 0, 1) := by decide +kernel
theorem dX4_balance_46 : decode cX4_balance 46 = .ok (.getfield 9, 3) := by decide +kernel
theorem dX4_balance_49 : decode cX4_balance 49 = .ok (.iload 4, 2) := by decide +kernel
theorem dX4_balance_51 : decode cX4_balance 51 = .ok (.iaload, 1) := by decide +kernel
theorem dX4_balance_52 : decode cX4_balance 52 = .ok (.invokevirtual 45, 3) := by decide +kernel
theorem dX4_balance_55 : decode cX4_balance 55 = .ok (.ifCond .eq 7, 3) := by decide +kernel
theorem dX4_balance_58 : decode cX4_balance 58 = .ok (.iload 5, 2) := by decide +kernel
theorem dX4_balance_60 : decode cX4_balance 60 = .ok (.istore 4, 2) := by decide +kernel
theorem dX4_balance_62 : decode cX4_balance 62 = .ok (.iinc 5 1, 3) := by decide +kernel
theorem dX4_balance_65 : decode cX4_balance 65 = .ok (.goto (-42), 3) := by decide +kernel
theorem dX4_balance_68 : decode cX4_balance 68 = .ok (.aload_n 0, 1) := by decide +kernel
theorem dX4_balance_69 : decode cX4_balance 69 = .ok (.getfield 9, 3) := by decide +kernel
theorem dX4_balance_72 : decode cX4_balance 72 = .ok (.iload 4, 2) := by decide +kernel
theorem dX4_balance_74 : decode cX4_balance 74 = .ok (.iaload, 1) := by decide +kernel
theorem dX4_balance_75 : decode cX4_balance 75 = .ok (.istore 5, 2) := by decide +kernel
theorem dX4_balance_77 : decode cX4_balance 77 = .ok (.aload_n 0, 1) := by decide +kernel
theorem dX4_balance_78 : decode cX4_balance 78 = .ok (.getfield 9, 3) := by decide +kernel
theorem dX4_balance_81 : decode cX4_balance 81 = .ok (.iload 4, 2) := by decide +kernel
theorem dX4_balance_83 : decode cX4_balance 83 = .ok (.aload_n 0, 1) := by decide +kernel
theorem dX4_balance_84 : decode cX4_balance 84 = .ok (.getfield 9, 3) := by decide +kernel
theorem dX4_balance_87 : decode cX4_balance 87 = .ok (.iload_n 3, 1) := by decide +kernel
theorem dX4_balance_88 : decode cX4_balance 88 = .ok (.iaload, 1) := by decide +kernel
theorem dX4_balance_89 : decode cX4_balance 89 = .ok (.iastore, 1) := by decide +kernel
theorem dX4_balance_90 : decode cX4_balance 90 = .ok (.aload_n 0, 1) := by decide +kernel
theorem dX4_balance_91 : decode cX4_balance 91 = .ok (.getfield 9, 3) := by decide +kernel
theorem dX4_balance_94 : decode cX4_balance 94 = .ok (.iload_n 3, 1) := by decide +kernel
theorem dX4_balance_95 : decode cX4_balance 95 = .ok (.iload 5, 2) := by decide +kernel
theorem dX4_balance_97 : decode cX4_balance 97 = .ok (.iastore, 1) := by decide +kernel
theorem dX4_balance_98 : decode cX4_balance 98 = .ok (.iload_n 2, 1) := by decide +kernel
theorem dX4_balance_99 : decode cX4_balance 99 = .ok (.aload_n 1, 1) := by decide +kernel
theorem dX4_balance_100 : decode cX4_balance 100 = .ok (.iload 5, 2) := by decide +kernel
theorem dX4_balance_102 : decode cX4_balance 102 = .ok (.invokevirtual 41, 3) := by decide +kernel
theorem dX4_balance_105 : decode cX4_balance 105 = .ok (.aload_n 1, 1) := by decide +kernel
theorem dX4_balance_106 : decode cX4_balance 106 = .ok (.getfield 18, 3) := by decide +kernel
theorem dX4_balance_109 : decode cX4_balance 109 = .ok (.getfield 49, 3) := by decide +kernel
theorem dX4_balance_112 : decode cX4_balance 112 = .ok (.iload 5, 2) := by decide +kernel
theorem dX4_balance_114 : decode cX4_balance 114 = .ok (.iaload, 1) := by decide +kernel
theorem dX4_balance_115 : decode cX4_balance 115 = .ok (.imul, 1) := by decide +kernel
theorem dX4_balance_116 : decode cX4_balance 116 = .ok (.iadd, 1) := by decide +kernel
theorem dX4_balance_117 : decode cX4_balance 117 = .ok (.istore_n 2, 1) := by decide +kernel
theorem dX4_balance_118 : decode cX4_balance 118 = .ok (.iinc 3 1, 3) := by decide +kernel
theorem dX4_balance_121 : decode cX4_balance 121 = .ok (.goto (-117), 3) := by decide +kernel
theorem dX4_balance_124 : decode cX4_balance 124 = .ok (.return_, 1) := by decide +kernel
set_option maxRecDepth 20000 in
theorem ggX4_comesAhead_X0_weighsAt : GoodIn wsX4_comesAhead wsX0_weighsAt := goodIn_r _ [11, 12, 13, 14, 15, 16, 17, 10, 18, 19, 20, 21, 22, 23, 24, 25, 26, 27, 28, 29, 30, 31, 32, 33, 34, 35, 36] rfl (by decide +kernel)
set_option maxRecDepth 20000 in
theorem gX4_comesAhead_X0_weighsAt : GoodIn wsX4_comesAhead (wsV RX4 41 RX0 yX0_weighsAt wsX0_weighsAt) := goodIn_app (goodIn_of _ (by decide +kernel)) ggX4_comesAhead_X0_weighsAt
theorem dX4_comesAhead_0 : decode cX4_comesAhead 0 = .ok (.aload_n 1, 1) := by decide +kernel
theorem dX4_comesAhead_1 : decode cX4_comesAhead 1 = .ok (.iload_n 3, 1) := by decide +kernel
theorem dX4_comesAhead_2 : decode cX4_comesAhead 2 = .ok (.invokevirtual 41, 3) := by decide +kernel
theorem dX4_comesAhead_5 : decode cX4_comesAhead 5 = .ok (.istore 5, 2) := by decide +kernel
theorem dX4_comesAhead_7 : decode cX4_comesAhead 7 = .ok (.aload_n 1, 1) := by decide +kernel
theorem dX4_comesAhead_8 : decode cX4_comesAhead 8 = .ok (.iload 4, 2) := by decide +kernel
theorem dX4_comesAhead_10 : decode cX4_comesAhead 10 = .ok (.invokevirtual 41, 3) := by decide +kernel
theorem dX4_comesAhead_13 : decode cX4_comesAhead 13 = .ok (.istore 6, 2) := by decide +kernel
theorem dX4_comesAhead_15 : decode cX4_comesAhead 15 = .ok (.iload_n 2, 1) := by decide +kernel
theorem dX4_comesAhead_16 : decode cX4_comesAhead 16 = .ok (.iload 5, 2) := by decide +kernel
theorem dX4_comesAhead_18 : decode cX4_comesAhead 18 = .ok (.aload_n 1, 1) := by decide +kernel
theorem dX4_comesAhead_19 : decode cX4_comesAhead 19 = .ok (.getfield 18, 3) := by decide +kernel
theorem dX4_comesAhead_22 : decode cX4_comesAhead 22 = .ok (.getfield 49, 3) := by decide +kernel
theorem dX4_comesAhead_25 : decode cX4_comesAhead 25 = .ok (.iload_n 3, 1) := by decide +kernel
theorem dX4_comesAhead_26 : decode cX4_comesAhead 26 = .ok (.iaload, 1) := by decide +kernel
theorem dX4_comesAhead_27 : decode cX4_comesAhead 27 = .ok (.imul, 1) := by decide +kernel
theorem dX4_comesAhead_28 : decode cX4_comesAhead 28 = .ok (.iadd, 1) := by decide +kernel
theorem dX4_comesAhead_29 : decode cX4_comesAhead 29 = .ok (.invokestatic 52, 3) := by decide +kernel
theorem dX4_comesAhead_32 : decode cX4_comesAhead 32 = .ok (.istore 7, 2) := by decide +kernel
theorem dX4_comesAhead_34 : decode cX4_comesAhead 34 = .ok (.iload_n 2, 1) := by decide +kernel
theorem dX4_comesAhead_35 : decode cX4_comesAhead 35 = .ok (.iload 6, 2) := by decide +kernel
theorem dX4_comesAhead_37 : decode cX4_comesAhead 37 = .ok (.aload_n 1, 1) := by decide +kernel
theorem dX4_comesAhead_38 : decode cX4_comesAhead 38 = .ok (.getfield 18, 3) := by decide +kernel
theorem dX4_comesAhead_41 : decode cX4_comesAhead 41 = .ok (.getfield 49, 3) := by decide +kernel
theorem dX4_comesAhead_44 : decode cX4_comesAhead 44 = .ok (.iload 4, 2) := by decide +kernel
theorem dX4_comesAhead_46 : decode cX4_comesAhead 46 = .ok (.iaload, 1) := by decide +kernel
theorem dX4_comesAhead_47 : decode cX4_comesAhead 47 = .ok (.imul, 1) := by decide +kernel
theorem dX4_comesAhead_48 : decode cX4_comesAhead 48 = .ok (.iadd, 1) := by decide +kernel
theorem dX4_comesAhead_49 : decode cX4_comesAhead 49 = .ok (.invokestatic 52, 3) := by decide +kernel
theorem dX4_comesAhead_52 : decode cX4_comesAhead 52 = .ok (.istore 8, 2) := by decide +kernel
theorem dX4_comesAhead_54 : decode cX4_comesAhead 54 = .ok (.iload 7, 2) := by decide +kernel
theorem dX4_comesAhead_56 : decode cX4_comesAhead 56 = .ok (.iload 8, 2) := by decide +kernel
theorem dX4_comesAhead_58 : decode cX4_comesAhead 58 = .ok (.if_icmp .eq 16, 3) := by decide +kernel
theorem dX4_comesAhead_61 : decode cX4_comesAhead 61 = .ok (.iload 7, 2) := by decide +kernel
theorem dX4_comesAhead_63 : decode cX4_comesAhead 63 = .ok (.iload 8, 2) := by decide +kernel
theorem dX4_comesAhead_65 : decode cX4_comesAhead 65 = .ok (.if_icmp .ge 7, 3) := by decide +kernel
theorem dX4_comesAhead_68 : decode cX4_comesAhead 68 = .ok (.iconst 1, 1) := by decide +kernel
theorem dX4_comesAhead_69 : decode cX4_comesAhead 69 = .ok (.goto 4, 3) := by decide +kernel
theorem dX4_comesAhead_72 : decode cX4_comesAhead 72 = .ok (.iconst 0, 1) := by decide +kernel
theorem dX4_comesAhead_73 : decode cX4_comesAhead 73 = .ok (.ireturn, 1) := by decide +kernel
theorem dX4_comesAhead_74 : decode cX4_comesAhead 74 = .ok (.iload 5, 2) := by decide +kernel
theorem dX4_comesAhead_76 : decode cX4_comesAhead 76 = .ok (.iload 6, 2) := by decide +kernel
theorem dX4_comesAhead_78 : decode cX4_comesAhead 78 = .ok (.if_icmp .eq 18, 3) := by decide +kernel
theorem dX4_comesAhead_81 : decode cX4_comesAhead 81 = .ok (.iload 5, 2) := by decide +kernel
theorem dX4_comesAhead_83 : decode cX4_comesAhead 83 = .ok (.iload 6, 2) := by decide +kernel
theorem dX4_comesAhead_85 : decode cX4_comesAhead 85 = .ok (.if_icmp .le 7, 3) := by decide +kernel
theorem dX4_comesAhead_88 : decode cX4_comesAhead 88 = .ok (.iconst 1, 1) := by decide +kernel
theorem dX4_comesAhead_89 : decode cX4_comesAhead 89 = .ok (.goto 18, 3) := by decide +kernel
theorem dX4_comesAhead_92 : decode cX4_comesAhead 92 = .ok (.iconst 0, 1) := by decide +kernel
theorem dX4_comesAhead_93 : decode cX4_comesAhead 93 = .ok (.goto 14, 3) := by decide +kernel
theorem dX4_comesAhead_96 : decode cX4_comesAhead 96 = .ok (.iload_n 3, 1) := by decide +kernel
theorem dX4_comesAhead_97 : decode cX4_comesAhead 97 = .ok (.iload 4, 2) := by decide +kernel
theorem dX4_comesAhead_99 : decode cX4_comesAhead 99 = .ok (.if_icmp .ge 7, 3) := by decide +kernel
theorem dX4_comesAhead_102 : decode cX4_comesAhead 102 = .ok (.iconst 1, 1) := by decide +kernel
theorem dX4_comesAhead_103 : decode cX4_comesAhead 103 = .ok (.goto 4, 3) := by decide +kernel
theorem dX4_comesAhead_106 : decode cX4_comesAhead 106 = .ok (.iconst 0, 1) := by decide +kernel
theorem dX4_comesAhead_107 : decode cX4_comesAhead 107 = .ok (.ireturn, 1) := by decide +kernel
theorem dX5_init_0 : decode cX5_init 0 = .ok (.aload_n 0, 1) := by decide +kernel
theorem dX5_init_1 : decode cX5_init 1 = .ok (.invokespecial 3, 3) := by decide +kernel
theorem dX5_init_4 : decode cX5_init 4 = .ok (.aload_n 0, 1) := by decide +kernel
theorem dX5_init_5 : decode cX5_init 5 = .ok (.iconst 0, 1) := by decide +kernel
theorem dX5_init_6 : decode cX5_init 6 = .ok (.putfield 9, 3) := by decide +kernel
theorem dX5_init_9 : decode cX5_init 9 = .ok (.aload_n 0, 1) := by decide +kernel
theorem dX5_init_10 : decode cX5_init 10 = .ok (.sipush 224, 3) := by decide +kernel
theorem dX5_init_13 : decode cX5_init 13 = .ok (.newarray .char, 2) := by decide +kernel
theorem dX5_init_15 : decode cX5_init 15 = .ok (.putfield 15, 3) := by decide +kernel
theorem dX5_init_18 : decode cX5_init 18 = .ok (.return_, 1) := by decide +kernel
set_option maxRecDepth 20000 in
theorem ggX5_write_X5_addLetters : GoodIn wsX5_write wsX5_addLetters := goodIn_r _ [12, 13, 14, 15, 11, 16, 1, 17, 30, 31] rfl (by decide +kernel)
set_option maxRecDepth 20000 in
theorem gX5_write_X5_addLetters : GoodIn wsX5_write (wsV RX5 28 RX5 yX5_addLetters wsX5_addLetters) := goodIn_app (goodIn_of _ (by decide +kernel)) ggX5_write_X5_addLetters
set_option maxRecDepth 20000 in
theorem ggX5_write_X5_addSign : GoodIn wsX5_write wsX5_addSign := goodIn_r _ [16, 1, 17, 30, 31] rfl (by decide +kernel)
set_option maxRecDepth 20000 in
theorem gX5_write_X5_addSign : GoodIn wsX5_write (wsV RX5 38 RX5 yX5_addSign wsX5_addSign) := goodIn_app (goodIn_of _ (by decide +kernel)) ggX5_write_X5_addSign
set_option maxRecDepth 20000 in
theorem ggX5_write_X5_addFigures : GoodIn wsX5_write wsX5_addFigures := goodIn_r _ [21, 13, 14, 15, 11, 16, 1, 17, 30, 31] rfl (by decide +kernel)
set_option maxRecDepth 20000 in
theorem gX5_write_X5_addFigures : GoodIn wsX5_write (wsV RX5 45 RX5 yX5_addFigures wsX5_addFigures) := goodIn_app (goodIn_of _ (by decide +kernel)) ggX5_write_X5_addFigures
set_option maxRecDepth 20000 in
theorem ggX5_write_X5_addSide : GoodIn wsX5_write wsX5_addSide := goodIn_r _ [25, 26, 27, 28, 29, 13, 14, 15, 11, 16, 1, 17, 18, 19, 20, 21, 30, 31] rfl (by decide +kernel)
set_option maxRecDepth 20000 in
theorem gX5_write_X5_addSide : GoodIn wsX5_write (wsV RX5 54 RX5 yX5_addSide wsX5_addSide) := goodIn_app (goodIn_of _ (by decide +kernel)) ggX5_write_X5_addSide
theorem dX5_write_0 : decode cX5_write 0 = .ok (.aload_n 0, 1) := by decide +kernel
theorem dX5_write_1 : decode cX5_write 1 = .ok (.iconst 0, 1) := by decide +kernel
theorem dX5_write_2 : decode cX5_write 2 = .ok (.putfield 9, 3) := by decide +kernel
theorem dX5_write_5 : decode cX5_write 5 = .ok (.iconst 0, 1) := by decide +kernel
theorem dX5_write_6 : decode cX5_write 6 = .ok (.istore_n 2, 1) := by decide +kernel
theorem dX5_write_7 : decode cX5_write 7 = .ok (.iload_n 2, 1) := by decide +kernel
theorem dX5_write_8 : decode cX5_write 8 = .ok (.aload_n 1, 1) := by decide +kernel
theorem dX5_write_9 : decode cX5_write 9 = .ok (.getfield 19, 3) := by decide +kernel
theorem dX5_write_12 : decode cX5_write 12 = .ok (.if_icmp .ge 75, 3) := by decide +kernel
theorem dX5_write_15 : decode cX5_write 15 = .ok (.aload_n 0, 1) := by decide +kernel
theorem dX5_write_16 : decode cX5_write 16 = .ok (.aload_n 1, 1) := by decide +kernel
theorem dX5_write_17 : decode cX5_write 17 = .ok (.getfield 24, 3) := by decide +kernel
theorem dX5_write_20 : decode cX5_write 20 = .ok (.iload_n 2, 1) := by decide +kernel
theorem dX5_write_21 : decode cX5_write 21 = .ok (.iaload, 1) := by decide +kernel
theorem dX5_write_22 : decode cX5_write 22 = .ok (.invokevirtual 28, 3) := by decide +kernel
theorem dX5_write_25 : decode cX5_write 25 = .ok (.aload_n 0, 1) := by decide +kernel
theorem dX5_write_26 : decode cX5_write 26 = .ok (.getstatic 32, 3) := by decide +kernel
theorem dX5_write_29 : decode cX5_write 29 = .ok (.aload_n 1, 1) := by decide +kernel
theorem dX5_write_30 : decode cX5_write 30 = .ok (.getfield 35, 3) := by decide +kernel
theorem dX5_write_33 : decode cX5_write 33 = .ok (.iload_n 2, 1) := by decide +kernel
theorem dX5_write_34 : decode cX5_write 34 = .ok (.iaload, 1) := by decide +kernel
theorem dX5_write_35 : decode cX5_write 35 = .ok (.caload, 1) := by decide +kernel
theorem dX5_write_36 : decode cX5_write 36 = .ok (.invokevirtual 38, 3) := by decide +kernel
theorem dX5_write_39 : decode cX5_write 39 = .ok (.aload_n 0, 1) := by decide +kernel
theorem dX5_write_40 : decode cX5_write 40 = .ok (.aload_n 1, 1) := by decide +kernel
theorem dX5_write_41 : decode cX5_write 41 = .ok (.getfield 42, 3) := by decide +kernel
theorem dX5_write_44 : decode cX5_write 44 = .ok (.iload_n 2, 1) := by decide +kernel
theorem dX5_write_45 : decode cX5_write 45 = .ok (.iaload, 1) := by decide +kernel
theorem dX5_write_46 : decode cX5_write 46 = .ok (.invokevirtual 45, 3) := by decide +kernel
theorem dX5_write_49 : decode cX5_write 49 = .ok (.aload_n 0, 1) := by decide +kernel
theorem dX5_write_50 : decode cX5_write 50 = .ok (.bipush 64, 2) := by decide +kernel
theorem dX5_write_52 : decode cX5_write 52 = .ok (.invokevirtual 38, 3) := by decide +kernel
theorem dX5_write_55 : decode cX5_write 55 = .ok (.aload_n 0, 1) := by decide +kernel
theorem dX5_write_56 : decode cX5_write 56 = .ok (.aload_n 1, 1) := by decide +kernel
theorem dX5_write_57 : decode cX5_write 57 = .ok (.getfield 48, 3) := by decide +kernel
theorem dX5_write_60 : decode cX5_write 60 = .ok (.iload_n 2, 1) := by decide +kernel
theorem dX5_write_61 : decode cX5_write 61 = .ok (.iaload, 1) := by decide +kernel
theorem dX5_write_62 : decode cX5_write 62 = .ok (.invokevirtual 45, 3) := by decide +kernel
theorem dX5_write_65 : decode cX5_write 65 = .ok (.aload_n 0, 1) := by decide +kernel
theorem dX5_write_66 : decode cX5_write 66 = .ok (.aload_n 1, 1) := by decide +kernel
theorem dX5_write_67 : decode cX5_write 67 = .ok (.getfield 51, 3) := by decide +kernel
theorem dX5_write_70 : decode cX5_write 70 = .ok (.iload_n 2, 1) := by decide +kernel
theorem dX5_write_71 : decode cX5_write 71 = .ok (.iaload, 1) := by decide +kernel
theorem dX5_write_72 : decode cX5_write 72 = .ok (.invokevirtual 54, 3) := by decide +kernel
theorem dX5_write_75 : decode cX5_write 75 = .ok (.aload_n 0, 1) := by decide +kernel
theorem dX5_write_76 : decode cX5_write 76 = .ok (.bipush 59, 2) := by decide +kernel
theorem dX5_write_78 : decode cX5_write 78 = .ok (.invokevirtual 38, 3) := by decide +kernel
theorem dX5_write_81 : decode cX5_write 81 = .ok (.iinc 2 1, 3) := by decide +kernel
theorem dX5_write_84 : decode cX5_write 84 = .ok (.goto (-77), 3) := by decide +kernel
theorem dX5_write_87 : decode cX5_write 87 = .ok (.return_, 1) := by decide +kernel
set_option maxRecDepth 20000 in
theorem ggX5_addLetters_X5_addSign : GoodIn wsX5_addLetters wsX5_addSign := goodIn_r _ [5, 6, 7, 8, 9] rfl (by decide +kernel)
set_option maxRecDepth 20000 in
theorem gX5_addLetters_X5_addSign : GoodIn wsX5_addLetters (wsV RX5 38 RX5 yX5_addSign wsX5_addSign) := goodIn_app (goodIn_of _ (by decide +kernel)) ggX5_addLetters_X5_addSign
theorem dX5_addLetters_0 : decode cX5_addLetters 0 = .ok (.sipush 19683, 3) := by decide +kernel
theorem dX5_addLetters_3 : decode cX5_addLetters 3 = .ok (.istore_n 2, 1) := by decide +kernel
theorem dX5_addLetters_4 : decode cX5_addLetters 4 = .ok (.iload_n 2, 1) := by decide +kernel
theorem dX5_addLetters_5 : decode cX5_addLetters 5 = .ok (.ifCond .le 30, 3) := by decide +kernel
theorem dX5_addLetters_8 : decode cX5_addLetters 8 = .ok (.iload_n 1, 1) := by decide +kernel
theorem dX5_addLetters_9 : decode cX5_addLetters 9 = .ok (.iload_n 2, 1) := by decide +kernel
theorem dX5_addLetters_10 : decode cX5_addLetters 10 = .ok (.if_icmp .lt 17, 3) := by decide +kernel
theorem dX5_addLetters_13 : decode cX5_addLetters 13 = .ok (.aload_n 0, 1) := by decide +kernel
theorem dX5_addLetters_14 : decode cX5_addLetters 14 = .ok (.bipush 96, 2) := by decide +kernel
theorem dX5_addLetters_16 : decode cX5_addLetters 16 = .ok (.iload_n 1, 1) := by decide +kernel
theorem dX5_addLetters_17 : decode cX5_addLetters 17 = .ok (.iload_n 2, 1) := by decide +kernel
theorem dX5_addLetters_18 : decode cX5_addLetters 18 = .ok (.idiv, 1) := by decide +kernel
theorem dX5_addLetters_19 : decode cX5_addLetters 19 = .ok (.bipush 27, 2) := by decide +kernel
theorem dX5_addLetters_21 : decode cX5_addLetters 21 = .ok (.irem, 1) := by decide +kernel
theorem dX5_addLetters_22 : decode cX5_addLetters 22 = .ok (.iadd, 1) := by decide +kernel
theorem dX5_addLetters_23 : decode cX5_addLetters 23 = .ok (.i2c, 1) := by decide +kernel
theorem dX5_addLetters_24 : decode cX5_addLetters 24 = .ok (.invokevirtual 38, 3) := by decide +kernel
theorem dX5_addLetters_27 : decode cX5_addLetters 27 = .ok (.iload_n 2, 1) := by decide +kernel
theorem dX5_addLetters_28 : decode cX5_addLetters 28 = .ok (.bipush 27, 2) := by decide +kernel
theorem dX5_addLetters_30 : decode cX5_addLetters 30 = .ok (.idiv, 1) := by decide +kernel
theorem dX5_addLetters_31 : decode cX5_addLetters 31 = .ok (.istore_n 2, 1) := by decide +kernel
theorem dX5_addLetters_32 : decode cX5_addLetters 32 = .ok (.goto (-28), 3) := by decide +kernel
theorem dX5_addLetters_35 : decode cX5_addLetters 35 = .ok (.return_, 1) := by decide +kernel
set_option maxRecDepth 20000 in
theorem ggX5_addFigures_X5_addSign : GoodIn wsX5_addFigures wsX5_addSign := goodIn_r _ [5, 6, 7, 8, 9] rfl (by decide +kernel)
set_option maxRecDepth 20000 in
theorem gX5_addFigures_X5_addSign : GoodIn wsX5_addFigures (wsV RX5 38 RX5 yX5_addSign wsX5_addSign) := goodIn_app (goodIn_of _ (by decide +kernel)) ggX5_addFigures_X5_addSign
theorem dX5_addFigures_0 : decode cX5_addFigures 0 = .ok (.bipush 100, 2) := by decide +kernel
theorem dX5_addFigures_2 : decode cX5_addFigures 2 = .ok (.istore_n 2, 1) := by decide +kernel
theorem dX5_addFigures_3 : decode cX5_addFigures 3 = .ok (.iload_n 2, 1) := by decide +kernel
theorem dX5_addFigures_4 : decode cX5_addFigures 4 = .ok (.ifCond .le 35, 3) := by decide +kernel
theorem dX5_addFigures_7 : decode cX5_addFigures 7 = .ok (.iload_n 1, 1) := by decide +kernel
theorem dX5_addFigures_8 : decode cX5_addFigures 8 = .ok (.iload_n 2, 1) := by decide +kernel
theorem dX5_addFigures_9 : decode cX5_addFigures 9 = .ok (.if_icmp .ge 8, 3) := by decide +kernel
theorem dX5_addFigures_12 : decode cX5_addFigures 12 = .ok (.iload_n 2, 1) := by decide +kernel
theorem dX5_addFigures_13 : decode cX5_addFigures 13 = .ok (.iconst 1, 1) := by decide +kernel
theorem dX5_addFigures_14 : decode cX5_addFigures 14 = .ok (.if_icmp .ne 17, 3) := by decide +kernel
theorem dX5_addFigures_17 : decode cX5_addFigures 17 = .ok (.aload_n 0, 1) := by decide +kernel
theorem dX5_addFigures_18 : decode cX5_addFigures 18 = .ok (.bipush 48, 2) := by decide +kernel
theorem dX5_addFigures_20 : decode cX5_addFigures 20 = .ok (.iload_n 1, 1) := by decide +kernel
theorem dX5_addFigures_21 : decode cX5_addFigures 21 = .ok (.iload_n 2, 1) := by decide +kernel
theorem dX5_addFigures_22 : decode cX5_addFigures 22 = .ok (.idiv, 1) := by decide +kernel
theorem dX5_addFigures_23 : decode cX5_addFigures 23 = .ok (.bipush 10, 2) := by decide +kernel
theorem dX5_addFigures_25 : decode cX5_addFigures 25 = .ok (.irem, 1) := by decide +kernel
theorem dX5_addFigures_26 : decode cX5_addFigures 26 = .ok (.iadd, 1) := by decide +kernel
theorem dX5_addFigures_27 : decode cX5_addFigures 27 = .ok (.i2c, 1) := by decide +kernel
theorem dX5_addFigures_28 : decode cX5_addFigures 28 = .ok (.invokevirtual 38, 3) := by decide +kernel
theorem dX5_addFigures_31 : decode cX5_addFigures 31 = .ok (.iload_n 2, 1) := by decide +kernel
theorem dX5_addFigures_32 : decode cX5_addFigures 32 = .ok (.bipush 10, 2) := by decide +kernel
theorem dX5_addFigures_34 : decode cX5_addFigures 34 = .ok (.idiv, 1) := by decide +kernel
theorem dX5_addFigures_35 : decode cX5_addFigures 35 = .ok (.istore_n 2, 1) := by decide +kernel
theorem dX5_addFigures_36 : decode cX5_addFigures 36 = .ok (.goto (-33), 3) := by decide +kernel
theorem dX5_addFigures_39 : decode cX5_addFigures 39 = .ok (.return_, 1) := by decide +kernel
set_option maxRecDepth 20000 in
theorem ggX5_addSide_X5_addSign : GoodIn wsX5_addSide wsX5_addSign := goodIn_r _ [9, 10, 11, 16, 17] rfl (by decide +kernel)
set_option maxRecDepth 20000 in
theorem gX5_addSide_X5_addSign : GoodIn wsX5_addSide (wsV RX5 38 RX5 yX5_addSign wsX5_addSign) := goodIn_app (goodIn_of _ (by decide +kernel)) ggX5_addSide_X5_addSign
set_option maxRecDepth 20000 in
theorem ggX5_addSide_X5_addFigures : GoodIn wsX5_addSide wsX5_addFigures := goodIn_r _ [15, 5, 6, 7, 8, 9, 10, 11, 16, 17] rfl (by decide +kernel)
set_option maxRecDepth 20000 in
theorem gX5_addSide_X5_addFigures : GoodIn wsX5_addSide (wsV RX5 45 RX5 yX5_addFigures wsX5_addFigures) := goodIn_app (goodIn_of _ (by decide +kernel)) ggX5_addSide_X5_addFigures
theorem dX5_addSide_0 : decode cX5_addSide 0 = .ok (.iload_n 1, 1) := by decide +kernel
theorem dX5_addSide_1 : decode cX5_addSide 1 = .ok (.ifCond .ne 4, 3) := by decide +kernel
theorem dX5_addSide_4 : decode cX5_addSide 4 = .ok (.return_, 1) := by decide +kernel
theorem dX5_addSide_5 : decode cX5_addSide 5 = .ok (.aload_n 0, 1) := by decide +kernel
theorem dX5_addSide_6 : decode cX5_addSide 6 = .ok (.iload_n 1, 1) := by decide +kernel
theorem dX5_addSide_7 : decode cX5_addSide 7 = .ok (.ifCond .ge 8, 3) := by decide +kernel
theorem dX5_addSide_10 : decode cX5_addSide 10 = .ok (.bipush 108, 2) := by decide +kernel
theorem dX5_addSide_12 : decode cX5_addSide 12 = .ok (.goto 5, 3) := by decide +kernel
theorem dX5_addSide_15 : decode cX5_addSide 15 = .ok (.bipush 114, 2) := by decide +kernel
theorem dX5_addSide_17 : decode cX5_addSide 17 = .ok (.invokevirtual 38, 3) := by decide +kernel
theorem dX5_addSide_20 : decode cX5_addSide 20 = .ok (.aload_n 0, 1) := by decide +kernel
theorem dX5_addSide_21 : decode cX5_addSide 21 = .ok (.iload_n 1, 1) := by decide +kernel
theorem dX5_addSide_22 : decode cX5_addSide 22 = .ok (.invokestatic 57, 3) := by decide +kernel
theorem dX5_addSide_25 : decode cX5_addSide 25 = .ok (.invokevirtual 45, 3) := by decide +kernel
theorem dX5_addSide_28 : decode cX5_addSide 28 = .ok (.return_, 1) := by decide +kernel
theorem dX5_addSign_0 : decode cX5_addSign 0 = .ok (.aload_n 0, 1) := by decide +kernel
theorem dX5_addSign_1 : decode cX5_addSign 1 = .ok (.getfield 9, 3) := by decide +kernel
theorem dX5_addSign_4 : decode cX5_addSign 4 = .ok (.aload_n 0, 1) := by decide +kernel
theorem dX5_addSign_5 : decode cX5_addSign 5 = .ok (.getfield 15, 3) := by decide +kernel
theorem dX5_addSign_8 : decode cX5_addSign 8 = .ok (.arraylength, 1) := by decide +kernel
theorem dX5_addSign_9 : decode cX5_addSign 9 = .ok (.if_icmp .lt 4, 3) := by decide +kernel
theorem dX5_addSign_12 : decode cX5_addSign 12 = .ok (.return_, 1) := by decide +kernel
theorem dX5_addSign_13 : decode cX5_addSign 13 = .ok (.aload_n 0, 1) := by decide +kernel
theorem dX5_addSign_14 : decode cX5_addSign 14 = .ok (.getfield 15, 3) := by decide +kernel
theorem dX5_addSign_17 : decode cX5_addSign 17 = .ok (.aload_n 0, 1) := by decide +kernel
theorem dX5_addSign_18 : decode cX5_addSign 18 = .ok (.getfield 9, 3) := by decide +kernel
theorem dX5_addSign_21 : decode cX5_addSign 21 = .ok (.iload_n 1, 1) := by decide +kernel
theorem dX5_addSign_22 : decode cX5_addSign 22 = .ok (.castore, 1) := by decide +kernel
theorem dX5_addSign_23 : decode cX5_addSign 23 = .ok (.aload_n 0, 1) := by decide +kernel
theorem dX5_addSign_24 : decode cX5_addSign 24 = .ok (.dup, 1) := by decide +kernel
theorem dX5_addSign_25 : decode cX5_addSign 25 = .ok (.getfield 9, 3) := by decide +kernel
theorem dX5_addSign_28 : decode cX5_addSign 28 = .ok (.iconst 1, 1) := by decide +kernel
theorem dX5_addSign_29 : decode cX5_addSign 29 = .ok (.iadd, 1) := by decide +kernel
theorem dX5_addSign_30 : decode cX5_addSign 30 = .ok (.putfield 9, 3) := by decide +kernel
theorem dX5_addSign_33 : decode cX5_addSign 33 = .ok (.return_, 1) := by decide +kernel
theorem dX6_init_0 : decode cX6_init 0 = .ok (.aload_n 0, 1) := by decide +kernel
theorem dX6_init_1 : decode cX6_init 1 = .ok (.invokespecial 1, 3) := by decide +kernel
theorem dX6_init_4 : decode cX6_init 4 = .ok (.aload_n 0, 1) := by decide +kernel
theorem dX6_init_5 : decode cX6_init 5 = .ok (.iconst 3, 1) := by decide +kernel
theorem dX6_init_6 : decode cX6_init 6 = .ok (.newarray .int, 2) := by decide +kernel
theorem dX6_init_8 : decode cX6_init 8 = .ok (.dup, 1) := by decide +kernel
theorem dX6_init_9 : decode cX6_init 9 = .ok (.iconst 0, 1) := by decide +kernel
theorem dX6_init_10 : decode cX6_init 10 = .ok (.iconst (-1), 1) := by decide +kernel
theorem dX6_init_11 : decode cX6_init 11 = .ok (.iastore, 1) := by decide +kernel
theorem dX6_init_12 : decode cX6_init 12 = .ok (.dup, 1) := by decide +kernel
theorem dX6_init_13 : decode cX6_init 13 = .ok (.iconst 1, 1) := by decide +kernel
theorem dX6_init_14 : decode cX6_init 14 = .ok (.iconst (-1), 1) := by decide +kernel
theorem dX6_init_15 : decode cX6_init 15 = .ok (.iastore, 1) := by decide +kernel
theorem dX6_init_16 : decode cX6_init 16 = .ok (.dup, 1) := by decide +kernel
theorem dX6_init_17 : decode cX6_init 17 = .ok (.iconst 2, 1) := by decide +kernel
theorem dX6_init_18 : decode cX6_init 18 = .ok (.iconst (-1), 1) := by decide +kernel
theorem dX6_init_19 : decode cX6_init 19 = .ok (.iastore, 1) := by decide +kernel
theorem dX6_init_20 : decode cX6_init 20 = .ok (.putfield 7, 3) := by decide +kernel
theorem dX6_init_23 : decode cX6_init 23 = .ok (.aload_n 0, 1) := by decide +kernel
theorem dX6_init_24 : decode cX6_init 24 = .ok (.iconst 3, 1) := by decide +kernel
theorem dX6_init_25 : decode cX6_init 25 = .ok (.bipush 40, 2) := by decide +kernel
theorem dX6_init_27 : decode cX6_init 27 = .ok (.multianewarray 13 2, 4) := by decide +kernel
theorem dX6_init_31 : decode cX6_init 31 = .ok (.putfield 15, 3) := by decide +kernel
theorem dX6_init_34 : decode cX6_init 34 = .ok (.return_, 1) := by decide +kernel
set_option maxRecDepth 20000 in
theorem ggX6_make_X11_held : GoodIn wsX6_make wsX11_held := goodIn_r _ [5, 6, 7, 8, 9, 10, 11, 12] rfl (by decide +kernel)
set_option maxRecDepth 20000 in
theorem gX6_make_X11_held_n18 : GoodIn wsX6_make (wsX11_held) := ggX6_make_X11_held
set_option maxRecDepth 20000 in
theorem ggX6_make_J7_fill_53178 : GoodIn wsX6_make wsJ7_fill_53178 := goodIn_r _ [16] rfl (by decide +kernel)
set_option maxRecDepth 20000 in
theorem gX6_make_J7_fill_53178 : GoodIn wsX6_make (va_wsS RX6 24 yJ7_fill_53178 wsJ7_fill_53178) := goodIn_app (goodIn_of _ (by decide +kernel)) ggX6_make_J7_fill_53178
theorem dX6_make_0 : decode cX6_make 0 = .ok (.aload_n 0, 1) := by decide +kernel
theorem dX6_make_1 : decode cX6_make 1 = .ok (.getfield 7, 3) := by decide +kernel
theorem dX6_make_4 : decode cX6_make 4 = .ok (.iload_n 1, 1) := by decide +kernel
theorem dX6_make_5 : decode cX6_make 5 = .ok (.iload_n 2, 1) := by decide +kernel
theorem dX6_make_6 : decode cX6_make 6 = .ok (.iconst (-1), 1) := by decide +kernel
theorem dX6_make_7 : decode cX6_make 7 = .ok (.bipush 40, 2) := by decide +kernel
theorem dX6_make_9 : decode cX6_make 9 = .ok (.invokestatic 18, 3) := by decide +kernel
theorem dX6_make_12 : decode cX6_make 12 = .ok (.iastore, 1) := by decide +kernel
theorem dX6_make_13 : decode cX6_make 13 = .ok (.aload_n 0, 1) := by decide +kernel
theorem dX6_make_14 : decode cX6_make 14 = .ok (.getfield 15, 3) := by decide +kernel
theorem dX6_make_17 : decode cX6_make 17 = .ok (.iload_n 1, 1) := by decide +kernel
theorem dX6_make_18 : decode cX6_make 18 = .ok (.aaload, 1) := by decide +kernel
theorem dX6_make_19 : decode cX6_make 19 = .ok (.iconst 0, 1) := by decide +kernel
theorem dX6_make_20 : decode cX6_make 20 = .ok (.invokestatic 24, 3) := by decide +kernel
theorem dX6_make_23 : decode cX6_make 23 = .ok (.return_, 1) := by decide +kernel
theorem dX6_isMissing_0 : decode cX6_isMissing 0 = .ok (.aload_n 0, 1) := by decide +kernel
theorem dX6_isMissing_1 : decode cX6_isMissing 1 = .ok (.getfield 7, 3) := by decide +kernel
theorem dX6_isMissing_4 : decode cX6_isMissing 4 = .ok (.iload_n 1, 1) := by decide +kernel
theorem dX6_isMissing_5 : decode cX6_isMissing 5 = .ok (.iaload, 1) := by decide +kernel
theorem dX6_isMissing_6 : decode cX6_isMissing 6 = .ok (.ifCond .ge 7, 3) := by decide +kernel
theorem dX6_isMissing_9 : decode cX6_isMissing 9 = .ok (.iconst 1, 1) := by decide +kernel
theorem dX6_isMissing_10 : decode cX6_isMissing 10 = .ok (.goto 4, 3) := by decide +kernel
theorem dX6_isMissing_13 : decode cX6_isMissing 13 = .ok (.iconst 0, 1) := by decide +kernel
theorem dX6_isMissing_14 : decode cX6_isMissing 14 = .ok (.ireturn, 1) := by decide +kernel
set_option maxRecDepth 20000 in
theorem ggX6_hasPlace_X11_isWithin : GoodIn wsX6_hasPlace wsX11_isWithin := goodIn_r _ [4] rfl (by decide +kernel)
set_option maxRecDepth 20000 in
theorem gX6_hasPlace_X11_isWithin_n30 : GoodIn wsX6_hasPlace (wsX11_isWithin) := ggX6_hasPlace_X11_isWithin
theorem dX6_hasPlace_0 : decode cX6_hasPlace 0 = .ok (.iload_n 2, 1) := by decide +kernel
theorem dX6_hasPlace_1 : decode cX6_hasPlace 1 = .ok (.iconst 0, 1) := by decide +kernel
theorem dX6_hasPlace_2 : decode cX6_hasPlace 2 = .ok (.aload_n 0, 1) := by decide +kernel
theorem dX6_hasPlace_3 : decode cX6_hasPlace 3 = .ok (.getfield 7, 3) := by decide +kernel
theorem dX6_hasPlace_6 : decode cX6_hasPlace 6 = .ok (.iload_n 1, 1) := by decide +kernel
theorem dX6_hasPlace_7 : decode cX6_hasPlace 7 = .ok (.iaload, 1) := by decide +kernel
theorem dX6_hasPlace_8 : decode cX6_hasPlace 8 = .ok (.iconst 1, 1) := by decide +kernel
theorem dX6_hasPlace_9 : decode cX6_hasPlace 9 = .ok (.isub, 1) := by decide +kernel
theorem dX6_hasPlace_10 : decode cX6_hasPlace 10 = .ok (.invokestatic 30, 3) := by decide +kernel
theorem dX6_hasPlace_13 : decode cX6_hasPlace 13 = .ok (.ireturn, 1) := by decide +kernel
theorem dX7_init_0 : decode cX7_init 0 = .ok (.aload_n 0, 1) := by decide +kernel
theorem dX7_init_1 : decode cX7_init 1 = .ok (.invokespecial 3, 3) := by decide +kernel
theorem dX7_init_4 : decode cX7_init 4 = .ok (.aload_n 0, 1) := by decide +kernel
theorem dX7_init_5 : decode cX7_init 5 = .ok (.iconst 0, 1) := by decide +kernel
theorem dX7_init_6 : decode cX7_init 6 = .ok (.putfield 9, 3) := by decide +kernel
theorem dX7_init_9 : decode cX7_init 9 = .ok (.aload_n 0, 1) := by decide +kernel
theorem dX7_init_10 : decode cX7_init 10 = .ok (.iconst 0, 1) := by decide +kernel
theorem dX7_init_11 : decode cX7_init 11 = .ok (.putfield 15, 3) := by decide +kernel
theorem dX7_init_14 : decode cX7_init 14 = .ok (.return_, 1) := by decide +kernel
set_option maxRecDepth 20000 in
theorem ggX7_find_X0_offOf : GoodIn wsX7_find wsX0_offOf := goodIn_r _ [14, 15, 16, 17, 18, 19, 13, 20, 21, 22, 23, 24, 25, 26, 27, 28, 29, 30, 31, 32, 33, 34, 35, 36, 37, 38, 39, 40, 41, 42, 43, 3, 4, 5, 44, 45, 46, 47, 48, 49, 50, 51, 52, 53, 54, 55, 56, 57, 58, 59, 60, 61, 62, 63, 64, 65, 66, 67, 68, 69, 70, 71, 72, 73, 74, 75, 76, 84, 85, 86, 96, 97, 98, 99, 100, 101, 87, 88, 89, 90, 91, 92, 93, 102, 103, 104, 105] rfl (by decide +kernel)
set_option maxRecDepth 20000 in
theorem gX7_find_X0_offOf : GoodIn wsX7_find (wsV RX7 18 RX0 yX0_offOf wsX0_offOf) := goodIn_app (goodIn_of _ (by decide +kernel)) ggX7_find_X0_offOf
set_option maxRecDepth 20000 in
theorem ggX7_find_X7_alongGained : GoodIn wsX7_find wsX7_alongGained := goodIn_r _ [81, 6, 82, 83, 27, 28, 13, 29, 22, 30, 31, 32, 33, 34, 35, 15, 36, 84, 85, 86, 87, 88, 89, 90, 91, 92, 93, 96, 97, 98, 99, 100, 101] rfl (by decide +kernel)
set_option maxRecDepth 20000 in
theorem gX7_find_X7_alongGained : GoodIn wsX7_find (wsV RX7 39 RX7 yX7_alongGained wsX7_alongGained) := goodIn_app (goodIn_of _ (by decide +kernel)) ggX7_find_X7_alongGained
theorem dX7_find_0 : decode cX7_find 0 = .ok (.aload_n 1, 1) := by decide +kernel
theorem dX7_find_1 : decode cX7_find 1 = .ok (.iconst 0, 1) := by decide +kernel
theorem dX7_find_2 : decode cX7_find 2 = .ok (.invokevirtual 18, 3) := by decide +kernel
theorem dX7_find_5 : decode cX7_find 5 = .ok (.istore_n 2, 1) := by decide +kernel
theorem dX7_find_6 : decode cX7_find 6 = .ok (.iload_n 2, 1) := by decide +kernel
theorem dX7_find_7 : decode cX7_find 7 = .ok (.ldc 24, 2) := by decide +kernel
theorem dX7_find_9 : decode cX7_find 9 = .ok (.if_icmp .ne 5, 3) := by decide +kernel
theorem dX7_find_12 : decode cX7_find 12 = .ok (.iconst 0, 1) := by decide +kernel
theorem dX7_find_13 : decode cX7_find 13 = .ok (.ireturn, 1) := by decide +kernel
theorem dX7_find_14 : decode cX7_find 14 = .ok (.iload_n 2, 1) := by decide +kernel
theorem dX7_find_15 : decode cX7_find 15 = .ok (.invokestatic 25, 3) := by decide +kernel
theorem dX7_find_18 : decode cX7_find 18 = .ok (.istore_n 3, 1) := by decide +kernel
theorem dX7_find_19 : decode cX7_find 19 = .ok (.iconst 0, 1) := by decide +kernel
theorem dX7_find_20 : decode cX7_find 20 = .ok (.istore 4, 2) := by decide +kernel
theorem dX7_find_22 : decode cX7_find 22 = .ok (.iconst 0, 1) := by decide +kernel
theorem dX7_find_23 : decode cX7_find 23 = .ok (.istore 5, 2) := by decide +kernel
theorem dX7_find_25 : decode cX7_find 25 = .ok (.iload 5, 2) := by decide +kernel
theorem dX7_find_27 : decode cX7_find 27 = .ok (.aload_n 1, 1) := by decide +kernel
theorem dX7_find_28 : decode cX7_find 28 = .ok (.getfield 30, 3) := by decide +kernel
theorem dX7_find_31 : decode cX7_find 31 = .ok (.getfield 34, 3) := by decide +kernel
theorem dX7_find_34 : decode cX7_find 34 = .ok (.if_icmp .ge 76, 3) := by decide +kernel
theorem dX7_find_37 : decode cX7_find 37 = .ok (.iload 5, 2) := by decide +kernel
theorem dX7_find_39 : decode cX7_find 39 = .ok (.iconst 1, 1) := by decide +kernel
theorem dX7_find_40 : decode cX7_find 40 = .ok (.iadd, 1) := by decide +kernel
theorem dX7_find_41 : decode cX7_find 41 = .ok (.istore 6, 2) := by decide +kernel
theorem dX7_find_43 : decode cX7_find 43 = .ok (.iload 6, 2) := by decide +kernel
theorem dX7_find_45 : decode cX7_find 45 = .ok (.aload_n 1, 1) := by decide +kernel
theorem dX7_find_46 : decode cX7_find 46 = .ok (.getfield 30, 3) := by decide +kernel
theorem dX7_find_49 : decode cX7_find 49 = .ok (.getfield 34, 3) := by decide +kernel
theorem dX7_find_52 : decode cX7_find 52 = .ok (.if_icmp .ge 52, 3) := by decide +kernel
theorem dX7_find_55 : decode cX7_find 55 = .ok (.iload_n 2, 1) := by decide +kernel
theorem dX7_find_56 : decode cX7_find 56 = .ok (.bipush 64, 2) := by decide +kernel
theorem dX7_find_58 : decode cX7_find 58 = .ok (.aload_n 0, 1) := by decide +kernel
theorem dX7_find_59 : decode cX7_find 59 = .ok (.aload_n 1, 1) := by decide +kernel
theorem dX7_find_60 : decode cX7_find 60 = .ok (.iload 5, 2) := by decide +kernel
theorem dX7_find_62 : decode cX7_find 62 = .ok (.iload 6, 2) := by decide +kernel
theorem dX7_find_64 : decode cX7_find 64 = .ok (.invokevirtual 39, 3) := by decide +kernel
theorem dX7_find_67 : decode cX7_find 67 = .ok (.imul, 1) := by decide +kernel
theorem dX7_find_68 : decode cX7_find 68 = .ok (.isub, 1) := by decide +kernel
theorem dX7_find_69 : decode cX7_find 69 = .ok (.invokestatic 25, 3) := by decide +kernel
theorem dX7_find_72 : decode cX7_find 72 = .ok (.istore 7, 2) := by decide +kernel
theorem dX7_find_74 : decode cX7_find 74 = .ok (.iload 7, 2) := by decide +kernel
theorem dX7_find_76 : decode cX7_find 76 = .ok (.iload_n 3, 1) := by decide +kernel
theorem dX7_find_77 : decode cX7_find 77 = .ok (.if_icmp .ge 21, 3) := by decide +kernel
theorem dX7_find_80 : decode cX7_find 80 = .ok (.iload 7, 2) := by decide +kernel
theorem dX7_find_82 : decode cX7_find 82 = .ok (.istore_n 3, 1) := by decide +kernel
theorem dX7_find_83 : decode cX7_find 83 = .ok (.aload_n 0, 1) := by decide +kernel
theorem dX7_find_84 : decode cX7_find 84 = .ok (.iload 5, 2) := by decide +kernel
theorem dX7_find_86 : decode cX7_find 86 = .ok (.putfield 9, 3) := by decide +kernel
theorem dX7_find_89 : decode cX7_find 89 = .ok (.aload_n 0, 1) := by decide +kernel
theorem dX7_find_90 : decode cX7_find 90 = .ok (.iload 6, 2) := by decide +kernel
theorem dX7_find_92 : decode cX7_find 92 = .ok (.putfield 15, 3) := by decide +kernel
theorem dX7_find_95 : decode cX7_find 95 = .ok (.iconst 1, 1) := by decide +kernel
theorem dX7_find_96 : decode cX7_find 96 = .ok (.istore 4, 2) := by decide +kernel
theorem dX7_find_98 : decode cX7_find 98 = .ok (.iinc 6 1, 3) := by decide +kernel
theorem dX7_find_101 : decode cX7_find 101 = .ok (.goto (-58), 3) := by decide +kernel
theorem dX7_find_104 : decode cX7_find 104 = .ok (.iinc 5 1, 3) := by decide +kernel
theorem dX7_find_107 : decode cX7_find 107 = .ok (.goto (-82), 3) := by decide +kernel
theorem dX7_find_110 : decode cX7_find 110 = .ok (.iload 4, 2) := by decide +kernel
theorem dX7_find_112 : decode cX7_find 112 = .ok (.ireturn, 1) := by decide +kernel
set_option maxRecDepth 20000 in
theorem ggX7_alongGained_X0_weighsAt : GoodIn wsX7_alongGained wsX0_weighsAt := goodIn_r _ [7, 8, 9, 10, 11, 12, 13, 6, 14, 15, 16, 17, 18, 19, 20, 21, 22, 23, 24, 25, 26, 27, 28, 29, 30, 31, 32] rfl (by decide +kernel)
set_option maxRecDepth 20000 in
theorem gX7_alongGained_X0_weighsAt : GoodIn wsX7_alongGained (wsV RX7 47 RX0 yX0_weighsAt wsX0_weighsAt) := goodIn_app (goodIn_of _ (by decide +kernel)) ggX7_alongGained_X0_weighsAt
theorem dX7_alongGained_0 : decode cX7_alongGained 0 = .ok (.aload_n 1, 1) := by decide +kernel
theorem dX7_alongGained_1 : decode cX7_alongGained 1 = .ok (.getfield 30, 3) := by decide +kernel
theorem dX7_alongGained_4 : decode cX7_alongGained 4 = .ok (.getfield 43, 3) := by decide +kernel
theorem dX7_alongGained_7 : decode cX7_alongGained 7 = .ok (.iload_n 3, 1) := by decide +kernel
theorem dX7_alongGained_8 : decode cX7_alongGained 8 = .ok (.iaload, 1) := by decide +kernel
theorem dX7_alongGained_9 : decode cX7_alongGained 9 = .ok (.aload_n 1, 1) := by decide +kernel
theorem dX7_alongGained_10 : decode cX7_alongGained 10 = .ok (.getfield 30, 3) := by decide +kernel
theorem dX7_alongGained_13 : decode cX7_alongGained 13 = .ok (.getfield 43, 3) := by decide +kernel
theorem dX7_alongGained_16 : decode cX7_alongGained 16 = .ok (.iload_n 2, 1) := by decide +kernel
theorem dX7_alongGained_17 : decode cX7_alongGained 17 = .ok (.iaload, 1) := by decide +kernel
theorem dX7_alongGained_18 : decode cX7_alongGained 18 = .ok (.isub, 1) := by decide +kernel
theorem dX7_alongGained_19 : decode cX7_alongGained 19 = .ok (.istore 4, 2) := by decide +kernel
theorem dX7_alongGained_21 : decode cX7_alongGained 21 = .ok (.iconst 2, 1) := by decide +kernel
theorem dX7_alongGained_22 : decode cX7_alongGained 22 = .ok (.iload 4, 2) := by decide +kernel
theorem dX7_alongGained_24 : decode cX7_alongGained 24 = .ok (.imul, 1) := by decide +kernel
theorem dX7_alongGained_25 : decode cX7_alongGained 25 = .ok (.aload_n 1, 1) := by decide +kernel
theorem dX7_alongGained_26 : decode cX7_alongGained 26 = .ok (.iload_n 2, 1) := by decide +kernel
theorem dX7_alongGained_27 : decode cX7_alongGained 27 = .ok (.invokevirtual 47, 3) := by decide +kernel
theorem dX7_alongGained_30 : decode cX7_alongGained 30 = .ok (.aload_n 1, 1) := by decide +kernel
theorem dX7_alongGained_31 : decode cX7_alongGained 31 = .ok (.iload_n 3, 1) := by decide +kernel
theorem dX7_alongGained_32 : decode cX7_alongGained 32 = .ok (.invokevirtual 47, 3) := by decide +kernel
theorem dX7_alongGained_35 : decode cX7_alongGained 35 = .ok (.isub, 1) := by decide +kernel
theorem dX7_alongGained_36 : decode cX7_alongGained 36 = .ok (.imul, 1) := by decide +kernel
theorem dX7_alongGained_37 : decode cX7_alongGained 37 = .ok (.ireturn, 1) := by decide +kernel
theorem dX8_init_0 : decode cX8_init 0 = .ok (.aload_n 0, 1) := by decide +kernel
theorem dX8_init_1 : decode cX8_init 1 = .ok (.invokespecial 3, 3) := by decide +kernel
theorem dX8_init_4 : decode cX8_init 4 = .ok (.aload_n 0, 1) := by decide +kernel
theorem dX8_init_5 : decode cX8_init 5 = .ok (.iconst 4, 1) := by decide +kernel
theorem dX8_init_6 : decode cX8_init 6 = .ok (.newarray .int, 2) := by decide +kernel
theorem dX8_init_8 : decode cX8_init 8 = .ok (.putfield 9, 3) := by decide +kernel
theorem dX8_init_11 : decode cX8_init 11 = .ok (.aload_n 0, 1) := by decide +kernel
theorem dX8_init_12 : decode cX8_init 12 = .ok (.iconst 4, 1) := by decide +kernel
theorem dX8_init_13 : decode cX8_init 13 = .ok (.newarray .int, 2) := by decide +kernel
theorem dX8_init_15 : decode cX8_init 15 = .ok (.putfield 15, 3) := by decide +kernel
theorem dX8_init_18 : decode cX8_init 18 = .ok (.aload_n 0, 1) := by decide +kernel
theorem dX8_init_19 : decode cX8_init 19 = .ok (.iconst 4, 1) := by decide +kernel
theorem dX8_init_20 : decode cX8_init 20 = .ok (.newarray .int, 2) := by decide +kernel
theorem dX8_init_22 : decode cX8_init 22 = .ok (.putfield 18, 3) := by decide +kernel
theorem dX8_init_25 : decode cX8_init 25 = .ok (.aload_n 0, 1) := by decide +kernel
theorem dX8_init_26 : decode cX8_init 26 = .ok (.iconst 4, 1) := by decide +kernel
theorem dX8_init_27 : decode cX8_init 27 = .ok (.newarray .int, 2) := by decide +kernel
theorem dX8_init_29 : decode cX8_init 29 = .ok (.putfield 21, 3) := by decide +kernel
theorem dX8_init_32 : decode cX8_init 32 = .ok (.return_, 1) := by decide +kernel
set_option maxRecDepth 20000 in
theorem ggX8_empty_J7_fill_53178 : GoodIn wsX8_empty wsJ7_fill_53178 := goodIn_r _ [8] rfl (by decide +kernel)
set_option maxRecDepth 20000 in
theorem gX8_empty_J7_fill_53178 : GoodIn wsX8_empty (va_wsS RX8 24 yJ7_fill_53178 wsJ7_fill_53178) := goodIn_app (goodIn_of _ (by decide +kernel)) ggX8_empty_J7_fill_53178
theorem dX8_empty_0 : decode cX8_empty 0 = .ok (.aload_n 0, 1) := by decide +kernel
theorem dX8_empty_1 : decode cX8_empty 1 = .ok (.getfield 9, 3) := by decide +kernel
theorem dX8_empty_4 : decode cX8_empty 4 = .ok (.iconst 0, 1) := by decide +kernel
theorem dX8_empty_5 : decode cX8_empty 5 = .ok (.invokestatic 24, 3) := by decide +kernel
theorem dX8_empty_8 : decode cX8_empty 8 = .ok (.aload_n 0, 1) := by decide +kernel
theorem dX8_empty_9 : decode cX8_empty 9 = .ok (.getfield 15, 3) := by decide +kernel
theorem dX8_empty_12 : decode cX8_empty 12 = .ok (.iconst 0, 1) := by decide +kernel
theorem dX8_empty_13 : decode cX8_empty 13 = .ok (.invokestatic 24, 3) := by decide +kernel
theorem dX8_empty_16 : decode cX8_empty 16 = .ok (.aload_n 0, 1) := by decide +kernel
theorem dX8_empty_17 : decode cX8_empty 17 = .ok (.getfield 18, 3) := by decide +kernel
theorem dX8_empty_20 : decode cX8_empty 20 = .ok (.iconst 0, 1) := by decide +kernel
theorem dX8_empty_21 : decode cX8_empty 21 = .ok (.invokestatic 24, 3) := by decide +kernel
theorem dX8_empty_24 : decode cX8_empty 24 = .ok (.aload_n 0, 1) := by decide +kernel
theorem dX8_empty_25 : decode cX8_empty 25 = .ok (.getfield 21, 3) := by decide +kernel
theorem dX8_empty_28 : decode cX8_empty 28 = .ok (.iconst 0, 1) := by decide +kernel
theorem dX8_empty_29 : decode cX8_empty 29 = .ok (.invokestatic 24, 3) := by decide +kernel
theorem dX8_empty_32 : decode cX8_empty 32 = .ok (.return_, 1) := by decide +kernel
theorem dX8_copyFrom_0 : decode cX8_copyFrom 0 = .ok (.aload_n 1, 1) := by decide +kernel
theorem dX8_copyFrom_1 : decode cX8_copyFrom 1 = .ok (.getfield 9, 3) := by decide +kernel
theorem dX8_copyFrom_4 : decode cX8_copyFrom 4 = .ok (.iconst 0, 1) := by decide +kernel
theorem dX8_copyFrom_5 : decode cX8_copyFrom 5 = .ok (.aload_n 0, 1) := by decide +kernel
theorem dX8_copyFrom_6 : decode cX8_copyFrom 6 = .ok (.getfield 9, 3) := by decide +kernel
theorem dX8_copyFrom_9 : decode cX8_copyFrom 9 = .ok (.iconst 0, 1) := by decide +kernel
theorem dX8_copyFrom_10 : decode cX8_copyFrom 10 = .ok (.iconst 4, 1) := by decide +kernel
theorem dX8_copyFrom_11 : decode cX8_copyFrom 11 = .ok (.invokestatic 30, 3) := by decide +kernel
theorem dX8_copyFrom_14 : decode cX8_copyFrom 14 = .ok (.aload_n 1, 1) := by decide +kernel
theorem dX8_copyFrom_15 : decode cX8_copyFrom 15 = .ok (.getfield 15, 3) := by decide +kernel
theorem dX8_copyFrom_18 : decode cX8_copyFrom 18 = .ok (.iconst 0, 1) := by decide +kernel
theorem dX8_copyFrom_19 : decode cX8_copyFrom 19 = .ok (.aload_n 0, 1) := by decide +kernel
theorem dX8_copyFrom_20 : decode cX8_copyFrom 20 = .ok (.getfield 15, 3) := by decide +kernel
theorem dX8_copyFrom_23 : decode cX8_copyFrom 23 = .ok (.iconst 0, 1) := by decide +kernel
theorem dX8_copyFrom_24 : decode cX8_copyFrom 24 = .ok (.iconst 4, 1) := by decide +kernel
theorem dX8_copyFrom_25 : decode cX8_copyFrom 25 = .ok (.invokestatic 30, 3) := by decide +kernel
theorem dX8_copyFrom_28 : decode cX8_copyFrom 28 = .ok (.aload_n 1, 1) := by decide +kernel
theorem dX8_copyFrom_29 : decode cX8_copyFrom 29 = .ok (.getfield 18, 3) := by decide +kernel
theorem dX8_copyFrom_32 : decode cX8_copyFrom 32 = .ok (.iconst 0, 1) := by decide +kernel
theorem dX8_copyFrom_33 : decode cX8_copyFrom 33 = .ok (.aload_n 0, 1) := by decide +kernel
theorem dX8_copyFrom_34 : decode cX8_copyFrom 34 = .ok (.getfield 18, 3) := by decide +kernel
theorem dX8_copyFrom_37 : decode cX8_copyFrom 37 = .ok (.iconst 0, 1) := by decide +kernel
theorem dX8_copyFrom_38 : decode cX8_copyFrom 38 = .ok (.iconst 4, 1) := by decide +kernel
theorem dX8_copyFrom_39 : decode cX8_copyFrom 39 = .ok (.invokestatic 30, 3) := by decide +kernel
theorem dX8_copyFrom_42 : decode cX8_copyFrom 42 = .ok (.aload_n 1, 1) := by decide +kernel
theorem dX8_copyFrom_43 : decode cX8_copyFrom 43 = .ok (.getfield 21, 3) := by decide +kernel
theorem dX8_copyFrom_46 : decode cX8_copyFrom 46 = .ok (.iconst 0, 1) := by decide +kernel
theorem dX8_copyFrom_47 : decode cX8_copyFrom 47 = .ok (.aload_n 0, 1) := by decide +kernel
theorem dX8_copyFrom_48 : decode cX8_copyFrom 48 = .ok (.getfield 21, 3) := by decide +kernel
theorem dX8_copyFrom_51 : decode cX8_copyFrom 51 = .ok (.iconst 0, 1) := by decide +kernel
theorem dX8_copyFrom_52 : decode cX8_copyFrom 52 = .ok (.iconst 4, 1) := by decide +kernel
theorem dX8_copyFrom_53 : decode cX8_copyFrom 53 = .ok (.invokestatic 30, 3) := by decide +kernel
theorem dX8_copyFrom_56 : decode cX8_copyFrom 56 = .ok (.return_, 1) := by decide +kernel
theorem dX8_isThere_0 : decode cX8_isThere 0 = .ok (.aload_n 0, 1) := by decide +kernel
theorem dX8_isThere_1 : decode cX8_isThere 1 = .ok (.getfield 15, 3) := by decide +kernel
theorem dX8_isThere_4 : decode cX8_isThere 4 = .ok (.iload_n 1, 1) := by decide +kernel
theorem dX8_isThere_5 : decode cX8_isThere 5 = .ok (.iaload, 1) := by decide +kernel
theorem dX8_isThere_6 : decode cX8_isThere 6 = .ok (.ifCond .le 7, 3) := by decide +kernel
theorem dX8_isThere_9 : decode cX8_isThere 9 = .ok (.iconst 1, 1) := by decide +kernel
theorem dX8_isThere_10 : decode cX8_isThere 10 = .ok (.goto 4, 3) := by decide +kernel
theorem dX8_isThere_13 : decode cX8_isThere 13 = .ok (.iconst 0, 1) := by decide +kernel
theorem dX8_isThere_14 : decode cX8_isThere 14 = .ok (.ireturn, 1) := by decide +kernel
theorem dX8_isSlack_0 : decode cX8_isSlack 0 = .ok (.aload_n 0, 1) := by decide +kernel
theorem dX8_isSlack_1 : decode cX8_isSlack 1 = .ok (.getfield 21, 3) := by decide +kernel
theorem dX8_isSlack_4 : decode cX8_isSlack 4 = .ok (.iload_n 1, 1) := by decide +kernel
theorem dX8_isSlack_5 : decode cX8_isSlack 5 = .ok (.iaload, 1) := by decide +kernel
theorem dX8_isSlack_6 : decode cX8_isSlack 6 = .ok (.ifCond .eq 22, 3) := by decide +kernel
theorem dX8_isSlack_9 : decode cX8_isSlack 9 = .ok (.aload_n 0, 1) := by decide +kernel
theorem dX8_isSlack_10 : decode cX8_isSlack 10 = .ok (.getfield 21, 3) := by decide +kernel
theorem dX8_isSlack_13 : decode cX8_isSlack 13 = .ok (.iload_n 1, 1) := by decide +kernel
theorem dX8_isSlack_14 : decode cX8_isSlack 14 = .ok (.iaload, 1) := by decide +kernel
theorem dX8_isSlack_15 : decode cX8_isSlack 15 = .ok (.aload_n 0, 1) := by decide +kernel
theorem dX8_isSlack_16 : decode cX8_isSlack 16 = .ok (.getfield 18, 3) := by decide +kernel
theorem dX8_isSlack_19 : decode cX8_isSlack 19 = .ok (.iload_n 1, 1) := by decide +kernel
theorem dX8_isSlack_20 : decode cX8_isSlack 20 = .ok (.iaload, 1) := by decide +kernel
theorem dX8_isSlack_21 : decode cX8_isSlack 21 = .ok (.if_icmp .eq 7, 3) := by decide +kernel
theorem dX8_isSlack_24 : decode cX8_isSlack 24 = .ok (.iconst 1, 1) := by decide +kernel
theorem dX8_isSlack_25 : decode cX8_isSlack 25 = .ok (.goto 4, 3) := by decide +kernel
theorem dX8_isSlack_28 : decode cX8_isSlack 28 = .ok (.iconst 0, 1) := by decide +kernel
theorem dX8_isSlack_29 : decode cX8_isSlack 29 = .ok (.ireturn, 1) := by decide +kernel
set_option maxRecDepth 20000 in
theorem ggX8_howManyThere_X8_isThere : GoodIn wsX8_howManyThere wsX8_isThere := goodIn_r _ [5, 6, 7, 8, 9, 10] rfl (by decide +kernel)
set_option maxRecDepth 20000 in
theorem gX8_howManyThere_X8_isThere : GoodIn wsX8_howManyThere (wsV RX8 36 RX8 yX8_isThere wsX8_isThere) := goodIn_app (goodIn_of _ (by decide +kernel)) ggX8_howManyThere_X8_isThere
theorem dX8_howManyThere_0 : decode cX8_howManyThere 0 = .ok (.iconst 0, 1) := by decide +kernel
theorem dX8_howManyThere_1 : decode cX8_howManyThere 1 = .ok (.istore_n 1, 1) := by decide +kernel
theorem dX8_howManyThere_2 : decode cX8_howManyThere 2 = .ok (.iconst 0, 1) := by decide +kernel
theorem dX8_howManyThere_3 : decode cX8_howManyThere 3 = .ok (.istore_n 2, 1) := by decide +kernel
theorem dX8_howManyThere_4 : decode cX8_howManyThere 4 = .ok (.iload_n 2, 1) := by decide +kernel
theorem dX8_howManyThere_5 : decode cX8_howManyThere 5 = .ok (.iconst 4, 1) := by decide +kernel
theorem dX8_howManyThere_6 : decode cX8_howManyThere 6 = .ok (.if_icmp .ge 25, 3) := by decide +kernel
theorem dX8_howManyThere_9 : decode cX8_howManyThere 9 = .ok (.iload_n 1, 1) := by decide +kernel
theorem dX8_howManyThere_10 : decode cX8_howManyThere 10 = .ok (.aload_n 0, 1) := by decide +kernel
theorem dX8_howManyThere_11 : decode cX8_howManyThere 11 = .ok (.iload_n 2, 1) := by decide +kernel
theorem dX8_howManyThere_12 : decode cX8_howManyThere 12 = .ok (.invokevirtual 36, 3) := by decide +kernel
theorem dX8_howManyThere_15 : decode cX8_howManyThere 15 = .ok (.ifCond .eq 7, 3) := by decide +kernel
theorem dX8_howManyThere_18 : decode cX8_howManyThere 18 = .ok (.iconst 1, 1) := by decide +kernel
theorem dX8_howManyThere_19 : decode cX8_howManyThere 19 = .ok (.goto 4, 3) := by decide +kernel
theorem dX8_howManyThere_22 : decode cX8_howManyThere 22 = .ok (.iconst 0, 1) := by decide +kernel
theorem dX8_howManyThere_23 : decode cX8_howManyThere 23 = .ok (.iadd, 1) := by decide +kernel
theorem dX8_howManyThere_24 : decode cX8_howManyThere 24 = .ok (.istore_n 1, 1) := by decide +kernel
theorem dX8_howManyThere_25 : decode cX8_howManyThere 25 = .ok (.iinc 2 1, 3) := by decide +kernel
theorem dX8_howManyThere_28 : decode cX8_howManyThere 28 = .ok (.goto (-24), 3) := by decide +kernel
theorem dX8_howManyThere_31 : decode cX8_howManyThere 31 = .ok (.iload_n 1, 1) := by decide +kernel
theorem dX8_howManyThere_32 : decode cX8_howManyThere 32 = .ok (.ireturn, 1) := by decide +kernel
set_option maxRecDepth 20000 in
theorem ggX8_howManySlack_X8_isSlack : GoodIn wsX8_howManySlack wsX8_isSlack := goodIn_r _ [5, 6, 7, 8, 9, 10, 11] rfl (by decide +kernel)
set_option maxRecDepth 20000 in
theorem gX8_howManySlack_X8_isSlack : GoodIn wsX8_howManySlack (wsV RX8 40 RX8 yX8_isSlack wsX8_isSlack) := goodIn_app (goodIn_of _ (by decide +kernel)) ggX8_howManySlack_X8_isSlack
theorem dX8_howManySlack_0 : decode cX8_howManySlack 0 = .ok (.iconst 0, 1) := by decide +kernel
theorem dX8_howManySlack_1 : decode cX8_howManySlack 1 = .ok (.istore_n 1, 1) := by decide +kernel
theorem dX8_howManySlack_2 : decode cX8_howManySlack 2 = .ok (.iconst 0, 1) := by decide +kernel
theorem dX8_howManySlack_3 : decode cX8_howManySlack 3 = .ok (.istore_n 2, 1) := by decide +kernel
theorem dX8_howManySlack_4 : decode cX8_howManySlack 4 = .ok (.iload_n 2, 1) := by decide +kernel
theorem dX8_howManySlack_5 : decode cX8_howManySlack 5 = .ok (.iconst 4, 1) := by decide +kernel
theorem dX8_howManySlack_6 : decode cX8_howManySlack 6 = .ok (.if_icmp .ge 25, 3) := by decide +kernel
theorem dX8_howManySlack_9 : decode cX8_howManySlack 9 = .ok (.iload_n 1, 1) := by decide +kernel
theorem dX8_howManySlack_10 : decode cX8_howManySlack 10 = .ok (.aload_n 0, 1) := by decide +kernel
theorem dX8_howManySlack_11 : decode cX8_howManySlack 11 = .ok (.iload_n 2, 1) := by decide +kernel
theorem dX8_howManySlack_12 : decode cX8_howManySlack 12 = .ok (.invokevirtual 40, 3) := by decide +kernel
theorem dX8_howManySlack_15 : decode cX8_howManySlack 15 = .ok (.ifCond .eq 7, 3) := by decide +kernel
theorem dX8_howManySlack_18 : decode cX8_howManySlack 18 = .ok (.iconst 1, 1) := by decide +kernel
theorem dX8_howManySlack_19 : decode cX8_howManySlack 19 = .ok (.goto 4, 3) := by decide +kernel
theorem dX8_howManySlack_22 : decode cX8_howManySlack 22 = .ok (.iconst 0, 1) := by decide +kernel
theorem dX8_howManySlack_23 : decode cX8_howManySlack 23 = .ok (.iadd, 1) := by decide +kernel
theorem dX8_howManySlack_24 : decode cX8_howManySlack 24 = .ok (.istore_n 1, 1) := by decide +kernel
theorem dX8_howManySlack_25 : decode cX8_howManySlack 25 = .ok (.iinc 2 1, 3) := by decide +kernel
theorem dX8_howManySlack_28 : decode cX8_howManySlack 28 = .ok (.goto (-24), 3) := by decide +kernel
theorem dX8_howManySlack_31 : decode cX8_howManySlack 31 = .ok (.iload_n 1, 1) := by decide +kernel
theorem dX8_howManySlack_32 : decode cX8_howManySlack 32 = .ok (.ireturn, 1) := by decide +kernel
set_option maxRecDepth 20000 in
theorem ggX8_lostRighting_X8_isSlack : GoodIn wsX8_lostRighting wsX8_isSlack := goodIn_r _ [6, 7, 8, 12, 13, 14, 15] rfl (by decide +kernel)
set_option maxRecDepth 20000 in
theorem gX8_lostRighting_X8_isSlack : GoodIn wsX8_lostRighting (wsV RX8 40 RX8 yX8_isSlack wsX8_isSlack) := goodIn_app (goodIn_of _ (by decide +kernel)) ggX8_lostRighting_X8_isSlack
set_option maxRecDepth 20000 in
theorem ggX8_lostRighting_X11_cubeByTwelve : GoodIn wsX8_lostRighting wsX11_cubeByTwelve := goodIn_r _ [11] rfl (by decide +kernel)
set_option maxRecDepth 20000 in
theorem gX8_lostRighting_X11_cubeByTwelve_n43 : GoodIn wsX8_lostRighting (wsX11_cubeByTwelve) := ggX8_lostRighting_X11_cubeByTwelve
theorem dX8_lostRighting_0 : decode cX8_lostRighting 0 = .ok (.iconst 0, 1) := by decide +kernel
theorem dX8_lostRighting_1 : decode cX8_lostRighting 1 = .ok (.istore_n 1, 1) := by decide +kernel
theorem dX8_lostRighting_2 : decode cX8_lostRighting 2 = .ok (.iconst 0, 1) := by decide +kernel
theorem dX8_lostRighting_3 : decode cX8_lostRighting 3 = .ok (.istore_n 2, 1) := by decide +kernel
theorem dX8_lostRighting_4 : decode cX8_lostRighting 4 = .ok (.iload_n 2, 1) := by decide +kernel
theorem dX8_lostRighting_5 : decode cX8_lostRighting 5 = .ok (.iconst 4, 1) := by decide +kernel
theorem dX8_lostRighting_6 : decode cX8_lostRighting 6 = .ok (.if_icmp .ge 33, 3) := by decide +kernel
theorem dX8_lostRighting_9 : decode cX8_lostRighting 9 = .ok (.iload_n 1, 1) := by decide +kernel
theorem dX8_lostRighting_10 : decode cX8_lostRighting 10 = .ok (.aload_n 0, 1) := by decide +kernel
theorem dX8_lostRighting_11 : decode cX8_lostRighting 11 = .ok (.iload_n 2, 1) := by decide +kernel
theorem dX8_lostRighting_12 : decode cX8_lostRighting 12 = .ok (.invokevirtual 40, 3) := by decide +kernel
theorem dX8_lostRighting_15 : decode cX8_lostRighting 15 = .ok (.ifCond .eq 15, 3) := by decide +kernel
theorem dX8_lostRighting_18 : decode cX8_lostRighting 18 = .ok (.aload_n 0, 1) := by decide +kernel
theorem dX8_lostRighting_19 : decode cX8_lostRighting 19 = .ok (.getfield 15, 3) := by decide +kernel
theorem dX8_lostRighting_22 : decode cX8_lostRighting 22 = .ok (.iload_n 2, 1) := by decide +kernel
theorem dX8_lostRighting_23 : decode cX8_lostRighting 23 = .ok (.iaload, 1) := by decide +kernel
theorem dX8_lostRighting_24 : decode cX8_lostRighting 24 = .ok (.invokestatic 43, 3) := by decide +kernel
theorem dX8_lostRighting_27 : decode cX8_lostRighting 27 = .ok (.goto 4, 3) := by decide +kernel
theorem dX8_lostRighting_30 : decode cX8_lostRighting 30 = .ok (.iconst 0, 1) := by decide +kernel
theorem dX8_lostRighting_31 : decode cX8_lostRighting 31 = .ok (.iadd, 1) := by decide +kernel
theorem dX8_lostRighting_32 : decode cX8_lostRighting 32 = .ok (.istore_n 1, 1) := by decide +kernel
theorem dX8_lostRighting_33 : decode cX8_lostRighting 33 = .ok (.iinc 2 1, 3) := by decide +kernel
theorem dX8_lostRighting_36 : decode cX8_lostRighting 36 = .ok (.goto (-32), 3) := by decide +kernel
theorem dX8_lostRighting_39 : decode cX8_lostRighting 39 = .ok (.iload_n 1, 1) := by decide +kernel
theorem dX8_lostRighting_40 : decode cX8_lostRighting 40 = .ok (.ireturn, 1) := by decide +kernel
theorem dX9_init_0 : decode cX9_init 0 = .ok (.aload_n 0, 1) := by decide +kernel
theorem dX9_init_1 : decode cX9_init 1 = .ok (.invokespecial 3, 3) := by decide +kernel
theorem dX9_init_4 : decode cX9_init 4 = .ok (.aload_n 0, 1) := by decide +kernel
theorem dX9_init_5 : decode cX9_init 5 = .ok (.iconst 0, 1) := by decide +kernel
theorem dX9_init_6 : decode cX9_init 6 = .ok (.putfield 9, 3) := by decide +kernel
theorem dX9_init_9 : decode cX9_init 9 = .ok (.aload_n 0, 1) := by decide +kernel
theorem dX9_init_10 : decode cX9_init 10 = .ok (.bipush 80, 2) := by decide +kernel
theorem dX9_init_12 : decode cX9_init 12 = .ok (.newarray .byte, 2) := by decide +kernel
theorem dX9_init_14 : decode cX9_init 14 = .ok (.putfield 15, 3) := by decide +kernel
theorem dX9_init_17 : decode cX9_init 17 = .ok (.aload_n 0, 1) := by decide +kernel
theorem dX9_init_18 : decode cX9_init 18 = .ok (.iconst 0, 1) := by decide +kernel
theorem dX9_init_19 : decode cX9_init 19 = .ok (.putfield 19, 3) := by decide +kernel
theorem dX9_init_22 : decode cX9_init 22 = .ok (.aload_n 0, 1) := by decide +kernel
theorem dX9_init_23 : decode cX9_init 23 = .ok (.iconst 0, 1) := by decide +kernel
theorem dX9_init_24 : decode cX9_init 24 = .ok (.putfield 22, 3) := by decide +kernel
theorem dX9_init_27 : decode cX9_init 27 = .ok (.aload_n 0, 1) := by decide +kernel
theorem dX9_init_28 : decode cX9_init 28 = .ok (.bipush 6, 2) := by decide +kernel
theorem dX9_init_30 : decode cX9_init 30 = .ok (.newarray .int, 2) := by decide +kernel
theorem dX9_init_32 : decode cX9_init 32 = .ok (.putfield 25, 3) := by decide +kernel
theorem dX9_init_35 : decode cX9_init 35 = .ok (.return_, 1) := by decide +kernel
set_option maxRecDepth 20000 in
theorem ggX9_findFault_X9_readsAct : GoodIn wsX9_findFault wsX9_readsAct := goodIn_r _ [7, 8, 9, 1, 10, 11, 12, 6, 13, 2, 14, 15, 16, 17, 18, 19, 20, 21, 22, 23, 24, 25, 26, 27, 28, 29, 30, 31, 32, 33, 34, 35, 36, 37, 38, 39, 40, 41, 42, 43, 44, 45, 46, 47, 48, 49, 50, 51, 52, 53, 54, 55, 56, 57, 58, 59, 60, 61, 62, 63, 64, 65, 66, 67, 68, 69, 70, 71, 72, 73, 74, 75, 76, 77, 78, 79, 80, 81, 82, 83, 84, 85, 86, 87, 88, 89, 90, 91, 92, 93, 94, 95, 96, 97, 98, 99, 100, 105, 106, 107, 108, 109] rfl (by decide +kernel)
set_option maxRecDepth 20000 in
theorem gX9_findFault_X9_readsAct : GoodIn wsX9_findFault (wsV RX9 29 RX9 yX9_readsAct wsX9_readsAct) := goodIn_app (goodIn_of _ (by decide +kernel)) ggX9_findFault_X9_readsAct
set_option maxRecDepth 20000 in
theorem ggX9_findFault_X9_isPartedHere : GoodIn wsX9_findFault wsX9_isPartedHere := goodIn_r _ [104, 81, 82, 83, 6, 84, 1, 2, 18, 19, 20, 21, 105, 106, 107, 108, 109] rfl (by decide +kernel)
set_option maxRecDepth 20000 in
theorem gX9_findFault_X9_isPartedHere : GoodIn wsX9_findFault (wsV RX9 33 RX9 yX9_isPartedHere wsX9_isPartedHere) := goodIn_app (goodIn_of _ (by decide +kernel)) ggX9_findFault_X9_isPartedHere
theorem dX9_findFault_0 : decode cX9_findFault 0 = .ok (.aload_n 0, 1) := by decide +kernel
theorem dX9_findFault_1 : decode cX9_findFault 1 = .ok (.iconst 0, 1) := by decide +kernel
theorem dX9_findFault_2 : decode cX9_findFault 2 = .ok (.putfield 19, 3) := by decide +kernel
theorem dX9_findFault_5 : decode cX9_findFault 5 = .ok (.iconst 0, 1) := by decide +kernel
theorem dX9_findFault_6 : decode cX9_findFault 6 = .ok (.istore_n 1, 1) := by decide +kernel
theorem dX9_findFault_7 : decode cX9_findFault 7 = .ok (.iload_n 1, 1) := by decide +kernel
theorem dX9_findFault_8 : decode cX9_findFault 8 = .ok (.aload_n 0, 1) := by decide +kernel
theorem dX9_findFault_9 : decode cX9_findFault 9 = .ok (.getfield 9, 3) := by decide +kernel
theorem dX9_findFault_12 : decode cX9_findFault 12 = .ok (.if_icmp .gt 56, 3) := by decide +kernel
theorem dX9_findFault_15 : decode cX9_findFault 15 = .ok (.aload_n 0, 1) := by decide +kernel
theorem dX9_findFault_16 : decode cX9_findFault 16 = .ok (.invokevirtual 29, 3) := by decide +kernel
theorem dX9_findFault_19 : decode cX9_findFault 19 = .ok (.ifCond .ne 8, 3) := by decide +kernel
theorem dX9_findFault_22 : decode cX9_findFault 22 = .ok (.aload_n 0, 1) := by decide +kernel
theorem dX9_findFault_23 : decode cX9_findFault 23 = .ok (.getfield 19, 3) := by decide +kernel
theorem dX9_findFault_26 : decode cX9_findFault 26 = .ok (.ireturn, 1) := by decide +kernel
theorem dX9_findFault_27 : decode cX9_findFault 27 = .ok (.aload_n 0, 1) := by decide +kernel
theorem dX9_findFault_28 : decode cX9_findFault 28 = .ok (.getfield 19, 3) := by decide +kernel
theorem dX9_findFault_31 : decode cX9_findFault 31 = .ok (.aload_n 0, 1) := by decide +kernel
theorem dX9_findFault_32 : decode cX9_findFault 32 = .ok (.getfield 9, 3) := by decide +kernel
theorem dX9_findFault_35 : decode cX9_findFault 35 = .ok (.if_icmp .lt 5, 3) := by decide +kernel
theorem dX9_findFault_38 : decode cX9_findFault 38 = .ok (.iconst (-1), 1) := by decide +kernel
theorem dX9_findFault_39 : decode cX9_findFault 39 = .ok (.ireturn, 1) := by decide +kernel
theorem dX9_findFault_40 : decode cX9_findFault 40 = .ok (.aload_n 0, 1) := by decide +kernel
theorem dX9_findFault_41 : decode cX9_findFault 41 = .ok (.invokevirtual 33, 3) := by decide +kernel
theorem dX9_findFault_44 : decode cX9_findFault 44 = .ok (.ifCond .ne 8, 3) := by decide +kernel
theorem dX9_findFault_47 : decode cX9_findFault 47 = .ok (.aload_n 0, 1) := by decide +kernel
theorem dX9_findFault_48 : decode cX9_findFault 48 = .ok (.getfield 19, 3) := by decide +kernel
theorem dX9_findFault_51 : decode cX9_findFault 51 = .ok (.ireturn, 1) := by decide +kernel
theorem dX9_findFault_52 : decode cX9_findFault 52 = .ok (.aload_n 0, 1) := by decide +kernel
theorem dX9_findFault_53 : decode cX9_findFault 53 = .ok (.dup, 1) := by decide +kernel
theorem dX9_findFault_54 : decode cX9_findFault 54 = .ok (.getfield 19, 3) := by decide +kernel
theorem dX9_findFault_57 : decode cX9_findFault 57 = .ok (.iconst 1, 1) := by decide +kernel
theorem dX9_findFault_58 : decode cX9_findFault 58 = .ok (.iadd, 1) := by decide +kernel
theorem dX9_findFault_59 : decode cX9_findFault 59 = .ok (.putfield 19, 3) := by decide +kernel
theorem dX9_findFault_62 : decode cX9_findFault 62 = .ok (.iinc 1 1, 3) := by decide +kernel
theorem dX9_findFault_65 : decode cX9_findFault 65 = .ok (.goto (-58), 3) := by decide +kernel
theorem dX9_findFault_68 : decode cX9_findFault 68 = .ok (.aload_n 0, 1) := by decide +kernel
theorem dX9_findFault_69 : decode cX9_findFault 69 = .ok (.getfield 19, 3) := by decide +kernel
theorem dX9_findFault_72 : decode cX9_findFault 72 = .ok (.ireturn, 1) := by decide +kernel
set_option maxRecDepth 20000 in
theorem ggX9_isPartedHere_X9_isHere : GoodIn wsX9_isPartedHere wsX9_isHere := goodIn_r _ [5, 6, 7, 8, 9, 10, 11, 12, 13, 14, 15, 16] rfl (by decide +kernel)
set_option maxRecDepth 20000 in
theorem gX9_isPartedHere_X9_isHere : GoodIn wsX9_isPartedHere (wsV RX9 36 RX9 yX9_isHere wsX9_isHere) := goodIn_app (goodIn_of _ (by decide +kernel)) ggX9_isPartedHere_X9_isHere
theorem dX9_isPartedHere_0 : decode cX9_isPartedHere 0 = .ok (.aload_n 0, 1) := by decide +kernel
theorem dX9_isPartedHere_1 : decode cX9_isPartedHere 1 = .ok (.bipush 59, 2) := by decide +kernel
theorem dX9_isPartedHere_3 : decode cX9_isPartedHere 3 = .ok (.invokevirtual 36, 3) := by decide +kernel
theorem dX9_isPartedHere_6 : decode cX9_isPartedHere 6 = .ok (.ireturn, 1) := by decide +kernel
set_option maxRecDepth 20000 in
theorem ggX9_readsAct_X9_readsWord : GoodIn wsX9_readsAct wsX9_readsWord := goodIn_r _ [8, 3, 9, 1, 10, 11, 12, 7, 13, 14, 15, 16, 17, 18, 19, 20, 21, 22, 23, 24, 25, 26, 27, 28, 29, 30, 31, 32, 33, 34, 35, 36, 37, 38, 39, 40, 41, 42, 43, 44, 45, 46, 47, 48, 49, 50, 51, 52, 53, 54, 55, 56, 57, 58, 59, 60, 61, 62, 63, 64, 65, 66, 67, 68, 69, 70, 71, 72, 73, 97, 98, 99, 100, 101] rfl (by decide +kernel)
set_option maxRecDepth 20000 in
theorem gX9_readsAct_X9_readsWord : GoodIn wsX9_readsAct (wsV RX9 40 RX9 yX9_readsWord wsX9_readsWord) := goodIn_app (goodIn_of _ (by decide +kernel)) ggX9_readsAct_X9_readsWord
set_option maxRecDepth 20000 in
theorem ggX9_readsAct_X9_shapeOf : GoodIn wsX9_readsAct wsX9_shapeOf := goodIn_r _ [76] rfl (by decide +kernel)
set_option maxRecDepth 20000 in
theorem gX9_readsAct_X9_shapeOf : GoodIn wsX9_readsAct (va_wsS RX9 43 yX9_shapeOf wsX9_shapeOf) := goodIn_app (goodIn_of _ (by decide +kernel)) ggX9_readsAct_X9_shapeOf
set_option maxRecDepth 20000 in
theorem ggX9_readsAct_J0_length_8abf5 : GoodIn wsX9_readsAct wsJ0_length_8abf5 := goodIn_r _ [29, 30, 31, 32, 33, 28, 34, 35, 36] rfl (by decide +kernel)
set_option maxRecDepth 20000 in
theorem gX9_readsAct_J0_length_8abf5 : GoodIn wsX9_readsAct (wsV RX9 47 RJ0 yJ0_length_8abf5 wsJ0_length_8abf5) := goodIn_app (goodIn_of _ (by decide +kernel)) ggX9_readsAct_J0_length_8abf5
set_option maxRecDepth 20000 in
theorem ggX9_readsAct_X9_isHere : GoodIn wsX9_readsAct wsX9_isHere := goodIn_r _ [80, 3, 9, 14, 15, 16, 17, 97, 98, 99, 100, 101] rfl (by decide +kernel)
set_option maxRecDepth 20000 in
theorem gX9_readsAct_X9_isHere : GoodIn wsX9_readsAct (wsV RX9 36 RX9 yX9_isHere wsX9_isHere) := goodIn_app (goodIn_of _ (by decide +kernel)) ggX9_readsAct_X9_isHere
set_option maxRecDepth 20000 in
theorem ggX9_readsAct_J0_charAt_5068e : GoodIn wsX9_readsAct wsJ0_charAt_5068e := goodIn_r _ [40, 30, 41, 42, 43, 28, 44, 35, 36, 45, 46, 47, 48, 49, 50, 51, 52, 53, 54, 55, 56, 57, 58, 59, 60, 61, 62, 63, 64, 65, 66, 67, 68, 69, 70, 71, 72, 73] rfl (by decide +kernel)
set_option maxRecDepth 20000 in
theorem gX9_readsAct_J0_charAt_5068e : GoodIn wsX9_readsAct (wsV RX9 52 RJ0 yJ0_charAt_5068e wsJ0_charAt_5068e) := goodIn_app (goodIn_of _ (by decide +kernel)) ggX9_readsAct_J0_charAt_5068e
set_option maxRecDepth 20000 in
theorem ggX9_readsAct_X9_readsPart : GoodIn wsX9_readsAct wsX9_readsPart := goodIn_r _ [84, 3, 85, 86, 87, 7, 88, 9, 14, 2, 10, 11, 12, 13, 15, 16, 17, 77, 78, 79, 80, 89, 90, 91, 92, 93, 94, 95, 96, 97, 98, 99, 100, 101] rfl (by decide +kernel)
set_option maxRecDepth 20000 in
theorem gX9_readsAct_X9_readsPart : GoodIn wsX9_readsAct (wsV RX9 56 RX9 yX9_readsPart wsX9_readsPart) := goodIn_app (goodIn_of _ (by decide +kernel)) ggX9_readsAct_X9_readsPart
theorem dX9_readsAct_0 : decode cX9_readsAct 0 = .ok (.aload_n 0, 1) := by decide +kernel
theorem dX9_readsAct_1 : decode cX9_readsAct 1 = .ok (.invokevirtual 40, 3) := by decide +kernel
theorem dX9_readsAct_4 : decode cX9_readsAct 4 = .ok (.ifCond .ne 5, 3) := by decide +kernel
theorem dX9_readsAct_7 : decode cX9_readsAct 7 = .ok (.iconst 0, 1) := by decide +kernel
theorem dX9_readsAct_8 : decode cX9_readsAct 8 = .ok (.ireturn, 1) := by decide +kernel
theorem dX9_readsAct_9 : decode cX9_readsAct 9 = .ok (.aload_n 0, 1) := by decide +kernel
theorem dX9_readsAct_10 : decode cX9_readsAct 10 = .ok (.getfield 22, 3) := by decide +kernel
theorem dX9_readsAct_13 : decode cX9_readsAct 13 = .ok (.invokestatic 43, 3) := by decide +kernel
theorem dX9_readsAct_16 : decode cX9_readsAct 16 = .ok (.astore_n 1, 1) := by decide +kernel
theorem dX9_readsAct_17 : decode cX9_readsAct 17 = .ok (.iconst 0, 1) := by decide +kernel
theorem dX9_readsAct_18 : decode cX9_readsAct 18 = .ok (.istore_n 2, 1) := by decide +kernel
theorem dX9_readsAct_19 : decode cX9_readsAct 19 = .ok (.iload_n 2, 1) := by decide +kernel
theorem dX9_readsAct_20 : decode cX9_readsAct 20 = .ok (.aload_n 1, 1) := by decide +kernel
theorem dX9_readsAct_21 : decode cX9_readsAct 21 = .ok (.invokevirtual 47, 3) := by decide +kernel
theorem dX9_readsAct_24 : decode cX9_readsAct 24 = .ok (.if_icmp .ge 54, 3) := by decide +kernel
theorem dX9_readsAct_27 : decode cX9_readsAct 27 = .ok (.iload_n 2, 1) := by decide +kernel
theorem dX9_readsAct_28 : decode cX9_readsAct 28 = .ok (.aload_n 0, 1) := by decide +kernel
theorem dX9_readsAct_29 : decode cX9_readsAct 29 = .ok (.getfield 25, 3) := by decide +kernel
theorem dX9_readsAct_32 : decode cX9_readsAct 32 = .ok (.arraylength, 1) := by decide +kernel
theorem dX9_readsAct_33 : decode cX9_readsAct 33 = .ok (.if_icmp .ge 45, 3) := by decide +kernel
theorem dX9_readsAct_36 : decode cX9_readsAct 36 = .ok (.aload_n 0, 1) := by decide +kernel
theorem dX9_readsAct_37 : decode cX9_readsAct 37 = .ok (.bipush 32, 2) := by decide +kernel
theorem dX9_readsAct_39 : decode cX9_readsAct 39 = .ok (.invokevirtual 36, 3) := by decide +kernel
theorem dX9_readsAct_42 : decode cX9_readsAct 42 = .ok (.ifCond .ne 5, 3) := by decide +kernel
theorem dX9_readsAct_45 : decode cX9_readsAct 45 = .ok (.iconst 0, 1) := by decide +kernel
theorem dX9_readsAct_46 : decode cX9_readsAct 46 = .ok (.ireturn, 1) := by decide +kernel
theorem dX9_readsAct_47 : decode cX9_readsAct 47 = .ok (.aload_n 0, 1) := by decide +kernel
theorem dX9_readsAct_48 : decode cX9_readsAct 48 = .ok (.dup, 1) := by decide +kernel
theorem dX9_readsAct_49 : decode cX9_readsAct 49 = .ok (.getfield 19, 3) := by decide +kernel
theorem dX9_readsAct_52 : decode cX9_readsAct 52 = .ok (.iconst 1, 1) := by decide +kernel
theorem dX9_readsAct_53 : decode cX9_readsAct 53 = .ok (.iadd, 1) := by decide +kernel
theorem dX9_readsAct_54 : decode cX9_readsAct 54 = .ok (.putfield 19, 3) := by decide +kernel
theorem dX9_readsAct_57 : decode cX9_readsAct 57 = .ok (.aload_n 0, 1) := by decide +kernel
theorem dX9_readsAct_58 : decode cX9_readsAct 58 = .ok (.iload_n 2, 1) := by decide +kernel
theorem dX9_readsAct_59 : decode cX9_readsAct 59 = .ok (.aload_n 1, 1) := by decide +kernel
theorem dX9_readsAct_60 : decode cX9_readsAct 60 = .ok (.iload_n 2, 1) := by decide +kernel
theorem dX9_readsAct_61 : decode cX9_readsAct 61 = .ok (.invokevirtual 52, 3) := by decide +kernel
theorem dX9_readsAct_64 : decode cX9_readsAct 64 = .ok (.invokevirtual 56, 3) := by decide +kernel
theorem dX9_readsAct_67 : decode cX9_readsAct 67 = .ok (.ifCond .ne 5, 3) := by decide +kernel
theorem dX9_readsAct_70 : decode cX9_readsAct 70 = .ok (.iconst 0, 1) := by decide +kernel
theorem dX9_readsAct_71 : decode cX9_readsAct 71 = .ok (.ireturn, 1) := by decide +kernel
theorem dX9_readsAct_72 : decode cX9_readsAct 72 = .ok (.iinc 2 1, 3) := by decide +kernel
theorem dX9_readsAct_75 : decode cX9_readsAct 75 = .ok (.goto (-56), 3) := by decide +kernel
theorem dX9_readsAct_78 : decode cX9_readsAct 78 = .ok (.iconst 1, 1) := by decide +kernel
theorem dX9_readsAct_79 : decode cX9_readsAct 79 = .ok (.ireturn, 1) := by decide +kernel
set_option maxRecDepth 20000 in
theorem ggX9_readsWord_X9_isLetterHere : GoodIn wsX9_readsWord wsX9_isLetterHere := goodIn_r _ [8, 1, 2, 9, 10, 11, 12, 69, 70, 71, 72, 73] rfl (by decide +kernel)
set_option maxRecDepth 20000 in
theorem gX9_readsWord_X9_isLetterHere : GoodIn wsX9_readsWord (wsV RX9 60 RX9 yX9_isLetterHere wsX9_isLetterHere) := goodIn_app (goodIn_of _ (by decide +kernel)) ggX9_readsWord_X9_isLetterHere
set_option maxRecDepth 20000 in
theorem ggX9_readsWord_X9_wordOf : GoodIn wsX9_readsWord wsX9_wordOf := goodIn_r _ [15] rfl (by decide +kernel)
set_option maxRecDepth 20000 in
theorem gX9_readsWord_X9_wordOf : GoodIn wsX9_readsWord (va_wsS RX9 63 yX9_wordOf wsX9_wordOf) := goodIn_app (goodIn_of _ (by decide +kernel)) ggX9_readsWord_X9_wordOf
set_option maxRecDepth 20000 in
theorem ggX9_readsWord_X9_isWord : GoodIn wsX9_readsWord wsX9_isWord := goodIn_r _ [19, 9, 20, 21, 22, 23, 24, 25, 26, 27, 28, 29, 30, 31, 32, 33, 34, 35, 36, 37, 38, 39, 40, 41, 42, 43, 44, 45, 46, 47, 48, 49, 50, 51, 52, 53, 54, 55, 56, 57, 58, 59, 60, 61, 62, 63, 64, 65, 66, 67, 68, 69, 70, 71, 72, 73] rfl (by decide +kernel)
set_option maxRecDepth 20000 in
theorem gX9_readsWord_X9_isWord : GoodIn wsX9_readsWord (wsV RX9 66 RX9 yX9_isWord wsX9_isWord) := goodIn_app (goodIn_of _ (by decide +kernel)) ggX9_readsWord_X9_isWord
theorem dX9_readsWord_0 : decode cX9_readsWord 0 = .ok (.aload_n 0, 1) := by decide +kernel
theorem dX9_readsWord_1 : decode cX9_readsWord 1 = .ok (.getfield 19, 3) := by decide +kernel
theorem dX9_readsWord_4 : decode cX9_readsWord 4 = .ok (.istore_n 1, 1) := by decide +kernel
theorem dX9_readsWord_5 : decode cX9_readsWord 5 = .ok (.aload_n 0, 1) := by decide +kernel
theorem dX9_readsWord_6 : decode cX9_readsWord 6 = .ok (.getfield 19, 3) := by decide +kernel
theorem dX9_readsWord_9 : decode cX9_readsWord 9 = .ok (.aload_n 0, 1) := by decide +kernel
theorem dX9_readsWord_10 : decode cX9_readsWord 10 = .ok (.getfield 9, 3) := by decide +kernel
theorem dX9_readsWord_13 : decode cX9_readsWord 13 = .ok (.if_icmp .ge 23, 3) := by decide +kernel
theorem dX9_readsWord_16 : decode cX9_readsWord 16 = .ok (.aload_n 0, 1) := by decide +kernel
theorem dX9_readsWord_17 : decode cX9_readsWord 17 = .ok (.invokevirtual 60, 3) := by decide +kernel
theorem dX9_readsWord_20 : decode cX9_readsWord 20 = .ok (.ifCond .eq 16, 3) := by decide +kernel
theorem dX9_readsWord_23 : decode cX9_readsWord 23 = .ok (.aload_n 0, 1) := by decide +kernel
theorem dX9_readsWord_24 : decode cX9_readsWord 24 = .ok (.dup, 1) := by decide +kernel
theorem dX9_readsWord_25 : decode cX9_readsWord 25 = .ok (.getfield 19, 3) := by decide +kernel
theorem dX9_readsWord_28 : decode cX9_readsWord 28 = .ok (.iconst 1, 1) := by decide +kernel
theorem dX9_readsWord_29 : decode cX9_readsWord 29 = .ok (.iadd, 1) := by decide +kernel
theorem dX9_readsWord_30 : decode cX9_readsWord 30 = .ok (.putfield 19, 3) := by decide +kernel
theorem dX9_readsWord_33 : decode cX9_readsWord 33 = .ok (.goto (-28), 3) := by decide +kernel
theorem dX9_readsWord_36 : decode cX9_readsWord 36 = .ok (.iconst 0, 1) := by decide +kernel
theorem dX9_readsWord_37 : decode cX9_readsWord 37 = .ok (.istore_n 2, 1) := by decide +kernel
theorem dX9_readsWord_38 : decode cX9_readsWord 38 = .ok (.iload_n 2, 1) := by decide +kernel
theorem dX9_readsWord_39 : decode cX9_readsWord 39 = .ok (.iconst 4, 1) := by decide +kernel
theorem dX9_readsWord_40 : decode cX9_readsWord 40 = .ok (.if_icmp .gt 32, 3) := by decide +kernel
theorem dX9_readsWord_43 : decode cX9_readsWord 43 = .ok (.aload_n 0, 1) := by decide +kernel
theorem dX9_readsWord_44 : decode cX9_readsWord 44 = .ok (.iload_n 2, 1) := by decide +kernel
theorem dX9_readsWord_45 : decode cX9_readsWord 45 = .ok (.putfield 22, 3) := by decide +kernel
theorem dX9_readsWord_48 : decode cX9_readsWord 48 = .ok (.aload_n 0, 1) := by decide +kernel
theorem dX9_readsWord_49 : decode cX9_readsWord 49 = .ok (.iload_n 2, 1) := by decide +kernel
theorem dX9_readsWord_50 : decode cX9_readsWord 50 = .ok (.invokestatic 63, 3) := by decide +kernel
theorem dX9_readsWord_53 : decode cX9_readsWord 53 = .ok (.iload_n 1, 1) := by decide +kernel
theorem dX9_readsWord_54 : decode cX9_readsWord 54 = .ok (.aload_n 0, 1) := by decide +kernel
theorem dX9_readsWord_55 : decode cX9_readsWord 55 = .ok (.getfield 19, 3) := by decide +kernel
theorem dX9_readsWord_58 : decode cX9_readsWord 58 = .ok (.invokevirtual 66, 3) := by decide +kernel
theorem dX9_readsWord_61 : decode cX9_readsWord 61 = .ok (.ifCond .eq 5, 3) := by decide +kernel
theorem dX9_readsWord_64 : decode cX9_readsWord 64 = .ok (.iconst 1, 1) := by decide +kernel
theorem dX9_readsWord_65 : decode cX9_readsWord 65 = .ok (.ireturn, 1) := by decide +kernel
theorem dX9_readsWord_66 : decode cX9_readsWord 66 = .ok (.iinc 2 1, 3) := by decide +kernel
theorem dX9_readsWord_69 : decode cX9_readsWord 69 = .ok (.goto (-31), 3) := by decide +kernel
theorem dX9_readsWord_72 : decode cX9_readsWord 72 = .ok (.aload_n 0, 1) := by decide +kernel
theorem dX9_readsWord_73 : decode cX9_readsWord 73 = .ok (.iload_n 1, 1) := by decide +kernel
theorem dX9_readsWord_74 : decode cX9_readsWord 74 = .ok (.putfield 19, 3) := by decide +kernel
theorem dX9_readsWord_77 : decode cX9_readsWord 77 = .ok (.iconst 0, 1) := by decide +kernel
theorem dX9_readsWord_78 : decode cX9_readsWord 78 = .ok (.ireturn, 1) := by decide +kernel
set_option maxRecDepth 20000 in
theorem ggX9_isWord_J0_length_8abf5 : GoodIn wsX9_isWord wsJ0_length_8abf5 := goodIn_r _ [6, 7, 8, 9, 10, 5, 11, 12, 13] rfl (by decide +kernel)
set_option maxRecDepth 20000 in
theorem gX9_isWord_J0_length_8abf5 : GoodIn wsX9_isWord (wsV RX9 47 RJ0 yJ0_length_8abf5 wsJ0_length_8abf5) := goodIn_app (goodIn_of _ (by decide +kernel)) ggX9_isWord_J0_length_8abf5
set_option maxRecDepth 20000 in
theorem ggX9_isWord_J0_charAt_5068e : GoodIn wsX9_isWord wsJ0_charAt_5068e := goodIn_r _ [17, 7, 18, 19, 20, 5, 21, 12, 13, 22, 23, 24, 25, 26, 27, 28, 29, 30, 31, 32, 33, 34, 35, 36, 37, 38, 39, 40, 41, 42, 43, 44, 45, 46, 47, 48, 49, 50] rfl (by decide +kernel)
set_option maxRecDepth 20000 in
theorem gX9_isWord_J0_charAt_5068e : GoodIn wsX9_isWord (wsV RX9 52 RJ0 yJ0_charAt_5068e wsJ0_charAt_5068e) := goodIn_app (goodIn_of _ (by decide +kernel)) ggX9_isWord_J0_charAt_5068e
theorem dX9_isWord_0 : decode cX9_isWord 0 = .ok (.aload_n 1, 1) := by decide +kernel
theorem dX9_isWord_1 : decode cX9_isWord 1 = .ok (.invokevirtual 47, 3) := by decide +kernel
theorem dX9_isWord_4 : decode cX9_isWord 4 = .ok (.iload_n 3, 1) := by decide +kernel
theorem dX9_isWord_5 : decode cX9_isWord 5 = .ok (.iload_n 2, 1) := by decide +kernel
theorem dX9_isWord_6 : decode cX9_isWord 6 = .ok (.isub, 1) := by decide +kernel
theorem dX9_isWord_7 : decode cX9_isWord 7 = .ok (.if_icmp .eq 5, 3) := by decide +kernel
theorem dX9_isWord_10 : decode cX9_isWord 10 = .ok (.iconst 0, 1) := by decide +kernel
theorem dX9_isWord_11 : decode cX9_isWord 11 = .ok (.ireturn, 1) := by decide +kernel
theorem dX9_isWord_12 : decode cX9_isWord 12 = .ok (.iconst 0, 1) := by decide +kernel
theorem dX9_isWord_13 : decode cX9_isWord 13 = .ok (.istore 4, 2) := by decide +kernel
theorem dX9_isWord_15 : decode cX9_isWord 15 = .ok (.iload 4, 2) := by decide +kernel
theorem dX9_isWord_17 : decode cX9_isWord 17 = .ok (.aload_n 1, 1) := by decide +kernel
theorem dX9_isWord_18 : decode cX9_isWord 18 = .ok (.invokevirtual 47, 3) := by decide +kernel
theorem dX9_isWord_21 : decode cX9_isWord 21 = .ok (.if_icmp .ge 29, 3) := by decide +kernel
theorem dX9_isWord_24 : decode cX9_isWord 24 = .ok (.aload_n 0, 1) := by decide +kernel
theorem dX9_isWord_25 : decode cX9_isWord 25 = .ok (.getfield 15, 3) := by decide +kernel
theorem dX9_isWord_28 : decode cX9_isWord 28 = .ok (.iload_n 2, 1) := by decide +kernel
theorem dX9_isWord_29 : decode cX9_isWord 29 = .ok (.iload 4, 2) := by decide +kernel
theorem dX9_isWord_31 : decode cX9_isWord 31 = .ok (.iadd, 1) := by decide +kernel
theorem dX9_isWord_32 : decode cX9_isWord 32 = .ok (.baload, 1) := by decide +kernel
theorem dX9_isWord_33 : decode cX9_isWord 33 = .ok (.aload_n 1, 1) := by decide +kernel
theorem dX9_isWord_34 : decode cX9_isWord 34 = .ok (.iload 4, 2) := by decide +kernel
theorem dX9_isWord_36 : decode cX9_isWord 36 = .ok (.invokevirtual 52, 3) := by decide +kernel
theorem dX9_isWord_39 : decode cX9_isWord 39 = .ok (.if_icmp .eq 5, 3) := by decide +kernel
theorem dX9_isWord_42 : decode cX9_isWord 42 = .ok (.iconst 0, 1) := by decide +kernel
theorem dX9_isWord_43 : decode cX9_isWord 43 = .ok (.ireturn, 1) := by decide +kernel
theorem dX9_isWord_44 : decode cX9_isWord 44 = .ok (.iinc 4 1, 3) := by decide +kernel
theorem dX9_isWord_47 : decode cX9_isWord 47 = .ok (.goto (-32), 3) := by decide +kernel
theorem dX9_isWord_50 : decode cX9_isWord 50 = .ok (.iconst 1, 1) := by decide +kernel
theorem dX9_isWord_51 : decode cX9_isWord 51 = .ok (.ireturn, 1) := by decide +kernel
set_option maxRecDepth 20000 in
theorem ggX9_readsPart_X9_readsName : GoodIn wsX9_readsPart wsX9_readsName := goodIn_r _ [6, 1, 7, 8, 9, 10, 11, 12, 5, 13, 14, 15, 16, 29, 30, 31, 32, 33] rfl (by decide +kernel)
set_option maxRecDepth 20000 in
theorem gX9_readsPart_X9_readsName : GoodIn wsX9_readsPart (wsV RX9 70 RX9 yX9_readsName wsX9_readsName) := goodIn_app (goodIn_of _ (by decide +kernel)) ggX9_readsPart_X9_readsName
set_option maxRecDepth 20000 in
theorem ggX9_readsPart_X9_isHere : GoodIn wsX9_readsPart wsX9_isHere := goodIn_r _ [20, 1, 7, 8, 14, 15, 16, 29, 30, 31, 32, 33] rfl (by decide +kernel)
set_option maxRecDepth 20000 in
theorem gX9_readsPart_X9_isHere : GoodIn wsX9_readsPart (wsV RX9 36 RX9 yX9_isHere wsX9_isHere) := goodIn_app (goodIn_of _ (by decide +kernel)) ggX9_readsPart_X9_isHere
set_option maxRecDepth 20000 in
theorem ggX9_readsPart_X9_readsNumber : GoodIn wsX9_readsPart wsX9_readsNumber := goodIn_r _ [24, 1, 7, 8, 9, 25, 26, 27, 5, 28, 14, 15, 16, 29, 30, 31, 32, 33] rfl (by decide +kernel)
set_option maxRecDepth 20000 in
theorem gX9_readsPart_X9_readsNumber : GoodIn wsX9_readsPart (wsV RX9 74 RX9 yX9_readsNumber wsX9_readsNumber) := goodIn_app (goodIn_of _ (by decide +kernel)) ggX9_readsPart_X9_readsNumber
theorem dX9_readsPart_0 : decode cX9_readsPart 0 = .ok (.iload_n 2, 1) := by decide +kernel
theorem dX9_readsPart_1 : decode cX9_readsPart 1 = .ok (.bipush 97, 2) := by decide +kernel
theorem dX9_readsPart_3 : decode cX9_readsPart 3 = .ok (.if_icmp .ne 9, 3) := by decide +kernel
theorem dX9_readsPart_6 : decode cX9_readsPart 6 = .ok (.aload_n 0, 1) := by decide +kernel
theorem dX9_readsPart_7 : decode cX9_readsPart 7 = .ok (.iload_n 1, 1) := by decide +kernel
theorem dX9_readsPart_8 : decode cX9_readsPart 8 = .ok (.invokevirtual 70, 3) := by decide +kernel
theorem dX9_readsPart_11 : decode cX9_readsPart 11 = .ok (.ireturn, 1) := by decide +kernel
theorem dX9_readsPart_12 : decode cX9_readsPart 12 = .ok (.iload_n 2, 1) := by decide +kernel
theorem dX9_readsPart_13 : decode cX9_readsPart 13 = .ok (.bipush 45, 2) := by decide +kernel
theorem dX9_readsPart_15 : decode cX9_readsPart 15 = .ok (.if_icmp .ne 16, 3) := by decide +kernel
theorem dX9_readsPart_18 : decode cX9_readsPart 18 = .ok (.aload_n 0, 1) := by decide +kernel
theorem dX9_readsPart_19 : decode cX9_readsPart 19 = .ok (.bipush 45, 2) := by decide +kernel
theorem dX9_readsPart_21 : decode cX9_readsPart 21 = .ok (.invokevirtual 36, 3) := by decide +kernel
theorem dX9_readsPart_24 : decode cX9_readsPart 24 = .ok (.ifCond .eq 7, 3) := by decide +kernel
theorem dX9_readsPart_27 : decode cX9_readsPart 27 = .ok (.iconst 1, 1) := by decide +kernel
theorem dX9_readsPart_28 : decode cX9_readsPart 28 = .ok (.goto 4, 3) := by decide +kernel
theorem dX9_readsPart_31 : decode cX9_readsPart 31 = .ok (.iconst 0, 1) := by decide +kernel
theorem dX9_readsPart_32 : decode cX9_readsPart 32 = .ok (.istore_n 3, 1) := by decide +kernel
theorem dX9_readsPart_33 : decode cX9_readsPart 33 = .ok (.iload_n 3, 1) := by decide +kernel
theorem dX9_readsPart_34 : decode cX9_readsPart 34 = .ok (.ifCond .eq 13, 3) := by decide +kernel
theorem dX9_readsPart_37 : decode cX9_readsPart 37 = .ok (.aload_n 0, 1) := by decide +kernel
theorem dX9_readsPart_38 : decode cX9_readsPart 38 = .ok (.dup, 1) := by decide +kernel
theorem dX9_readsPart_39 : decode cX9_readsPart 39 = .ok (.getfield 19, 3) := by decide +kernel
theorem dX9_readsPart_42 : decode cX9_readsPart 42 = .ok (.iconst 1, 1) := by decide +kernel
theorem dX9_readsPart_43 : decode cX9_readsPart 43 = .ok (.iadd, 1) := by decide +kernel
theorem dX9_readsPart_44 : decode cX9_readsPart 44 = .ok (.putfield 19, 3) := by decide +kernel
theorem dX9_readsPart_47 : decode cX9_readsPart 47 = .ok (.aload_n 0, 1) := by decide +kernel
theorem dX9_readsPart_48 : decode cX9_readsPart 48 = .ok (.iload_n 1, 1) := by decide +kernel
theorem dX9_readsPart_49 : decode cX9_readsPart 49 = .ok (.iload_n 3, 1) := by decide +kernel
theorem dX9_readsPart_50 : decode cX9_readsPart 50 = .ok (.ifCond .eq 7, 3) := by decide +kernel
theorem dX9_readsPart_53 : decode cX9_readsPart 53 = .ok (.iconst (-1), 1) := by decide +kernel
theorem dX9_readsPart_54 : decode cX9_readsPart 54 = .ok (.goto 4, 3) := by decide +kernel
theorem dX9_readsPart_57 : decode cX9_readsPart 57 = .ok (.iconst 1, 1) := by decide +kernel
theorem dX9_readsPart_58 : decode cX9_readsPart 58 = .ok (.invokevirtual 74, 3) := by decide +kernel
theorem dX9_readsPart_61 : decode cX9_readsPart 61 = .ok (.ireturn, 1) := by decide +kernel
set_option maxRecDepth 20000 in
theorem ggX9_readsName_X9_isLetterHere : GoodIn wsX9_readsName wsX9_isLetterHere := goodIn_r _ [9, 1, 2, 3, 10, 11, 12, 13, 14, 15, 16, 17] rfl (by decide +kernel)
set_option maxRecDepth 20000 in
theorem gX9_readsName_X9_isLetterHere : GoodIn wsX9_readsName (wsV RX9 60 RX9 yX9_isLetterHere wsX9_isLetterHere) := goodIn_app (goodIn_of _ (by decide +kernel)) ggX9_readsName_X9_isLetterHere
theorem dX9_readsName_0 : decode cX9_readsName 0 = .ok (.iconst 0, 1) := by decide +kernel
theorem dX9_readsName_1 : decode cX9_readsName 1 = .ok (.istore_n 2, 1) := by decide +kernel
theorem dX9_readsName_2 : decode cX9_readsName 2 = .ok (.iconst 0, 1) := by decide +kernel
theorem dX9_readsName_3 : decode cX9_readsName 3 = .ok (.istore_n 3, 1) := by decide +kernel
theorem dX9_readsName_4 : decode cX9_readsName 4 = .ok (.aload_n 0, 1) := by decide +kernel
theorem dX9_readsName_5 : decode cX9_readsName 5 = .ok (.getfield 19, 3) := by decide +kernel
theorem dX9_readsName_8 : decode cX9_readsName 8 = .ok (.aload_n 0, 1) := by decide +kernel
theorem dX9_readsName_9 : decode cX9_readsName 9 = .ok (.getfield 9, 3) := by decide +kernel
theorem dX9_readsName_12 : decode cX9_readsName 12 = .ok (.if_icmp .ge 53, 3) := by decide +kernel
theorem dX9_readsName_15 : decode cX9_readsName 15 = .ok (.aload_n 0, 1) := by decide +kernel
theorem dX9_readsName_16 : decode cX9_readsName 16 = .ok (.invokevirtual 60, 3) := by decide +kernel
theorem dX9_readsName_19 : decode cX9_readsName 19 = .ok (.ifCond .eq 46, 3) := by decide +kernel
theorem dX9_readsName_22 : decode cX9_readsName 22 = .ok (.iload_n 3, 1) := by decide +kernel
theorem dX9_readsName_23 : decode cX9_readsName 23 = .ok (.iconst 4, 1) := by decide +kernel
theorem dX9_readsName_24 : decode cX9_readsName 24 = .ok (.if_icmp .ne 5, 3) := by decide +kernel
theorem dX9_readsName_27 : decode cX9_readsName 27 = .ok (.iconst 0, 1) := by decide +kernel
theorem dX9_readsName_28 : decode cX9_readsName 28 = .ok (.ireturn, 1) := by decide +kernel
theorem dX9_readsName_29 : decode cX9_readsName 29 = .ok (.iload_n 2, 1) := by decide +kernel
theorem dX9_readsName_30 : decode cX9_readsName 30 = .ok (.bipush 27, 2) := by decide +kernel
theorem dX9_readsName_32 : decode cX9_readsName 32 = .ok (.imul, 1) := by decide +kernel
theorem dX9_readsName_33 : decode cX9_readsName 33 = .ok (.aload_n 0, 1) := by decide +kernel
theorem dX9_readsName_34 : decode cX9_readsName 34 = .ok (.getfield 15, 3) := by decide +kernel
theorem dX9_readsName_37 : decode cX9_readsName 37 = .ok (.aload_n 0, 1) := by decide +kernel
theorem dX9_readsName_38 : decode cX9_readsName 38 = .ok (.getfield 19, 3) := by decide +kernel
theorem dX9_readsName_41 : decode cX9_readsName 41 = .ok (.baload, 1) := by decide +kernel
theorem dX9_readsName_42 : decode cX9_readsName 42 = .ok (.iadd, 1) := by decide +kernel
theorem dX9_readsName_43 : decode cX9_readsName 43 = .ok (.bipush 97, 2) := by decide +kernel
theorem dX9_readsName_45 : decode cX9_readsName 45 = .ok (.isub, 1) := by decide +kernel
theorem dX9_readsName_46 : decode cX9_readsName 46 = .ok (.iconst 1, 1) := by decide +kernel
theorem dX9_readsName_47 : decode cX9_readsName 47 = .ok (.iadd, 1) := by decide +kernel
theorem dX9_readsName_48 : decode cX9_readsName 48 = .ok (.istore_n 2, 1) := by decide +kernel
theorem dX9_readsName_49 : decode cX9_readsName 49 = .ok (.iinc 3 1, 3) := by decide +kernel
theorem dX9_readsName_52 : decode cX9_readsName 52 = .ok (.aload_n 0, 1) := by decide +kernel
theorem dX9_readsName_53 : decode cX9_readsName 53 = .ok (.dup, 1) := by decide +kernel
theorem dX9_readsName_54 : decode cX9_readsName 54 = .ok (.getfield 19, 3) := by decide +kernel
theorem dX9_readsName_57 : decode cX9_readsName 57 = .ok (.iconst 1, 1) := by decide +kernel
theorem dX9_readsName_58 : decode cX9_readsName 58 = .ok (.iadd, 1) := by decide +kernel
theorem dX9_readsName_59 : decode cX9_readsName 59 = .ok (.putfield 19, 3) := by decide +kernel
theorem dX9_readsName_62 : decode cX9_readsName 62 = .ok (.goto (-58), 3) := by decide +kernel
theorem dX9_readsName_65 : decode cX9_readsName 65 = .ok (.aload_n 0, 1) := by decide +kernel
theorem dX9_readsName_66 : decode cX9_readsName 66 = .ok (.getfield 25, 3) := by decide +kernel
theorem dX9_readsName_69 : decode cX9_readsName 69 = .ok (.iload_n 1, 1) := by decide +kernel
theorem dX9_readsName_70 : decode cX9_readsName 70 = .ok (.iload_n 2, 1) := by decide +kernel
theorem dX9_readsName_71 : decode cX9_readsName 71 = .ok (.iastore, 1) := by decide +kernel
theorem dX9_readsName_72 : decode cX9_readsName 72 = .ok (.iload_n 3, 1) := by decide +kernel
theorem dX9_readsName_73 : decode cX9_readsName 73 = .ok (.ifCond .le 7, 3) := by decide +kernel
theorem dX9_readsName_76 : decode cX9_readsName 76 = .ok (.iconst 1, 1) := by decide +kernel
theorem dX9_readsName_77 : decode cX9_readsName 77 = .ok (.goto 4, 3) := by decide +kernel
theorem dX9_readsName_80 : decode cX9_readsName 80 = .ok (.iconst 0, 1) := by decide +kernel
theorem dX9_readsName_81 : decode cX9_readsName 81 = .ok (.ireturn, 1) := by decide +kernel
set_option maxRecDepth 20000 in
theorem ggX9_readsNumber_X9_isFigureHere : GoodIn wsX9_readsNumber wsX9_isFigureHere := goodIn_r _ [9, 1, 2, 3, 10, 11, 12, 13, 14, 15, 16, 17] rfl (by decide +kernel)
set_option maxRecDepth 20000 in
theorem gX9_readsNumber_X9_isFigureHere : GoodIn wsX9_readsNumber (wsV RX9 78 RX9 yX9_isFigureHere wsX9_isFigureHere) := goodIn_app (goodIn_of _ (by decide +kernel)) ggX9_readsNumber_X9_isFigureHere
theorem dX9_readsNumber_0 : decode cX9_readsNumber 0 = .ok (.iconst 0, 1) := by decide +kernel
theorem dX9_readsNumber_1 : decode cX9_readsNumber 1 = .ok (.istore_n 3, 1) := by decide +kernel
theorem dX9_readsNumber_2 : decode cX9_readsNumber 2 = .ok (.iconst 0, 1) := by decide +kernel
theorem dX9_readsNumber_3 : decode cX9_readsNumber 3 = .ok (.istore 4, 2) := by decide +kernel
theorem dX9_readsNumber_5 : decode cX9_readsNumber 5 = .ok (.aload_n 0, 1) := by decide +kernel
theorem dX9_readsNumber_6 : decode cX9_readsNumber 6 = .ok (.getfield 19, 3) := by decide +kernel
theorem dX9_readsNumber_9 : decode cX9_readsNumber 9 = .ok (.aload_n 0, 1) := by decide +kernel
theorem dX9_readsNumber_10 : decode cX9_readsNumber 10 = .ok (.getfield 9, 3) := by decide +kernel
theorem dX9_readsNumber_13 : decode cX9_readsNumber 13 = .ok (.if_icmp .ge 52, 3) := by decide +kernel
theorem dX9_readsNumber_16 : decode cX9_readsNumber 16 = .ok (.aload_n 0, 1) := by decide +kernel
theorem dX9_readsNumber_17 : decode cX9_readsNumber 17 = .ok (.invokevirtual 78, 3) := by decide +kernel
theorem dX9_readsNumber_20 : decode cX9_readsNumber 20 = .ok (.ifCond .eq 45, 3) := by decide +kernel
theorem dX9_readsNumber_23 : decode cX9_readsNumber 23 = .ok (.iload 4, 2) := by decide +kernel
theorem dX9_readsNumber_25 : decode cX9_readsNumber 25 = .ok (.iconst 3, 1) := by decide +kernel
theorem dX9_readsNumber_26 : decode cX9_readsNumber 26 = .ok (.if_icmp .ne 5, 3) := by decide +kernel
theorem dX9_readsNumber_29 : decode cX9_readsNumber 29 = .ok (.iconst 0, 1) := by decide +kernel
theorem dX9_readsNumber_30 : decode cX9_readsNumber 30 = .ok (.ireturn, 1) := by decide +kernel
theorem dX9_readsNumber_31 : decode cX9_readsNumber 31 = .ok (.iload_n 3, 1) := by decide +kernel
theorem dX9_readsNumber_32 : decode cX9_readsNumber 32 = .ok (.bipush 10, 2) := by decide +kernel
theorem dX9_readsNumber_34 : decode cX9_readsNumber 34 = .ok (.imul, 1) := by decide +kernel
theorem dX9_readsNumber_35 : decode cX9_readsNumber 35 = .ok (.aload_n 0, 1) := by decide +kernel
theorem dX9_readsNumber_36 : decode cX9_readsNumber 36 = .ok (.getfield 15, 3) := by decide +kernel
theorem dX9_readsNumber_39 : decode cX9_readsNumber 39 = .ok (.aload_n 0, 1) := by decide +kernel
theorem dX9_readsNumber_40 : decode cX9_readsNumber 40 = .ok (.getfield 19, 3) := by decide +kernel
theorem dX9_readsNumber_43 : decode cX9_readsNumber 43 = .ok (.baload, 1) := by decide +kernel
theorem dX9_readsNumber_44 : decode cX9_readsNumber 44 = .ok (.iadd, 1) := by decide +kernel
theorem dX9_readsNumber_45 : decode cX9_readsNumber 45 = .ok (.bipush 48, 2) := by decide +kernel
theorem dX9_readsNumber_47 : decode cX9_readsNumber 47 = .ok (.isub, 1) := by decide +kernel
theorem dX9_readsNumber_48 : decode cX9_readsNumber 48 = .ok (.istore_n 3, 1) := by decide +kernel
theorem dX9_readsNumber_49 : decode cX9_readsNumber 49 = .ok (.iinc 4 1, 3) := by decide +kernel
theorem dX9_readsNumber_52 : decode cX9_readsNumber 52 = .ok (.aload_n 0, 1) := by decide +kernel
theorem dX9_readsNumber_53 : decode cX9_readsNumber 53 = .ok (.dup, 1) := by decide +kernel
theorem dX9_readsNumber_54 : decode cX9_readsNumber 54 = .ok (.getfield 19, 3) := by decide +kernel
theorem dX9_readsNumber_57 : decode cX9_readsNumber 57 = .ok (.iconst 1, 1) := by decide +kernel
theorem dX9_readsNumber_58 : decode cX9_readsNumber 58 = .ok (.iadd, 1) := by decide +kernel
theorem dX9_readsNumber_59 : decode cX9_readsNumber 59 = .ok (.putfield 19, 3) := by decide +kernel
theorem dX9_readsNumber_62 : decode cX9_readsNumber 62 = .ok (.goto (-57), 3) := by decide +kernel
theorem dX9_readsNumber_65 : decode cX9_readsNumber 65 = .ok (.aload_n 0, 1) := by decide +kernel
theorem dX9_readsNumber_66 : decode cX9_readsNumber 66 = .ok (.getfield 25, 3) := by decide +kernel
theorem dX9_readsNumber_69 : decode cX9_readsNumber 69 = .ok (.iload_n 1, 1) := by decide +kernel
theorem dX9_readsNumber_70 : decode cX9_readsNumber 70 = .ok (.iload_n 2, 1) := by decide +kernel
theorem dX9_readsNumber_71 : decode cX9_readsNumber 71 = .ok (.iload_n 3, 1) := by decide +kernel
theorem dX9_readsNumber_72 : decode cX9_readsNumber 72 = .ok (.imul, 1) := by decide +kernel
theorem dX9_readsNumber_73 : decode cX9_readsNumber 73 = .ok (.iastore, 1) := by decide +kernel
theorem dX9_readsNumber_74 : decode cX9_readsNumber 74 = .ok (.iload 4, 2) := by decide +kernel
theorem dX9_readsNumber_76 : decode cX9_readsNumber 76 = .ok (.ifCond .le 7, 3) := by decide +kernel
theorem dX9_readsNumber_79 : decode cX9_readsNumber 79 = .ok (.iconst 1, 1) := by decide +kernel
theorem dX9_readsNumber_80 : decode cX9_readsNumber 80 = .ok (.goto 4, 3) := by decide +kernel
theorem dX9_readsNumber_83 : decode cX9_readsNumber 83 = .ok (.iconst 0, 1) := by decide +kernel
theorem dX9_readsNumber_84 : decode cX9_readsNumber 84 = .ok (.ireturn, 1) := by decide +kernel
set_option maxRecDepth 20000 in
theorem ggX9_isHere_X11_isWithin : GoodIn wsX9_isHere wsX11_isWithin := goodIn_r _ [6] rfl (by decide +kernel)
set_option maxRecDepth 20000 in
theorem gX9_isHere_X11_isWithin_n81 : GoodIn wsX9_isHere (wsX11_isWithin) := ggX9_isHere_X11_isWithin
theorem dX9_isHere_0 : decode cX9_isHere 0 = .ok (.aload_n 0, 1) := by decide +kernel
theorem dX9_isHere_1 : decode cX9_isHere 1 = .ok (.getfield 19, 3) := by decide +kernel
theorem dX9_isHere_4 : decode cX9_isHere 4 = .ok (.iconst 0, 1) := by decide +kernel
theorem dX9_isHere_5 : decode cX9_isHere 5 = .ok (.aload_n 0, 1) := by decide +kernel
theorem dX9_isHere_6 : decode cX9_isHere 6 = .ok (.getfield 9, 3) := by decide +kernel
theorem dX9_isHere_9 : decode cX9_isHere 9 = .ok (.iconst 1, 1) := by decide +kernel
theorem dX9_isHere_10 : decode cX9_isHere 10 = .ok (.isub, 1) := by decide +kernel
theorem dX9_isHere_11 : decode cX9_isHere 11 = .ok (.invokestatic 81, 3) := by decide +kernel
theorem dX9_isHere_14 : decode cX9_isHere 14 = .ok (.ifCond .eq 20, 3) := by decide +kernel
theorem dX9_isHere_17 : decode cX9_isHere 17 = .ok (.aload_n 0, 1) := by decide +kernel
theorem dX9_isHere_18 : decode cX9_isHere 18 = .ok (.getfield 15, 3) := by decide +kernel
theorem dX9_isHere_21 : decode cX9_isHere 21 = .ok (.aload_n 0, 1) := by decide +kernel
theorem dX9_isHere_22 : decode cX9_isHere 22 = .ok (.getfield 19, 3) := by decide +kernel
theorem dX9_isHere_25 : decode cX9_isHere 25 = .ok (.baload, 1) := by decide +kernel
theorem dX9_isHere_26 : decode cX9_isHere 26 = .ok (.iload_n 1, 1) := by decide +kernel
theorem dX9_isHere_27 : decode cX9_isHere 27 = .ok (.if_icmp .ne 7, 3) := by decide +kernel
theorem dX9_isHere_30 : decode cX9_isHere 30 = .ok (.iconst 1, 1) := by decide +kernel
theorem dX9_isHere_31 : decode cX9_isHere 31 = .ok (.goto 4, 3) := by decide +kernel
theorem dX9_isHere_34 : decode cX9_isHere 34 = .ok (.iconst 0, 1) := by decide +kernel
theorem dX9_isHere_35 : decode cX9_isHere 35 = .ok (.ireturn, 1) := by decide +kernel
set_option maxRecDepth 20000 in
theorem ggX9_isLetterHere_X11_isWithin : GoodIn wsX9_isLetterHere wsX11_isWithin := goodIn_r _ [6] rfl (by decide +kernel)
set_option maxRecDepth 20000 in
theorem gX9_isLetterHere_X11_isWithin_n81 : GoodIn wsX9_isLetterHere (wsX11_isWithin) := ggX9_isLetterHere_X11_isWithin
theorem dX9_isLetterHere_0 : decode cX9_isLetterHere 0 = .ok (.aload_n 0, 1) := by decide +kernel
theorem dX9_isLetterHere_1 : decode cX9_isLetterHere 1 = .ok (.getfield 19, 3) := by decide +kernel
theorem dX9_isLetterHere_4 : decode cX9_isLetterHere 4 = .ok (.iconst 0, 1) := by decide +kernel
theorem dX9_isLetterHere_5 : decode cX9_isLetterHere 5 = .ok (.aload_n 0, 1) := by decide +kernel
theorem dX9_isLetterHere_6 : decode cX9_isLetterHere 6 = .ok (.getfield 9, 3) := by decide +kernel
theorem dX9_isLetterHere_9 : decode cX9_isLetterHere 9 = .ok (.iconst 1, 1) := by decide +kernel
theorem dX9_isLetterHere_10 : decode cX9_isLetterHere 10 = .ok (.isub, 1) := by decide +kernel
theorem dX9_isLetterHere_11 : decode cX9_isLetterHere 11 = .ok (.invokestatic 81, 3) := by decide +kernel
theorem dX9_isLetterHere_14 : decode cX9_isLetterHere 14 = .ok (.ifCond .eq 26, 3) := by decide +kernel
theorem dX9_isLetterHere_17 : decode cX9_isLetterHere 17 = .ok (.aload_n 0, 1) := by decide +kernel
theorem dX9_isLetterHere_18 : decode cX9_isLetterHere 18 = .ok (.getfield 15, 3) := by decide +kernel
theorem dX9_isLetterHere_21 : decode cX9_isLetterHere 21 = .ok (.aload_n 0, 1) := by decide +kernel
theorem dX9_isLetterHere_22 : decode cX9_isLetterHere 22 = .ok (.getfield 19, 3) := by decide +kernel
theorem dX9_isLetterHere_25 : decode cX9_isLetterHere 25 = .ok (.baload, 1) := by decide +kernel
theorem dX9_isLetterHere_26 : decode cX9_isLetterHere 26 = .ok (.bipush 97, 2) := by decide +kernel
theorem dX9_isLetterHere_28 : decode cX9_isLetterHere 28 = .ok (.bipush 122, 2) := by decide +kernel
theorem dX9_isLetterHere_30 : decode cX9_isLetterHere 30 = .ok (.invokestatic 81, 3) := by decide +kernel
theorem dX9_isLetterHere_33 : decode cX9_isLetterHere 33 = .ok (.ifCond .eq 7, 3) := by decide +kernel
theorem dX9_isLetterHere_36 : decode cX9_isLetterHere 36 = .ok (.iconst 1, 1) := by decide +kernel
theorem dX9_isLetterHere_37 : decode cX9_isLetterHere 37 = .ok (.goto 4, 3) := by decide +kernel
theorem dX9_isLetterHere_40 : decode cX9_isLetterHere 40 = .ok (.iconst 0, 1) := by decide +kernel
theorem dX9_isLetterHere_41 : decode cX9_isLetterHere 41 = .ok (.ireturn, 1) := by decide +kernel
set_option maxRecDepth 20000 in
theorem ggX9_isFigureHere_X11_isWithin : GoodIn wsX9_isFigureHere wsX11_isWithin := goodIn_r _ [6] rfl (by decide +kernel)
set_option maxRecDepth 20000 in
theorem gX9_isFigureHere_X11_isWithin_n81 : GoodIn wsX9_isFigureHere (wsX11_isWithin) := ggX9_isFigureHere_X11_isWithin
theorem dX9_isFigureHere_0 : decode cX9_isFigureHere 0 = .ok (.aload_n 0, 1) := by decide +kernel
theorem dX9_isFigureHere_1 : decode cX9_isFigureHere 1 = .ok (.getfield 19, 3) := by decide +kernel
theorem dX9_isFigureHere_4 : decode cX9_isFigureHere 4 = .ok (.iconst 0, 1) := by decide +kernel
theorem dX9_isFigureHere_5 : decode cX9_isFigureHere 5 = .ok (.aload_n 0, 1) := by decide +kernel
theorem dX9_isFigureHere_6 : decode cX9_isFigureHere 6 = .ok (.getfield 9, 3) := by decide +kernel
theorem dX9_isFigureHere_9 : decode cX9_isFigureHere 9 = .ok (.iconst 1, 1) := by decide +kernel
theorem dX9_isFigureHere_10 : decode cX9_isFigureHere 10 = .ok (.isub, 1) := by decide +kernel
theorem dX9_isFigureHere_11 : decode cX9_isFigureHere 11 = .ok (.invokestatic 81, 3) := by decide +kernel
theorem dX9_isFigureHere_14 : decode cX9_isFigureHere 14 = .ok (.ifCond .eq 26, 3) := by decide +kernel
theorem dX9_isFigureHere_17 : decode cX9_isFigureHere 17 = .ok (.aload_n 0, 1) := by decide +kernel
theorem dX9_isFigureHere_18 : decode cX9_isFigureHere 18 = .ok (.getfield 15, 3) := by decide +kernel
theorem dX9_isFigureHere_21 : decode cX9_isFigureHere 21 = .ok (.aload_n 0, 1) := by decide +kernel
theorem dX9_isFigureHere_22 : decode cX9_isFigureHere 22 = .ok (.getfield 19, 3) := by decide +kernel
theorem dX9_isFigureHere_25 : decode cX9_isFigureHere 25 = .ok (.baload, 1) := by decide +kernel
theorem dX9_isFigureHere_26 : decode cX9_isFigureHere 26 = .ok (.bipush 48, 2) := by decide +kernel
theorem dX9_isFigureHere_28 : decode cX9_isFigureHere 28 = .ok (.bipush 57, 2) := by decide +kernel
theorem dX9_isFigureHere_30 : decode cX9_isFigureHere 30 = .ok (.invokestatic 81, 3) := by decide +kernel
theorem dX9_isFigureHere_33 : decode cX9_isFigureHere 33 = .ok (.ifCond .eq 7, 3) := by decide +kernel
theorem dX9_isFigureHere_36 : decode cX9_isFigureHere 36 = .ok (.iconst 1, 1) := by decide +kernel
theorem dX9_isFigureHere_37 : decode cX9_isFigureHere 37 = .ok (.goto 4, 3) := by decide +kernel
theorem dX9_isFigureHere_40 : decode cX9_isFigureHere 40 = .ok (.iconst 0, 1) := by decide +kernel
theorem dX9_isFigureHere_41 : decode cX9_isFigureHere 41 = .ok (.ireturn, 1) := by decide +kernel
theorem dX9_wordOf_0 : decode cX9_wordOf 0 = .ok (.iload_n 0, 1) := by decide +kernel
theorem dX9_wordOf_1 : decode cX9_wordOf 1 = .ok (.tableswitch 43 0 3 #[31, 34, 37, 40], 31) := by decide +kernel
theorem dX9_wordOf_32 : decode cX9_wordOf 32 = .ok (.ldc 85, 2) := by decide +kernel
theorem dX9_wordOf_34 : decode cX9_wordOf 34 = .ok (.areturn, 1) := by decide +kernel
theorem dX9_wordOf_35 : decode cX9_wordOf 35 = .ok (.ldc 87, 2) := by decide +kernel
theorem dX9_wordOf_37 : decode cX9_wordOf 37 = .ok (.areturn, 1) := by decide +kernel
theorem dX9_wordOf_38 : decode cX9_wordOf 38 = .ok (.ldc 89, 2) := by decide +kernel
theorem dX9_wordOf_40 : decode cX9_wordOf 40 = .ok (.areturn, 1) := by decide +kernel
theorem dX9_wordOf_41 : decode cX9_wordOf 41 = .ok (.ldc 91, 2) := by decide +kernel
theorem dX9_wordOf_43 : decode cX9_wordOf 43 = .ok (.areturn, 1) := by decide +kernel
theorem dX9_wordOf_44 : decode cX9_wordOf 44 = .ok (.ldc 93, 2) := by decide +kernel
theorem dX9_wordOf_46 : decode cX9_wordOf 46 = .ok (.areturn, 1) := by decide +kernel
theorem dX9_shapeOf_0 : decode cX9_shapeOf 0 = .ok (.iload_n 0, 1) := by decide +kernel
theorem dX9_shapeOf_1 : decode cX9_shapeOf 1 = .ok (.tableswitch 43 0 3 #[31, 34, 37, 40], 31) := by decide +kernel
theorem dX9_shapeOf_32 : decode cX9_shapeOf 32 = .ok (.ldc 95, 2) := by decide +kernel
theorem dX9_shapeOf_34 : decode cX9_shapeOf 34 = .ok (.areturn, 1) := by decide +kernel
theorem dX9_shapeOf_35 : decode cX9_shapeOf 35 = .ok (.ldc 97, 2) := by decide +kernel
theorem dX9_shapeOf_37 : decode cX9_shapeOf 37 = .ok (.areturn, 1) := by decide +kernel
theorem dX9_shapeOf_38 : decode cX9_shapeOf 38 = .ok (.ldc 99, 2) := by decide +kernel
theorem dX9_shapeOf_40 : decode cX9_shapeOf 40 = .ok (.areturn, 1) := by decide +kernel
theorem dX9_shapeOf_41 : decode cX9_shapeOf 41 = .ok (.ldc 101, 2) := by decide +kernel
theorem dX9_shapeOf_43 : decode cX9_shapeOf 43 = .ok (.areturn, 1) := by decide +kernel
theorem dX9_shapeOf_44 : decode cX9_shapeOf 44 = .ok (.ldc 103, 2) := by decide +kernel
theorem dX9_shapeOf_46 : decode cX9_shapeOf 46 = .ok (.areturn, 1) := by decide +kernel
theorem dX10_init_0 : decode cX10_init 0 = .ok (.aload_n 0, 1) := by decide +kernel
theorem dX10_init_1 : decode cX10_init 1 = .ok (.invokespecial 3, 3) := by decide +kernel
theorem dX10_init_4 : decode cX10_init 4 = .ok (.aload_n 0, 1) := by decide +kernel
theorem dX10_init_5 : decode cX10_init 5 = .ok (.iconst 0, 1) := by decide +kernel
theorem dX10_init_6 : decode cX10_init 6 = .ok (.putfield 9, 3) := by decide +kernel
theorem dX10_init_9 : decode cX10_init 9 = .ok (.aload_n 0, 1) := by decide +kernel
theorem dX10_init_10 : decode cX10_init 10 = .ok (.iconst 0, 1) := by decide +kernel
theorem dX10_init_11 : decode cX10_init 11 = .ok (.putfield 15, 3) := by decide +kernel
theorem dX10_init_14 : decode cX10_init 14 = .ok (.aload_n 0, 1) := by decide +kernel
theorem dX10_init_15 : decode cX10_init 15 = .ok (.iconst 0, 1) := by decide +kernel
theorem dX10_init_16 : decode cX10_init 16 = .ok (.putfield 18, 3) := by decide +kernel
theorem dX10_init_19 : decode cX10_init 19 = .ok (.return_, 1) := by decide +kernel
set_option maxRecDepth 20000 in
theorem ggX10_find_X0_allWeight : GoodIn wsX10_find wsX0_allWeight := goodIn_r _ [14, 15, 16, 17, 18, 19, 20, 21, 22, 23, 13, 24, 25, 26, 27, 28, 29, 30, 31, 82, 83, 84, 85, 86, 87, 88, 89, 90, 91, 92, 93, 94, 95, 96, 97, 98, 99, 100, 101] rfl (by decide +kernel)
set_option maxRecDepth 20000 in
theorem gX10_find_X0_allWeight : GoodIn wsX10_find (wsV RX10 21 RX0 yX0_allWeight wsX0_allWeight) := goodIn_app (goodIn_of _ (by decide +kernel)) ggX10_find_X0_allWeight
set_option maxRecDepth 20000 in
theorem ggX10_find_X0_offOf : GoodIn wsX10_find wsX0_offOf := goodIn_r _ [35, 15, 36, 37, 11, 12, 13, 14, 16, 17, 18, 19, 20, 21, 22, 23, 24, 25, 26, 27, 28, 29, 30, 31, 38, 39, 40, 41, 42, 43, 44, 3, 4, 5, 45, 46, 47, 48, 49, 50, 51, 52, 53, 54, 55, 56, 57, 58, 59, 60, 61, 62, 63, 64, 65, 66, 67, 68, 69, 70, 71, 72, 73, 74, 75, 76, 77, 82, 83, 84, 85, 86, 87, 88, 89, 90, 91, 92, 93, 94, 95, 96, 97, 98, 99, 100, 101] rfl (by decide +kernel)
set_option maxRecDepth 20000 in
theorem gX10_find_X0_offOf : GoodIn wsX10_find (wsV RX10 27 RX0 yX0_offOf wsX0_offOf) := goodIn_app (goodIn_of _ (by decide +kernel)) ggX10_find_X0_offOf
set_option maxRecDepth 20000 in
theorem ggX10_find_X2_startOf : GoodIn wsX10_find wsX2_startOf := goodIn_r _ [42, 43, 44, 3, 4, 5, 45, 46, 47, 41, 48, 49, 50, 51, 52, 53, 54, 55, 56, 57, 58, 59, 60, 61, 62, 63, 64, 65, 66, 85, 86, 87, 88, 89, 90] rfl (by decide +kernel)
set_option maxRecDepth 20000 in
theorem gX10_find_X2_startOf : GoodIn wsX10_find (wsV RX10 41 RX2 yX2_startOf wsX2_startOf) := goodIn_app (goodIn_of _ (by decide +kernel)) ggX10_find_X2_startOf
theorem dX10_find_0 : decode cX10_find 0 = .ok (.aload_n 1, 1) := by decide +kernel
theorem dX10_find_1 : decode cX10_find 1 = .ok (.invokevirtual 21, 3) := by decide +kernel
theorem dX10_find_4 : decode cX10_find 4 = .ok (.istore_n 2, 1) := by decide +kernel
theorem dX10_find_5 : decode cX10_find 5 = .ok (.iconst 0, 1) := by decide +kernel
theorem dX10_find_6 : decode cX10_find 6 = .ok (.istore_n 3, 1) := by decide +kernel
theorem dX10_find_7 : decode cX10_find 7 = .ok (.iconst 0, 1) := by decide +kernel
theorem dX10_find_8 : decode cX10_find 8 = .ok (.istore 4, 2) := by decide +kernel
theorem dX10_find_10 : decode cX10_find 10 = .ok (.iload 4, 2) := by decide +kernel
theorem dX10_find_12 : decode cX10_find 12 = .ok (.bipush 40, 2) := by decide +kernel
theorem dX10_find_14 : decode cX10_find 14 = .ok (.if_icmp .gt 94, 3) := by decide +kernel
theorem dX10_find_17 : decode cX10_find 17 = .ok (.iload 4, 2) := by decide +kernel
theorem dX10_find_19 : decode cX10_find 19 = .ok (.iconst 2, 1) := by decide +kernel
theorem dX10_find_20 : decode cX10_find 20 = .ok (.irem, 1) := by decide +kernel
theorem dX10_find_21 : decode cX10_find 21 = .ok (.ifCond .ne 10, 3) := by decide +kernel
theorem dX10_find_24 : decode cX10_find 24 = .ok (.iload 4, 2) := by decide +kernel
theorem dX10_find_26 : decode cX10_find 26 = .ok (.iconst 2, 1) := by decide +kernel
theorem dX10_find_27 : decode cX10_find 27 = .ok (.idiv, 1) := by decide +kernel
theorem dX10_find_28 : decode cX10_find 28 = .ok (.goto 10, 3) := by decide +kernel
theorem dX10_find_31 : decode cX10_find 31 = .ok (.iload 4, 2) := by decide +kernel
theorem dX10_find_33 : decode cX10_find 33 = .ok (.iconst 2, 1) := by decide +kernel
theorem dX10_find_34 : decode cX10_find 34 = .ok (.idiv, 1) := by decide +kernel
theorem dX10_find_35 : decode cX10_find 35 = .ok (.ineg, 1) := by decide +kernel
theorem dX10_find_36 : decode cX10_find 36 = .ok (.iconst 1, 1) := by decide +kernel
theorem dX10_find_37 : decode cX10_find 37 = .ok (.isub, 1) := by decide +kernel
theorem dX10_find_38 : decode cX10_find 38 = .ok (.istore 5, 2) := by decide +kernel
theorem dX10_find_40 : decode cX10_find 40 = .ok (.aload_n 1, 1) := by decide +kernel
theorem dX10_find_41 : decode cX10_find 41 = .ok (.iload 5, 2) := by decide +kernel
theorem dX10_find_43 : decode cX10_find 43 = .ok (.invokevirtual 27, 3) := by decide +kernel
theorem dX10_find_46 : decode cX10_find 46 = .ok (.istore 6, 2) := by decide +kernel
theorem dX10_find_48 : decode cX10_find 48 = .ok (.iload 6, 2) := by decide +kernel
theorem dX10_find_50 : decode cX10_find 50 = .ok (.ldc 31, 2) := by decide +kernel
theorem dX10_find_52 : decode cX10_find 52 = .ok (.if_icmp .eq 50, 3) := by decide +kernel
theorem dX10_find_55 : decode cX10_find 55 = .ok (.iload_n 3, 1) := by decide +kernel
theorem dX10_find_56 : decode cX10_find 56 = .ok (.ifCond .eq 18, 3) := by decide +kernel
theorem dX10_find_59 : decode cX10_find 59 = .ok (.iload 6, 2) := by decide +kernel
theorem dX10_find_61 : decode cX10_find 61 = .ok (.invokestatic 32, 3) := by decide +kernel
theorem dX10_find_64 : decode cX10_find 64 = .ok (.aload_n 0, 1) := by decide +kernel
theorem dX10_find_65 : decode cX10_find 65 = .ok (.getfield 18, 3) := by decide +kernel
theorem dX10_find_68 : decode cX10_find 68 = .ok (.invokestatic 32, 3) := by decide +kernel
theorem dX10_find_71 : decode cX10_find 71 = .ok (.if_icmp .ge 31, 3) := by decide +kernel
theorem dX10_find_74 : decode cX10_find 74 = .ok (.iconst 1, 1) := by decide +kernel
theorem dX10_find_75 : decode cX10_find 75 = .ok (.istore_n 3, 1) := by decide +kernel
theorem dX10_find_76 : decode cX10_find 76 = .ok (.aload_n 0, 1) := by decide +kernel
theorem dX10_find_77 : decode cX10_find 77 = .ok (.iload 5, 2) := by decide +kernel
theorem dX10_find_79 : decode cX10_find 79 = .ok (.putfield 9, 3) := by decide +kernel
theorem dX10_find_82 : decode cX10_find 82 = .ok (.aload_n 0, 1) := by decide +kernel
theorem dX10_find_83 : decode cX10_find 83 = .ok (.aload_n 1, 1) := by decide +kernel
theorem dX10_find_84 : decode cX10_find 84 = .ok (.getfield 37, 3) := by decide +kernel
theorem dX10_find_87 : decode cX10_find 87 = .ok (.iload 5, 2) := by decide +kernel
theorem dX10_find_89 : decode cX10_find 89 = .ok (.iload_n 2, 1) := by decide +kernel
theorem dX10_find_90 : decode cX10_find 90 = .ok (.invokevirtual 41, 3) := by decide +kernel
theorem dX10_find_93 : decode cX10_find 93 = .ok (.putfield 15, 3) := by decide +kernel
theorem dX10_find_96 : decode cX10_find 96 = .ok (.aload_n 0, 1) := by decide +kernel
theorem dX10_find_97 : decode cX10_find 97 = .ok (.iload 6, 2) := by decide +kernel
theorem dX10_find_99 : decode cX10_find 99 = .ok (.putfield 18, 3) := by decide +kernel
theorem dX10_find_102 : decode cX10_find 102 = .ok (.iinc 4 1, 3) := by decide +kernel
theorem dX10_find_105 : decode cX10_find 105 = .ok (.goto (-95), 3) := by decide +kernel
theorem dX10_find_108 : decode cX10_find 108 = .ok (.iload_n 3, 1) := by decide +kernel
theorem dX10_find_109 : decode cX10_find 109 = .ok (.ireturn, 1) := by decide +kernel
set_option maxRecDepth 20000 in
theorem ggX11_init_X0_init : GoodIn wsX11_init wsX0_init := goodIn_r _ [39, 40, 2, 3, 41, 42, 43, 44, 45, 46, 47, 48, 49, 50, 51, 52, 53, 54, 55, 56, 57, 58, 59, 60, 61, 62, 63, 64, 65, 66, 67, 68, 69, 70, 71, 72, 73, 74, 75, 76, 77, 78, 79, 187, 188, 189, 190, 191, 192, 153, 154, 155, 193, 194, 195, 196, 197, 198, 199, 200, 201, 202, 203] rfl (by decide +kernel)
set_option maxRecDepth 20000 in
theorem gX11_init_X0_init_n11 : GoodIn wsX11_init (wsX0_init) := ggX11_init_X0_init
set_option maxRecDepth 20000 in
theorem ggX11_init_X6_init : GoodIn wsX11_init wsX6_init := goodIn_r _ [81, 82, 2, 3, 60, 83, 84, 85, 166, 167] rfl (by decide +kernel)
set_option maxRecDepth 20000 in
theorem gX11_init_X6_init_n27 : GoodIn wsX11_init (wsX6_init) := ggX11_init_X6_init
set_option maxRecDepth 20000 in
theorem ggX11_init_X9_init : GoodIn wsX11_init wsX9_init := goodIn_r _ [87, 88, 2, 3, 89, 90, 91, 92, 93, 60, 94, 168, 169, 170, 171, 172] rfl (by decide +kernel)
set_option maxRecDepth 20000 in
theorem gX11_init_X9_init_n34 : GoodIn wsX11_init (wsX9_init) := ggX11_init_X9_init
set_option maxRecDepth 20000 in
theorem ggX11_init_X4_init : GoodIn wsX11_init wsX4_init := goodIn_r _ [96, 97, 2, 3, 60, 98, 99, 173, 174] rfl (by decide +kernel)
set_option maxRecDepth 20000 in
theorem gX11_init_X4_init_n41 : GoodIn wsX11_init (wsX4_init) := ggX11_init_X4_init
set_option maxRecDepth 20000 in
theorem ggX11_init_X10_init : GoodIn wsX11_init wsX10_init := goodIn_r _ [101, 102, 2, 3, 103, 104, 105, 175, 176, 177] rfl (by decide +kernel)
set_option maxRecDepth 20000 in
theorem gX11_init_X10_init_n48 : GoodIn wsX11_init (wsX10_init) := ggX11_init_X10_init
set_option maxRecDepth 20000 in
theorem ggX11_init_X7_init : GoodIn wsX11_init wsX7_init := goodIn_r _ [107, 108, 2, 3, 109, 110, 178, 179] rfl (by decide +kernel)
set_option maxRecDepth 20000 in
theorem gX11_init_X7_init_n55 : GoodIn wsX11_init (wsX7_init) := ggX11_init_X7_init
set_option maxRecDepth 20000 in
theorem ggX11_init_X3_init : GoodIn wsX11_init wsX3_init := goodIn_r _ [112, 113, 2, 3, 60, 114, 115, 116, 117, 118, 180, 181, 182, 183, 184] rfl (by decide +kernel)
set_option maxRecDepth 20000 in
theorem gX11_init_X3_init_n62 : GoodIn wsX11_init (wsX3_init) := ggX11_init_X3_init
set_option maxRecDepth 20000 in
theorem ggX11_init_X5_init : GoodIn wsX11_init wsX5_init := goodIn_r _ [120, 121, 2, 3, 122, 123, 124, 185, 186] rfl (by decide +kernel)
set_option maxRecDepth 20000 in
theorem gX11_init_X5_init_n69 : GoodIn wsX11_init (wsX5_init) := ggX11_init_X5_init
set_option maxRecDepth 20000 in
theorem ggX11_init_X0_makeAsAtFirst : GoodIn wsX11_init wsX0_makeAsAtFirst := goodIn_r _ [128, 44, 48, 129, 52, 130, 131, 132, 43, 133, 56, 57, 58, 59, 61, 62, 134, 135, 136, 137, 138, 139, 140, 141, 142, 143, 144, 145, 146, 147, 148, 149, 150, 51, 151, 76, 77, 78, 79, 152, 153, 154, 155, 193, 194, 195, 196, 197, 198, 199, 187, 188, 189, 190, 191, 192, 200, 201, 202, 203] rfl (by decide +kernel)
set_option maxRecDepth 20000 in
theorem gX11_init_X0_makeAsAtFirst : GoodIn wsX11_init (wsV RX11 74 RX0 yX0_makeAsAtFirst wsX0_makeAsAtFirst) := goodIn_app (goodIn_of _ (by decide +kernel)) ggX11_init_X0_makeAsAtFirst
theorem dX11_init_0 : decode cX11_init 0 = .ok (.aload_n 0, 1) := by decide +kernel
theorem dX11_init_1 : decode cX11_init 1 = .ok (.invokespecial 3, 3) := by decide +kernel
theorem dX11_init_4 : decode cX11_init 4 = .ok (.aload_n 0, 1) := by decide +kernel
theorem dX11_init_5 : decode cX11_init 5 = .ok (.new 9, 3) := by decide +kernel
theorem dX11_init_8 : decode cX11_init 8 = .ok (.dup, 1) := by decide +kernel
theorem dX11_init_9 : decode cX11_init 9 = .ok (.invokespecial 11, 3) := by decide +kernel
theorem dX11_init_12 : decode cX11_init 12 = .ok (.putfield 12, 3) := by decide +kernel
theorem dX11_init_15 : decode cX11_init 15 = .ok (.aload_n 0, 1) := by decide +kernel
theorem dX11_init_16 : decode cX11_init 16 = .ok (.new 9, 3) := by decide +kernel
theorem dX11_init_19 : decode cX11_init 19 = .ok (.dup, 1) := by decide +kernel
theorem dX11_init_20 : decode cX11_init 20 = .ok (.invokespecial 11, 3) := by decide +kernel
theorem dX11_init_23 : decode cX11_init 23 = .ok (.putfield 18, 3) := by decide +kernel
theorem dX11_init_26 : decode cX11_init 26 = .ok (.aload_n 0, 1) := by decide +kernel
theorem dX11_init_27 : decode cX11_init 27 = .ok (.iconst 0, 1) := by decide +kernel
theorem dX11_init_28 : decode cX11_init 28 = .ok (.putfield 21, 3) := by decide +kernel
theorem dX11_init_31 : decode cX11_init 31 = .ok (.aload_n 0, 1) := by decide +kernel
theorem dX11_init_32 : decode cX11_init 32 = .ok (.new 25, 3) := by decide +kernel
theorem dX11_init_35 : decode cX11_init 35 = .ok (.dup, 1) := by decide +kernel
theorem dX11_init_36 : decode cX11_init 36 = .ok (.invokespecial 27, 3) := by decide +kernel
theorem dX11_init_39 : decode cX11_init 39 = .ok (.putfield 28, 3) := by decide +kernel
theorem dX11_init_42 : decode cX11_init 42 = .ok (.aload_n 0, 1) := by decide +kernel
theorem dX11_init_43 : decode cX11_init 43 = .ok (.new 32, 3) := by decide +kernel
theorem dX11_init_46 : decode cX11_init 46 = .ok (.dup, 1) := by decide +kernel
theorem dX11_init_47 : decode cX11_init 47 = .ok (.invokespecial 34, 3) := by decide +kernel
theorem dX11_init_50 : decode cX11_init 50 = .ok (.putfield 35, 3) := by decide +kernel
theorem dX11_init_53 : decode cX11_init 53 = .ok (.aload_n 0, 1) := by decide +kernel
theorem dX11_init_54 : decode cX11_init 54 = .ok (.new 39, 3) := by decide +kernel
theorem dX11_init_57 : decode cX11_init 57 = .ok (.dup, 1) := by decide +kernel
theorem dX11_init_58 : decode cX11_init 58 = .ok (.invokespecial 41, 3) := by decide +kernel
theorem dX11_init_61 : decode cX11_init 61 = .ok (.putfield 42, 3) := by decide +kernel
theorem dX11_init_64 : decode cX11_init 64 = .ok (.aload_n 0, 1) := by decide +kernel
theorem dX11_init_65 : decode cX11_init 65 = .ok (.new 46, 3) := by decide +kernel
theorem dX11_init_68 : decode cX11_init 68 = .ok (.dup, 1) := by decide +kernel
theorem dX11_init_69 : decode cX11_init 69 = .ok (.invokespecial 48, 3) := by decide +kernel
theorem dX11_init_72 : decode cX11_init 72 = .ok (.putfield 49, 3) := by decide +kernel
theorem dX11_init_75 : decode cX11_init 75 = .ok (.aload_n 0, 1) := by decide +kernel
theorem dX11_init_76 : decode cX11_init 76 = .ok (.new 53, 3) := by decide +kernel
theorem dX11_init_79 : decode cX11_init 79 = .ok (.dup, 1) := by decide +kernel
theorem dX11_init_80 : decode cX11_init 80 = .ok (.invokespecial 55, 3) := by decide +kernel
theorem dX11_init_83 : decode cX11_init 83 = .ok (.putfield 56, 3) := by decide +kernel
theorem dX11_init_86 : decode cX11_init 86 = .ok (.aload_n 0, 1) := by decide +kernel
theorem dX11_init_87 : decode cX11_init 87 = .ok (.new 60, 3) := by decide +kernel
theorem dX11_init_90 : decode cX11_init 90 = .ok (.dup, 1) := by decide +kernel
theorem dX11_init_91 : decode cX11_init 91 = .ok (.invokespecial 62, 3) := by decide +kernel
theorem dX11_init_94 : decode cX11_init 94 = .ok (.putfield 63, 3) := by decide +kernel
theorem dX11_init_97 : decode cX11_init 97 = .ok (.aload_n 0, 1) := by decide +kernel
theorem dX11_init_98 : decode cX11_init 98 = .ok (.new 67, 3) := by decide +kernel
theorem dX11_init_101 : decode cX11_init 101 = .ok (.dup, 1) := by decide +kernel
theorem dX11_init_102 : decode cX11_init 102 = .ok (.invokespecial 69, 3) := by decide +kernel
theorem dX11_init_105 : decode cX11_init 105 = .ok (.putfield 70, 3) := by decide +kernel
theorem dX11_init_108 : decode cX11_init 108 = .ok (.aload_n 0, 1) := by decide +kernel
theorem dX11_init_109 : decode cX11_init 109 = .ok (.getfield 12, 3) := by decide +kernel
theorem dX11_init_112 : decode cX11_init 112 = .ok (.iconst 4, 1) := by decide +kernel
theorem dX11_init_113 : decode cX11_init 113 = .ok (.invokevirtual 74, 3) := by decide +kernel
theorem dX11_init_116 : decode cX11_init 116 = .ok (.return_, 1) := by decide +kernel
set_option maxRecDepth 20000 in
theorem ggX11_hull_X11_isWithin : GoodIn wsX11_hull wsX11_isWithin := goodIn_r _ [7] rfl (by decide +kernel)
set_option maxRecDepth 20000 in
theorem gX11_hull_X11_isWithin : GoodIn wsX11_hull (va_wsS RX11 78 yX11_isWithin wsX11_isWithin) := goodIn_app (goodIn_of _ (by decide +kernel)) ggX11_hull_X11_isWithin
set_option maxRecDepth 20000 in
theorem ggX11_hull_X0_makeAsAtFirst : GoodIn wsX11_hull wsX0_makeAsAtFirst := goodIn_r _ [12, 13, 14, 15, 16, 17, 18, 19, 20, 21, 22, 23, 24, 25, 26, 27, 28, 6, 29, 30, 31, 32, 33, 34, 35, 36, 37, 38, 39, 40, 41, 42, 43, 44, 45, 46, 47, 48, 49, 50, 61, 62, 63, 70, 71, 72, 73, 74, 75, 76, 64, 65, 66, 67, 68, 69, 77, 78, 79, 80] rfl (by decide +kernel)
set_option maxRecDepth 20000 in
theorem gX11_hull_X0_makeAsAtFirst : GoodIn wsX11_hull (wsV RX11 74 RX0 yX0_makeAsAtFirst wsX0_makeAsAtFirst) := goodIn_app (goodIn_of _ (by decide +kernel)) ggX11_hull_X0_makeAsAtFirst
theorem dX11_hull_0 : decode cX11_hull 0 = .ok (.iload_n 1, 1) := by decide +kernel
theorem dX11_hull_1 : decode cX11_hull 1 = .ok (.iconst 2, 1) := by decide +kernel
theorem dX11_hull_2 : decode cX11_hull 2 = .ok (.bipush 10, 2) := by decide +kernel
theorem dX11_hull_4 : decode cX11_hull 4 = .ok (.invokestatic 78, 3) := by decide +kernel
theorem dX11_hull_7 : decode cX11_hull 7 = .ok (.ifCond .ne 5, 3) := by decide +kernel
theorem dX11_hull_10 : decode cX11_hull 10 = .ok (.iconst (-1), 1) := by decide +kernel
theorem dX11_hull_11 : decode cX11_hull 11 = .ok (.ireturn, 1) := by decide +kernel
theorem dX11_hull_12 : decode cX11_hull 12 = .ok (.aload_n 0, 1) := by decide +kernel
theorem dX11_hull_13 : decode cX11_hull 13 = .ok (.getfield 12, 3) := by decide +kernel
theorem dX11_hull_16 : decode cX11_hull 16 = .ok (.getfield 82, 3) := by decide +kernel
theorem dX11_hull_19 : decode cX11_hull 19 = .ok (.getfield 86, 3) := by decide +kernel
theorem dX11_hull_22 : decode cX11_hull 22 = .ok (.istore_n 2, 1) := by decide +kernel
theorem dX11_hull_23 : decode cX11_hull 23 = .ok (.aload_n 0, 1) := by decide +kernel
theorem dX11_hull_24 : decode cX11_hull 24 = .ok (.getfield 12, 3) := by decide +kernel
theorem dX11_hull_27 : decode cX11_hull 27 = .ok (.iload_n 1, 1) := by decide +kernel
theorem dX11_hull_28 : decode cX11_hull 28 = .ok (.invokevirtual 74, 3) := by decide +kernel
theorem dX11_hull_31 : decode cX11_hull 31 = .ok (.iload_n 2, 1) := by decide +kernel
theorem dX11_hull_32 : decode cX11_hull 32 = .ok (.ireturn, 1) := by decide +kernel
set_option maxRecDepth 20000 in
theorem ggX11_section_X2_hasSection : GoodIn wsX11_section wsX2_hasSection := goodIn_r _ [9, 10, 11, 12, 13, 28, 29, 30, 31, 32, 33] rfl (by decide +kernel)
set_option maxRecDepth 20000 in
theorem gX11_section_X2_hasSection : GoodIn wsX11_section (wsV RX11 92 RX2 yX2_hasSection wsX2_hasSection) := goodIn_app (goodIn_of _ (by decide +kernel)) ggX11_section_X2_hasSection
set_option maxRecDepth 20000 in
theorem ggX11_section_X11_isWithin : GoodIn wsX11_section wsX11_isWithin := goodIn_r _ [13] rfl (by decide +kernel)
set_option maxRecDepth 20000 in
theorem gX11_section_X11_isWithin : GoodIn wsX11_section (va_wsS RX11 78 yX11_isWithin wsX11_isWithin) := goodIn_app (goodIn_of _ (by decide +kernel)) ggX11_section_X11_isWithin
theorem dX11_section_0 : decode cX11_section 0 = .ok (.aload_n 0, 1) := by decide +kernel
theorem dX11_section_1 : decode cX11_section 1 = .ok (.getfield 12, 3) := by decide +kernel
theorem dX11_section_4 : decode cX11_section 4 = .ok (.getfield 82, 3) := by decide +kernel
theorem dX11_section_7 : decode cX11_section 7 = .ok (.iload_n 1, 1) := by decide +kernel
theorem dX11_section_8 : decode cX11_section 8 = .ok (.invokevirtual 92, 3) := by decide +kernel
theorem dX11_section_11 : decode cX11_section 11 = .ok (.ifCond .eq 23, 3) := by decide +kernel
theorem dX11_section_14 : decode cX11_section 14 = .ok (.iload_n 2, 1) := by decide +kernel
theorem dX11_section_15 : decode cX11_section 15 = .ok (.iconst 1, 1) := by decide +kernel
theorem dX11_section_16 : decode cX11_section 16 = .ok (.bipush 40, 2) := by decide +kernel
theorem dX11_section_18 : decode cX11_section 18 = .ok (.invokestatic 78, 3) := by decide +kernel
theorem dX11_section_21 : decode cX11_section 21 = .ok (.ifCond .eq 13, 3) := by decide +kernel
theorem dX11_section_24 : decode cX11_section 24 = .ok (.iload_n 3, 1) := by decide +kernel
theorem dX11_section_25 : decode cX11_section 25 = .ok (.iconst 0, 1) := by decide +kernel
theorem dX11_section_26 : decode cX11_section 26 = .ok (.bipush 30, 2) := by decide +kernel
theorem dX11_section_28 : decode cX11_section 28 = .ok (.invokestatic 78, 3) := by decide +kernel
theorem dX11_section_31 : decode cX11_section 31 = .ok (.ifCond .ne 5, 3) := by decide +kernel
theorem dX11_section_34 : decode cX11_section 34 = .ok (.iconst (-1), 1) := by decide +kernel
theorem dX11_section_35 : decode cX11_section 35 = .ok (.ireturn, 1) := by decide +kernel
theorem dX11_section_36 : decode cX11_section 36 = .ok (.bipush 100, 2) := by decide +kernel
theorem dX11_section_38 : decode cX11_section 38 = .ok (.aload_n 0, 1) := by decide +kernel
theorem dX11_section_39 : decode cX11_section 39 = .ok (.getfield 12, 3) := by decide +kernel
theorem dX11_section_42 : decode cX11_section 42 = .ok (.getfield 82, 3) := by decide +kernel
theorem dX11_section_45 : decode cX11_section 45 = .ok (.getfield 96, 3) := by decide +kernel
theorem dX11_section_48 : decode cX11_section 48 = .ok (.iload_n 1, 1) := by decide +kernel
theorem dX11_section_49 : decode cX11_section 49 = .ok (.iaload, 1) := by decide +kernel
theorem dX11_section_50 : decode cX11_section 50 = .ok (.imul, 1) := by decide +kernel
theorem dX11_section_51 : decode cX11_section 51 = .ok (.aload_n 0, 1) := by decide +kernel
theorem dX11_section_52 : decode cX11_section 52 = .ok (.getfield 12, 3) := by decide +kernel
theorem dX11_section_55 : decode cX11_section 55 = .ok (.getfield 82, 3) := by decide +kernel
theorem dX11_section_58 : decode cX11_section 58 = .ok (.getfield 100, 3) := by decide +kernel
theorem dX11_section_61 : decode cX11_section 61 = .ok (.iload_n 1, 1) := by decide +kernel
theorem dX11_section_62 : decode cX11_section 62 = .ok (.iaload, 1) := by decide +kernel
theorem dX11_section_63 : decode cX11_section 63 = .ok (.iadd, 1) := by decide +kernel
theorem dX11_section_64 : decode cX11_section 64 = .ok (.istore 4, 2) := by decide +kernel
theorem dX11_section_66 : decode cX11_section 66 = .ok (.aload_n 0, 1) := by decide +kernel
theorem dX11_section_67 : decode cX11_section 67 = .ok (.getfield 12, 3) := by decide +kernel
theorem dX11_section_70 : decode cX11_section 70 = .ok (.getfield 82, 3) := by decide +kernel
theorem dX11_section_73 : decode cX11_section 73 = .ok (.getfield 96, 3) := by decide +kernel
theorem dX11_section_76 : decode cX11_section 76 = .ok (.iload_n 1, 1) := by decide +kernel
theorem dX11_section_77 : decode cX11_section 77 = .ok (.iload_n 2, 1) := by decide +kernel
theorem dX11_section_78 : decode cX11_section 78 = .ok (.iastore, 1) := by decide +kernel
theorem dX11_section_79 : decode cX11_section 79 = .ok (.aload_n 0, 1) := by decide +kernel
theorem dX11_section_80 : decode cX11_section 80 = .ok (.getfield 12, 3) := by decide +kernel
theorem dX11_section_83 : decode cX11_section 83 = .ok (.getfield 82, 3) := by decide +kernel
theorem dX11_section_86 : decode cX11_section 86 = .ok (.getfield 100, 3) := by decide +kernel
theorem dX11_section_89 : decode cX11_section 89 = .ok (.iload_n 1, 1) := by decide +kernel
theorem dX11_section_90 : decode cX11_section 90 = .ok (.iload_n 3, 1) := by decide +kernel
theorem dX11_section_91 : decode cX11_section 91 = .ok (.iastore, 1) := by decide +kernel
theorem dX11_section_92 : decode cX11_section 92 = .ok (.iload 4, 2) := by decide +kernel
theorem dX11_section_94 : decode cX11_section 94 = .ok (.ireturn, 1) := by decide +kernel
set_option maxRecDepth 20000 in
theorem ggX11_set_X11_setDeep : GoodIn wsX11_set wsX11_setDeep := goodIn_r _ [5, 6, 7, 8, 9, 10, 4, 11, 22, 23, 24, 25, 26, 27, 28, 29, 30, 31, 32, 33, 34, 35, 36, 37, 38, 39, 40] rfl (by decide +kernel)
set_option maxRecDepth 20000 in
theorem gX11_set_X11_setDeep : GoodIn wsX11_set (wsV RX11 103 RX11 yX11_setDeep wsX11_setDeep) := goodIn_app (goodIn_of _ (by decide +kernel)) ggX11_set_X11_setDeep
set_option maxRecDepth 20000 in
theorem ggX11_set_X11_setShell : GoodIn wsX11_set wsX11_setShell := goodIn_r _ [15, 6, 7, 16, 9, 10, 4, 11, 22, 23, 24, 25, 26, 27, 28, 29, 30, 31, 32, 33, 34, 35, 36, 37, 38, 39, 40] rfl (by decide +kernel)
set_option maxRecDepth 20000 in
theorem gX11_set_X11_setShell : GoodIn wsX11_set (wsV RX11 107 RX11 yX11_setShell wsX11_setShell) := goodIn_app (goodIn_of _ (by decide +kernel)) ggX11_set_X11_setShell
set_option maxRecDepth 20000 in
theorem ggX11_set_X11_setWet : GoodIn wsX11_set wsX11_setWet := goodIn_r _ [20, 6, 7, 21, 9, 10, 4, 11, 22, 23, 24, 25, 26, 27, 28, 29, 30, 31, 32, 33, 34, 35, 36, 37, 38, 39, 40] rfl (by decide +kernel)
set_option maxRecDepth 20000 in
theorem gX11_set_X11_setWet : GoodIn wsX11_set (wsV RX11 110 RX11 yX11_setWet wsX11_setWet) := goodIn_app (goodIn_of _ (by decide +kernel)) ggX11_set_X11_setWet
theorem dX11_set_0 : decode cX11_set 0 = .ok (.iload_n 1, 1) := by decide +kernel
theorem dX11_set_1 : decode cX11_set 1 = .ok (.tableswitch 45 0 2 #[27, 33, 39], 27) := by decide +kernel
theorem dX11_set_28 : decode cX11_set 28 = .ok (.aload_n 0, 1) := by decide +kernel
theorem dX11_set_29 : decode cX11_set 29 = .ok (.iload_n 2, 1) := by decide +kernel
theorem dX11_set_30 : decode cX11_set 30 = .ok (.invokevirtual 103, 3) := by decide +kernel
theorem dX11_set_33 : decode cX11_set 33 = .ok (.ireturn, 1) := by decide +kernel
theorem dX11_set_34 : decode cX11_set 34 = .ok (.aload_n 0, 1) := by decide +kernel
theorem dX11_set_35 : decode cX11_set 35 = .ok (.iload_n 2, 1) := by decide +kernel
theorem dX11_set_36 : decode cX11_set 36 = .ok (.invokevirtual 107, 3) := by decide +kernel
theorem dX11_set_39 : decode cX11_set 39 = .ok (.ireturn, 1) := by decide +kernel
theorem dX11_set_40 : decode cX11_set 40 = .ok (.aload_n 0, 1) := by decide +kernel
theorem dX11_set_41 : decode cX11_set 41 = .ok (.iload_n 2, 1) := by decide +kernel
theorem dX11_set_42 : decode cX11_set 42 = .ok (.invokevirtual 110, 3) := by decide +kernel
theorem dX11_set_45 : decode cX11_set 45 = .ok (.ireturn, 1) := by decide +kernel
theorem dX11_set_46 : decode cX11_set 46 = .ok (.iconst (-1), 1) := by decide +kernel
theorem dX11_set_47 : decode cX11_set 47 = .ok (.ireturn, 1) := by decide +kernel
set_option maxRecDepth 20000 in
theorem ggX11_setDeep_X11_isWithin : GoodIn wsX11_setDeep wsX11_isWithin := goodIn_r _ [7] rfl (by decide +kernel)
set_option maxRecDepth 20000 in
theorem gX11_setDeep_X11_isWithin : GoodIn wsX11_setDeep (va_wsS RX11 78 yX11_isWithin wsX11_isWithin) := goodIn_app (goodIn_of _ (by decide +kernel)) ggX11_setDeep_X11_isWithin
theorem dX11_setDeep_0 : decode cX11_setDeep 0 = .ok (.iload_n 1, 1) := by decide +kernel
theorem dX11_setDeep_1 : decode cX11_setDeep 1 = .ok (.iconst 1, 1) := by decide +kernel
theorem dX11_setDeep_2 : decode cX11_setDeep 2 = .ok (.bipush 60, 2) := by decide +kernel
theorem dX11_setDeep_4 : decode cX11_setDeep 4 = .ok (.invokestatic 78, 3) := by decide +kernel
theorem dX11_setDeep_7 : decode cX11_setDeep 7 = .ok (.ifCond .ne 5, 3) := by decide +kernel
theorem dX11_setDeep_10 : decode cX11_setDeep 10 = .ok (.iconst (-1), 1) := by decide +kernel
theorem dX11_setDeep_11 : decode cX11_setDeep 11 = .ok (.ireturn, 1) := by decide +kernel
theorem dX11_setDeep_12 : decode cX11_setDeep 12 = .ok (.aload_n 0, 1) := by decide +kernel
theorem dX11_setDeep_13 : decode cX11_setDeep 13 = .ok (.getfield 12, 3) := by decide +kernel
theorem dX11_setDeep_16 : decode cX11_setDeep 16 = .ok (.getfield 82, 3) := by decide +kernel
theorem dX11_setDeep_19 : decode cX11_setDeep 19 = .ok (.getfield 113, 3) := by decide +kernel
theorem dX11_setDeep_22 : decode cX11_setDeep 22 = .ok (.istore_n 2, 1) := by decide +kernel
theorem dX11_setDeep_23 : decode cX11_setDeep 23 = .ok (.aload_n 0, 1) := by decide +kernel
theorem dX11_setDeep_24 : decode cX11_setDeep 24 = .ok (.getfield 12, 3) := by decide +kernel
theorem dX11_setDeep_27 : decode cX11_setDeep 27 = .ok (.getfield 82, 3) := by decide +kernel
theorem dX11_setDeep_30 : decode cX11_setDeep 30 = .ok (.iload_n 1, 1) := by decide +kernel
theorem dX11_setDeep_31 : decode cX11_setDeep 31 = .ok (.putfield 113, 3) := by decide +kernel
theorem dX11_setDeep_34 : decode cX11_setDeep 34 = .ok (.iload_n 2, 1) := by decide +kernel
theorem dX11_setDeep_35 : decode cX11_setDeep 35 = .ok (.ireturn, 1) := by decide +kernel
set_option maxRecDepth 20000 in
theorem ggX11_setShell_X11_isWithin : GoodIn wsX11_setShell wsX11_isWithin := goodIn_r _ [7] rfl (by decide +kernel)
set_option maxRecDepth 20000 in
theorem gX11_setShell_X11_isWithin : GoodIn wsX11_setShell (va_wsS RX11 78 yX11_isWithin wsX11_isWithin) := goodIn_app (goodIn_of _ (by decide +kernel)) ggX11_setShell_X11_isWithin
theorem dX11_setShell_0 : decode cX11_setShell 0 = .ok (.iload_n 1, 1) := by decide +kernel
theorem dX11_setShell_1 : decode cX11_setShell 1 = .ok (.iconst 1, 1) := by decide +kernel
theorem dX11_setShell_2 : decode cX11_setShell 2 = .ok (.sipush 9999, 3) := by decide +kernel
theorem dX11_setShell_5 : decode cX11_setShell 5 = .ok (.invokestatic 78, 3) := by decide +kernel
theorem dX11_setShell_8 : decode cX11_setShell 8 = .ok (.ifCond .ne 5, 3) := by decide +kernel
theorem dX11_setShell_11 : decode cX11_setShell 11 = .ok (.iconst (-1), 1) := by decide +kernel
theorem dX11_setShell_12 : decode cX11_setShell 12 = .ok (.ireturn, 1) := by decide +kernel
theorem dX11_setShell_13 : decode cX11_setShell 13 = .ok (.aload_n 0, 1) := by decide +kernel
theorem dX11_setShell_14 : decode cX11_setShell 14 = .ok (.getfield 12, 3) := by decide +kernel
theorem dX11_setShell_17 : decode cX11_setShell 17 = .ok (.getfield 82, 3) := by decide +kernel
theorem dX11_setShell_20 : decode cX11_setShell 20 = .ok (.getfield 116, 3) := by decide +kernel
theorem dX11_setShell_23 : decode cX11_setShell 23 = .ok (.istore_n 2, 1) := by decide +kernel
theorem dX11_setShell_24 : decode cX11_setShell 24 = .ok (.aload_n 0, 1) := by decide +kernel
theorem dX11_setShell_25 : decode cX11_setShell 25 = .ok (.getfield 12, 3) := by decide +kernel
theorem dX11_setShell_28 : decode cX11_setShell 28 = .ok (.getfield 82, 3) := by decide +kernel
theorem dX11_setShell_31 : decode cX11_setShell 31 = .ok (.iload_n 1, 1) := by decide +kernel
theorem dX11_setShell_32 : decode cX11_setShell 32 = .ok (.putfield 116, 3) := by decide +kernel
theorem dX11_setShell_35 : decode cX11_setShell 35 = .ok (.iload_n 2, 1) := by decide +kernel
theorem dX11_setShell_36 : decode cX11_setShell 36 = .ok (.ireturn, 1) := by decide +kernel
set_option maxRecDepth 20000 in
theorem ggX11_setWet_X11_isWithin : GoodIn wsX11_setWet wsX11_isWithin := goodIn_r _ [7] rfl (by decide +kernel)
set_option maxRecDepth 20000 in
theorem gX11_setWet_X11_isWithin : GoodIn wsX11_setWet (va_wsS RX11 78 yX11_isWithin wsX11_isWithin) := goodIn_app (goodIn_of _ (by decide +kernel)) ggX11_setWet_X11_isWithin
theorem dX11_setWet_0 : decode cX11_setWet 0 = .ok (.iload_n 1, 1) := by decide +kernel
theorem dX11_setWet_1 : decode cX11_setWet 1 = .ok (.iconst 0, 1) := by decide +kernel
theorem dX11_setWet_2 : decode cX11_setWet 2 = .ok (.iconst 1, 1) := by decide +kernel
theorem dX11_setWet_3 : decode cX11_setWet 3 = .ok (.invokestatic 78, 3) := by decide +kernel
theorem dX11_setWet_6 : decode cX11_setWet 6 = .ok (.ifCond .ne 5, 3) := by decide +kernel
theorem dX11_setWet_9 : decode cX11_setWet 9 = .ok (.iconst (-1), 1) := by decide +kernel
theorem dX11_setWet_10 : decode cX11_setWet 10 = .ok (.ireturn, 1) := by decide +kernel
theorem dX11_setWet_11 : decode cX11_setWet 11 = .ok (.aload_n 0, 1) := by decide +kernel
theorem dX11_setWet_12 : decode cX11_setWet 12 = .ok (.getfield 12, 3) := by decide +kernel
theorem dX11_setWet_15 : decode cX11_setWet 15 = .ok (.getfield 82, 3) := by decide +kernel
theorem dX11_setWet_18 : decode cX11_setWet 18 = .ok (.getfield 119, 3) := by decide +kernel
theorem dX11_setWet_21 : decode cX11_setWet 21 = .ok (.istore_n 2, 1) := by decide +kernel
theorem dX11_setWet_22 : decode cX11_setWet 22 = .ok (.aload_n 0, 1) := by decide +kernel
theorem dX11_setWet_23 : decode cX11_setWet 23 = .ok (.getfield 12, 3) := by decide +kernel
theorem dX11_setWet_26 : decode cX11_setWet 26 = .ok (.getfield 82, 3) := by decide +kernel
theorem dX11_setWet_29 : decode cX11_setWet 29 = .ok (.iload_n 1, 1) := by decide +kernel
theorem dX11_setWet_30 : decode cX11_setWet 30 = .ok (.putfield 119, 3) := by decide +kernel
theorem dX11_setWet_33 : decode cX11_setWet 33 = .ok (.iload_n 2, 1) := by decide +kernel
theorem dX11_setWet_34 : decode cX11_setWet 34 = .ok (.ireturn, 1) := by decide +kernel
set_option maxRecDepth 20000 in
theorem ggX11_put_X11_isName : GoodIn wsX11_put wsX11_isName := goodIn_r _ [13, 14, 15, 16, 12, 17] rfl (by decide +kernel)
set_option maxRecDepth 20000 in
theorem gX11_put_X11_isName : GoodIn wsX11_put (va_wsS RX11 122 yX11_isName wsX11_isName) := goodIn_app (goodIn_of _ (by decide +kernel)) ggX11_put_X11_isName
set_option maxRecDepth 20000 in
theorem ggX11_put_X11_isKind : GoodIn wsX11_put wsX11_isKind := goodIn_r _ [20, 15, 16, 12, 17] rfl (by decide +kernel)
set_option maxRecDepth 20000 in
theorem gX11_put_X11_isKind : GoodIn wsX11_put (va_wsS RX11 125 yX11_isKind wsX11_isKind) := goodIn_app (goodIn_of _ (by decide +kernel)) ggX11_put_X11_isKind
set_option maxRecDepth 20000 in
theorem ggX11_put_X11_isWithin : GoodIn wsX11_put wsX11_isWithin := goodIn_r _ [17] rfl (by decide +kernel)
set_option maxRecDepth 20000 in
theorem gX11_put_X11_isWithin : GoodIn wsX11_put (va_wsS RX11 78 yX11_isWithin wsX11_isWithin) := goodIn_app (goodIn_of _ (by decide +kernel)) ggX11_put_X11_isWithin
set_option maxRecDepth 20000 in
theorem ggX11_put_X2_hasSection : GoodIn wsX11_put wsX2_hasSection := goodIn_r _ [25, 26, 16, 12, 17, 82, 83, 84, 85, 86, 87] rfl (by decide +kernel)
set_option maxRecDepth 20000 in
theorem gX11_put_X2_hasSection : GoodIn wsX11_put (wsV RX11 92 RX2 yX2_hasSection wsX2_hasSection) := goodIn_app (goodIn_of _ (by decide +kernel)) ggX11_put_X2_hasSection
set_option maxRecDepth 20000 in
theorem ggX11_put_X11_isSide : GoodIn wsX11_put wsX11_isSide := goodIn_r _ [29, 15, 16, 12, 17] rfl (by decide +kernel)
set_option maxRecDepth 20000 in
theorem gX11_put_X11_isSide : GoodIn wsX11_put (va_wsS RX11 128 yX11_isSide wsX11_isSide) := goodIn_app (goodIn_of _ (by decide +kernel)) ggX11_put_X11_isSide
set_option maxRecDepth 20000 in
theorem ggX11_put_X1_placeOf : GoodIn wsX11_put wsX1_placeOf := goodIn_r _ [34, 35, 36, 75, 76, 77, 78, 79, 80, 81] rfl (by decide +kernel)
set_option maxRecDepth 20000 in
theorem gX11_put_X1_placeOf : GoodIn wsX11_put (wsV RX11 135 RX1 yX1_placeOf wsX1_placeOf) := goodIn_app (goodIn_of _ (by decide +kernel)) ggX11_put_X1_placeOf
set_option maxRecDepth 20000 in
theorem ggX11_put_X1_openPlace : GoodIn wsX11_put wsX1_openPlace := goodIn_r _ [40, 41, 42, 43, 44, 35, 36, 45, 46, 47, 33, 48, 49, 50, 51, 52, 53, 54, 55, 56, 57, 58, 59, 60, 61, 75, 76, 77, 78, 79, 80, 81] rfl (by decide +kernel)
set_option maxRecDepth 20000 in
theorem gX11_put_X1_openPlace : GoodIn wsX11_put (wsV RX11 143 RX1 yX1_openPlace wsX1_openPlace) := goodIn_app (goodIn_of _ (by decide +kernel)) ggX11_put_X1_openPlace
theorem dX11_put_0 : decode cX11_put 0 = .ok (.iload_n 1, 1) := by decide +kernel
theorem dX11_put_1 : decode cX11_put 1 = .ok (.invokestatic 122, 3) := by decide +kernel
theorem dX11_put_4 : decode cX11_put 4 = .ok (.ifCond .eq 21, 3) := by decide +kernel
theorem dX11_put_7 : decode cX11_put 7 = .ok (.iload_n 2, 1) := by decide +kernel
theorem dX11_put_8 : decode cX11_put 8 = .ok (.invokestatic 125, 3) := by decide +kernel
theorem dX11_put_11 : decode cX11_put 11 = .ok (.ifCond .eq 14, 3) := by decide +kernel
theorem dX11_put_14 : decode cX11_put 14 = .ok (.iload_n 3, 1) := by decide +kernel
theorem dX11_put_15 : decode cX11_put 15 = .ok (.iconst 1, 1) := by decide +kernel
theorem dX11_put_16 : decode cX11_put 16 = .ok (.sipush 999, 3) := by decide +kernel
theorem dX11_put_19 : decode cX11_put 19 = .ok (.invokestatic 78, 3) := by decide +kernel
theorem dX11_put_22 : decode cX11_put 22 = .ok (.ifCond .ne 5, 3) := by decide +kernel
theorem dX11_put_25 : decode cX11_put 25 = .ok (.iconst (-1), 1) := by decide +kernel
theorem dX11_put_26 : decode cX11_put 26 = .ok (.ireturn, 1) := by decide +kernel
theorem dX11_put_27 : decode cX11_put 27 = .ok (.aload_n 0, 1) := by decide +kernel
theorem dX11_put_28 : decode cX11_put 28 = .ok (.getfield 12, 3) := by decide +kernel
theorem dX11_put_31 : decode cX11_put 31 = .ok (.getfield 82, 3) := by decide +kernel
theorem dX11_put_34 : decode cX11_put 34 = .ok (.iload 4, 2) := by decide +kernel
theorem dX11_put_36 : decode cX11_put 36 = .ok (.invokevirtual 92, 3) := by decide +kernel
theorem dX11_put_39 : decode cX11_put 39 = .ok (.ifCond .eq 22, 3) := by decide +kernel
theorem dX11_put_42 : decode cX11_put 42 = .ok (.iload 5, 2) := by decide +kernel
theorem dX11_put_44 : decode cX11_put 44 = .ok (.invokestatic 128, 3) := by decide +kernel
theorem dX11_put_47 : decode cX11_put 47 = .ok (.ifCond .eq 14, 3) := by decide +kernel
theorem dX11_put_50 : decode cX11_put 50 = .ok (.iload 6, 2) := by decide +kernel
theorem dX11_put_52 : decode cX11_put 52 = .ok (.iconst 0, 1) := by decide +kernel
theorem dX11_put_53 : decode cX11_put 53 = .ok (.bipush 40, 2) := by decide +kernel
theorem dX11_put_55 : decode cX11_put 55 = .ok (.invokestatic 78, 3) := by decide +kernel
theorem dX11_put_58 : decode cX11_put 58 = .ok (.ifCond .ne 5, 3) := by decide +kernel
theorem dX11_put_61 : decode cX11_put 61 = .ok (.iconst (-1), 1) := by decide +kernel
theorem dX11_put_62 : decode cX11_put 62 = .ok (.ireturn, 1) := by decide +kernel
theorem dX11_put_63 : decode cX11_put 63 = .ok (.aload_n 0, 1) := by decide +kernel
theorem dX11_put_64 : decode cX11_put 64 = .ok (.getfield 12, 3) := by decide +kernel
theorem dX11_put_67 : decode cX11_put 67 = .ok (.getfield 131, 3) := by decide +kernel
theorem dX11_put_70 : decode cX11_put 70 = .ok (.astore 7, 2) := by decide +kernel
theorem dX11_put_72 : decode cX11_put 72 = .ok (.aload 7, 2) := by decide +kernel
theorem dX11_put_74 : decode cX11_put 74 = .ok (.iload_n 1, 1) := by decide +kernel
theorem dX11_put_75 : decode cX11_put 75 = .ok (.invokevirtual 135, 3) := by decide +kernel
theorem dX11_put_78 : decode cX11_put 78 = .ok (.ifCond .lt 6, 3) := by decide +kernel
theorem dX11_put_81 : decode cX11_put 81 = .ok (.bipush (-5), 2) := by decide +kernel
theorem dX11_put_83 : decode cX11_put 83 = .ok (.ireturn, 1) := by decide +kernel
theorem dX11_put_84 : decode cX11_put 84 = .ok (.aload 7, 2) := by decide +kernel
theorem dX11_put_86 : decode cX11_put 86 = .ok (.getfield 140, 3) := by decide +kernel
theorem dX11_put_89 : decode cX11_put 89 = .ok (.bipush 16, 2) := by decide +kernel
theorem dX11_put_91 : decode cX11_put 91 = .ok (.if_icmp .lt 6, 3) := by decide +kernel
theorem dX11_put_94 : decode cX11_put 94 = .ok (.bipush (-3), 2) := by decide +kernel
theorem dX11_put_96 : decode cX11_put 96 = .ok (.ireturn, 1) := by decide +kernel
theorem dX11_put_97 : decode cX11_put 97 = .ok (.aload 7, 2) := by decide +kernel
theorem dX11_put_99 : decode cX11_put 99 = .ok (.iload_n 1, 1) := by decide +kernel
theorem dX11_put_100 : decode cX11_put 100 = .ok (.invokevirtual 143, 3) := by decide +kernel
theorem dX11_put_103 : decode cX11_put 103 = .ok (.istore 8, 2) := by decide +kernel
theorem dX11_put_105 : decode cX11_put 105 = .ok (.aload 7, 2) := by decide +kernel
theorem dX11_put_107 : decode cX11_put 107 = .ok (.getfield 146, 3) := by decide +kernel
theorem dX11_put_110 : decode cX11_put 110 = .ok (.iload 8, 2) := by decide +kernel
theorem dX11_put_112 : decode cX11_put 112 = .ok (.iload_n 2, 1) := by decide +kernel
theorem dX11_put_113 : decode cX11_put 113 = .ok (.iastore, 1) := by decide +kernel
theorem dX11_put_114 : decode cX11_put 114 = .ok (.aload 7, 2) := by decide +kernel
theorem dX11_put_116 : decode cX11_put 116 = .ok (.getfield 149, 3) := by decide +kernel
theorem dX11_put_119 : decode cX11_put 119 = .ok (.iload 8, 2) := by decide +kernel
theorem dX11_put_121 : decode cX11_put 121 = .ok (.iload_n 3, 1) := by decide +kernel
theorem dX11_put_122 : decode cX11_put 122 = .ok (.iastore, 1) := by decide +kernel
theorem dX11_put_123 : decode cX11_put 123 = .ok (.aload 7, 2) := by decide +kernel
theorem dX11_put_125 : decode cX11_put 125 = .ok (.getfield 152, 3) := by decide +kernel
theorem dX11_put_128 : decode cX11_put 128 = .ok (.iload 8, 2) := by decide +kernel
theorem dX11_put_130 : decode cX11_put 130 = .ok (.iload 4, 2) := by decide +kernel
theorem dX11_put_132 : decode cX11_put 132 = .ok (.iastore, 1) := by decide +kernel
theorem dX11_put_133 : decode cX11_put 133 = .ok (.aload 7, 2) := by decide +kernel
theorem dX11_put_135 : decode cX11_put 135 = .ok (.getfield 155, 3) := by decide +kernel
theorem dX11_put_138 : decode cX11_put 138 = .ok (.iload 8, 2) := by decide +kernel
theorem dX11_put_140 : decode cX11_put 140 = .ok (.iload 5, 2) := by decide +kernel
theorem dX11_put_142 : decode cX11_put 142 = .ok (.iastore, 1) := by decide +kernel
theorem dX11_put_143 : decode cX11_put 143 = .ok (.aload 7, 2) := by decide +kernel
theorem dX11_put_145 : decode cX11_put 145 = .ok (.getfield 158, 3) := by decide +kernel
theorem dX11_put_148 : decode cX11_put 148 = .ok (.iload 8, 2) := by decide +kernel
theorem dX11_put_150 : decode cX11_put 150 = .ok (.iload 6, 2) := by decide +kernel
theorem dX11_put_152 : decode cX11_put 152 = .ok (.iastore, 1) := by decide +kernel
theorem dX11_put_153 : decode cX11_put 153 = .ok (.aload 7, 2) := by decide +kernel
theorem dX11_put_155 : decode cX11_put 155 = .ok (.getfield 140, 3) := by decide +kernel
theorem dX11_put_158 : decode cX11_put 158 = .ok (.ireturn, 1) := by decide +kernel
set_option maxRecDepth 20000 in
theorem ggX11_take_X11_isName : GoodIn wsX11_take wsX11_isName := goodIn_r _ [6, 7, 8, 9, 5, 10] rfl (by decide +kernel)
set_option maxRecDepth 20000 in
theorem gX11_take_X11_isName : GoodIn wsX11_take (va_wsS RX11 122 yX11_isName wsX11_isName) := goodIn_app (goodIn_of _ (by decide +kernel)) ggX11_take_X11_isName
set_option maxRecDepth 20000 in
theorem ggX11_take_X1_placeOf : GoodIn wsX11_take wsX1_placeOf := goodIn_r _ [15, 16, 17, 62, 63, 64, 65, 66, 67, 68] rfl (by decide +kernel)
set_option maxRecDepth 20000 in
theorem gX11_take_X1_placeOf : GoodIn wsX11_take (wsV RX11 135 RX1 yX1_placeOf wsX1_placeOf) := goodIn_app (goodIn_of _ (by decide +kernel)) ggX11_take_X1_placeOf
set_option maxRecDepth 20000 in
theorem ggX11_take_X0_weighsAt : GoodIn wsX11_take wsX0_weighsAt := goodIn_r _ [22, 23, 24, 25, 26, 27, 28, 21, 29, 30, 31, 59, 60, 61, 62, 63, 64, 65, 66, 67, 68, 69, 70, 71, 72, 73, 74] rfl (by decide +kernel)
set_option maxRecDepth 20000 in
theorem gX11_take_X0_weighsAt : GoodIn wsX11_take (wsV RX11 161 RX0 yX0_weighsAt wsX0_weighsAt) := goodIn_app (goodIn_of _ (by decide +kernel)) ggX11_take_X0_weighsAt
set_option maxRecDepth 20000 in
theorem ggX11_take_X1_closePlace : GoodIn wsX11_take wsX1_closePlace := goodIn_r _ [35, 16, 36, 37, 38, 14, 39, 17, 40, 41, 42, 43, 44, 45, 46, 47, 48, 62, 63, 64, 65, 66, 67, 68] rfl (by decide +kernel)
set_option maxRecDepth 20000 in
theorem gX11_take_X1_closePlace : GoodIn wsX11_take (wsV RX11 164 RX1 yX1_closePlace wsX1_closePlace) := goodIn_app (goodIn_of _ (by decide +kernel)) ggX11_take_X1_closePlace
theorem dX11_take_0 : decode cX11_take 0 = .ok (.iload_n 1, 1) := by decide +kernel
theorem dX11_take_1 : decode cX11_take 1 = .ok (.invokestatic 122, 3) := by decide +kernel
theorem dX11_take_4 : decode cX11_take 4 = .ok (.ifCond .ne 5, 3) := by decide +kernel
theorem dX11_take_7 : decode cX11_take 7 = .ok (.iconst (-1), 1) := by decide +kernel
theorem dX11_take_8 : decode cX11_take 8 = .ok (.ireturn, 1) := by decide +kernel
theorem dX11_take_9 : decode cX11_take 9 = .ok (.aload_n 0, 1) := by decide +kernel
theorem dX11_take_10 : decode cX11_take 10 = .ok (.getfield 12, 3) := by decide +kernel
theorem dX11_take_13 : decode cX11_take 13 = .ok (.getfield 131, 3) := by decide +kernel
theorem dX11_take_16 : decode cX11_take 16 = .ok (.iload_n 1, 1) := by decide +kernel
theorem dX11_take_17 : decode cX11_take 17 = .ok (.invokevirtual 135, 3) := by decide +kernel
theorem dX11_take_20 : decode cX11_take 20 = .ok (.istore_n 2, 1) := by decide +kernel
theorem dX11_take_21 : decode cX11_take 21 = .ok (.iload_n 2, 1) := by decide +kernel
theorem dX11_take_22 : decode cX11_take 22 = .ok (.ifCond .ge 6, 3) := by decide +kernel
theorem dX11_take_25 : decode cX11_take 25 = .ok (.bipush (-2), 2) := by decide +kernel
theorem dX11_take_27 : decode cX11_take 27 = .ok (.ireturn, 1) := by decide +kernel
theorem dX11_take_28 : decode cX11_take 28 = .ok (.aload_n 0, 1) := by decide +kernel
theorem dX11_take_29 : decode cX11_take 29 = .ok (.getfield 12, 3) := by decide +kernel
theorem dX11_take_32 : decode cX11_take 32 = .ok (.iload_n 2, 1) := by decide +kernel
theorem dX11_take_33 : decode cX11_take 33 = .ok (.invokevirtual 161, 3) := by decide +kernel
theorem dX11_take_36 : decode cX11_take 36 = .ok (.istore_n 3, 1) := by decide +kernel
theorem dX11_take_37 : decode cX11_take 37 = .ok (.aload_n 0, 1) := by decide +kernel
theorem dX11_take_38 : decode cX11_take 38 = .ok (.getfield 12, 3) := by decide +kernel
theorem dX11_take_41 : decode cX11_take 41 = .ok (.getfield 131, 3) := by decide +kernel
theorem dX11_take_44 : decode cX11_take 44 = .ok (.iload_n 2, 1) := by decide +kernel
theorem dX11_take_45 : decode cX11_take 45 = .ok (.invokevirtual 164, 3) := by decide +kernel
theorem dX11_take_48 : decode cX11_take 48 = .ok (.iload_n 3, 1) := by decide +kernel
theorem dX11_take_49 : decode cX11_take 49 = .ok (.ireturn, 1) := by decide +kernel
set_option maxRecDepth 20000 in
theorem ggX11_move_X11_isName : GoodIn wsX11_move wsX11_isName := goodIn_r _ [9, 10, 11, 12, 8, 13] rfl (by decide +kernel)
set_option maxRecDepth 20000 in
theorem gX11_move_X11_isName : GoodIn wsX11_move (va_wsS RX11 122 yX11_isName wsX11_isName) := goodIn_app (goodIn_of _ (by decide +kernel)) ggX11_move_X11_isName
set_option maxRecDepth 20000 in
theorem ggX11_move_X2_hasSection : GoodIn wsX11_move wsX2_hasSection := goodIn_r _ [18, 19, 12, 8, 13, 50, 51, 52, 53, 54, 55] rfl (by decide +kernel)
set_option maxRecDepth 20000 in
theorem gX11_move_X2_hasSection : GoodIn wsX11_move (wsV RX11 92 RX2 yX2_hasSection wsX2_hasSection) := goodIn_app (goodIn_of _ (by decide +kernel)) ggX11_move_X2_hasSection
set_option maxRecDepth 20000 in
theorem ggX11_move_X11_isSide : GoodIn wsX11_move wsX11_isSide := goodIn_r _ [22, 11, 12, 8, 13] rfl (by decide +kernel)
set_option maxRecDepth 20000 in
theorem gX11_move_X11_isSide : GoodIn wsX11_move (va_wsS RX11 128 yX11_isSide wsX11_isSide) := goodIn_app (goodIn_of _ (by decide +kernel)) ggX11_move_X11_isSide
set_option maxRecDepth 20000 in
theorem ggX11_move_X1_placeOf : GoodIn wsX11_move wsX1_placeOf := goodIn_r _ [27, 28, 29, 43, 44, 45, 46, 47, 48, 49] rfl (by decide +kernel)
set_option maxRecDepth 20000 in
theorem gX11_move_X1_placeOf : GoodIn wsX11_move (wsV RX11 135 RX1 yX1_placeOf wsX1_placeOf) := goodIn_app (goodIn_of _ (by decide +kernel)) ggX11_move_X1_placeOf
theorem dX11_move_0 : decode cX11_move 0 = .ok (.iload_n 1, 1) := by decide +kernel
theorem dX11_move_1 : decode cX11_move 1 = .ok (.invokestatic 122, 3) := by decide +kernel
theorem dX11_move_4 : decode cX11_move 4 = .ok (.ifCond .eq 24, 3) := by decide +kernel
theorem dX11_move_7 : decode cX11_move 7 = .ok (.aload_n 0, 1) := by decide +kernel
theorem dX11_move_8 : decode cX11_move 8 = .ok (.getfield 12, 3) := by decide +kernel
theorem dX11_move_11 : decode cX11_move 11 = .ok (.getfield 82, 3) := by decide +kernel
theorem dX11_move_14 : decode cX11_move 14 = .ok (.iload_n 2, 1) := by decide +kernel
theorem dX11_move_15 : decode cX11_move 15 = .ok (.invokevirtual 92, 3) := by decide +kernel
theorem dX11_move_18 : decode cX11_move 18 = .ok (.ifCond .eq 10, 3) := by decide +kernel
theorem dX11_move_21 : decode cX11_move 21 = .ok (.iload_n 3, 1) := by decide +kernel
theorem dX11_move_22 : decode cX11_move 22 = .ok (.invokestatic 128, 3) := by decide +kernel
theorem dX11_move_25 : decode cX11_move 25 = .ok (.ifCond .ne 5, 3) := by decide +kernel
theorem dX11_move_28 : decode cX11_move 28 = .ok (.iconst (-1), 1) := by decide +kernel
theorem dX11_move_29 : decode cX11_move 29 = .ok (.ireturn, 1) := by decide +kernel
theorem dX11_move_30 : decode cX11_move 30 = .ok (.aload_n 0, 1) := by decide +kernel
theorem dX11_move_31 : decode cX11_move 31 = .ok (.getfield 12, 3) := by decide +kernel
theorem dX11_move_34 : decode cX11_move 34 = .ok (.getfield 131, 3) := by decide +kernel
theorem dX11_move_37 : decode cX11_move 37 = .ok (.iload_n 1, 1) := by decide +kernel
theorem dX11_move_38 : decode cX11_move 38 = .ok (.invokevirtual 135, 3) := by decide +kernel
theorem dX11_move_41 : decode cX11_move 41 = .ok (.istore 4, 2) := by decide +kernel
theorem dX11_move_43 : decode cX11_move 43 = .ok (.iload 4, 2) := by decide +kernel
theorem dX11_move_45 : decode cX11_move 45 = .ok (.ifCond .ge 6, 3) := by decide +kernel
theorem dX11_move_48 : decode cX11_move 48 = .ok (.bipush (-2), 2) := by decide +kernel
theorem dX11_move_50 : decode cX11_move 50 = .ok (.ireturn, 1) := by decide +kernel
theorem dX11_move_51 : decode cX11_move 51 = .ok (.aload_n 0, 1) := by decide +kernel
theorem dX11_move_52 : decode cX11_move 52 = .ok (.getfield 12, 3) := by decide +kernel
theorem dX11_move_55 : decode cX11_move 55 = .ok (.getfield 131, 3) := by decide +kernel
theorem dX11_move_58 : decode cX11_move 58 = .ok (.getfield 152, 3) := by decide +kernel
theorem dX11_move_61 : decode cX11_move 61 = .ok (.iload 4, 2) := by decide +kernel
theorem dX11_move_63 : decode cX11_move 63 = .ok (.iaload, 1) := by decide +kernel
theorem dX11_move_64 : decode cX11_move 64 = .ok (.istore 5, 2) := by decide +kernel
theorem dX11_move_66 : decode cX11_move 66 = .ok (.aload_n 0, 1) := by decide +kernel
theorem dX11_move_67 : decode cX11_move 67 = .ok (.getfield 12, 3) := by decide +kernel
theorem dX11_move_70 : decode cX11_move 70 = .ok (.getfield 131, 3) := by decide +kernel
theorem dX11_move_73 : decode cX11_move 73 = .ok (.getfield 152, 3) := by decide +kernel
theorem dX11_move_76 : decode cX11_move 76 = .ok (.iload 4, 2) := by decide +kernel
theorem dX11_move_78 : decode cX11_move 78 = .ok (.iload_n 2, 1) := by decide +kernel
theorem dX11_move_79 : decode cX11_move 79 = .ok (.iastore, 1) := by decide +kernel
theorem dX11_move_80 : decode cX11_move 80 = .ok (.aload_n 0, 1) := by decide +kernel
theorem dX11_move_81 : decode cX11_move 81 = .ok (.getfield 12, 3) := by decide +kernel
theorem dX11_move_84 : decode cX11_move 84 = .ok (.getfield 131, 3) := by decide +kernel
theorem dX11_move_87 : decode cX11_move 87 = .ok (.getfield 155, 3) := by decide +kernel
theorem dX11_move_90 : decode cX11_move 90 = .ok (.iload 4, 2) := by decide +kernel
theorem dX11_move_92 : decode cX11_move 92 = .ok (.iload_n 3, 1) := by decide +kernel
theorem dX11_move_93 : decode cX11_move 93 = .ok (.iastore, 1) := by decide +kernel
theorem dX11_move_94 : decode cX11_move 94 = .ok (.iload 5, 2) := by decide +kernel
theorem dX11_move_96 : decode cX11_move 96 = .ok (.ireturn, 1) := by decide +kernel
set_option maxRecDepth 20000 in
theorem ggX11_goods_X11_isName : GoodIn wsX11_goods wsX11_isName := goodIn_r _ [12, 13, 14, 15, 11, 16] rfl (by decide +kernel)
set_option maxRecDepth 20000 in
theorem gX11_goods_X11_isName : GoodIn wsX11_goods (va_wsS RX11 122 yX11_isName wsX11_isName) := goodIn_app (goodIn_of _ (by decide +kernel)) ggX11_goods_X11_isName
set_option maxRecDepth 20000 in
theorem ggX11_goods_X1_placeOf : GoodIn wsX11_goods wsX1_placeOf := goodIn_r _ [21, 22, 23, 141, 142, 143, 144, 145, 146, 147] rfl (by decide +kernel)
set_option maxRecDepth 20000 in
theorem gX11_goods_X1_placeOf : GoodIn wsX11_goods (wsV RX11 135 RX1 yX1_placeOf wsX1_placeOf) := goodIn_app (goodIn_of _ (by decide +kernel)) ggX11_goods_X1_placeOf
set_option maxRecDepth 20000 in
theorem ggX11_goods_X0_weighsAt : GoodIn wsX11_goods wsX0_weighsAt := goodIn_r _ [28, 29, 30, 31, 32, 33, 34, 27, 35, 36, 37, 138, 139, 140, 141, 142, 143, 144, 145, 146, 147, 148, 149, 150, 151, 152, 153] rfl (by decide +kernel)
set_option maxRecDepth 20000 in
theorem gX11_goods_X0_weighsAt : GoodIn wsX11_goods (wsV RX11 161 RX0 yX0_weighsAt wsX0_weighsAt) := goodIn_app (goodIn_of _ (by decide +kernel)) ggX11_goods_X0_weighsAt
set_option maxRecDepth 20000 in
theorem ggX11_goods_X0_heelBehind : GoodIn wsX11_goods wsX0_heelBehind := goodIn_r _ [41, 42, 43, 44, 45, 27, 46, 36, 47, 48, 49, 50, 51, 52, 53, 54, 29, 55, 56, 57, 25, 26, 28, 30, 31, 32, 33, 34, 35, 37, 58, 59, 60, 61, 62, 63, 64, 65, 66, 67, 68, 69, 70, 71, 72, 73, 74, 75, 76, 77, 78, 79, 80, 81, 82, 83, 84, 85, 86, 87, 88, 89, 90, 91, 11, 92, 93, 94, 95, 96, 97, 98, 99, 100, 101, 102, 103, 104, 105, 106, 107, 108, 109, 110, 111, 112, 113, 114, 115, 116, 117, 118, 119, 120, 1, 121, 122, 123, 124, 125, 126, 138, 139, 140, 148, 149, 150, 151, 152, 153, 141, 142, 143, 144, 145, 146, 147, 154, 155, 156, 157] rfl (by decide +kernel)
set_option maxRecDepth 20000 in
theorem gX11_goods_X0_heelBehind : GoodIn wsX11_goods (wsV RX11 168 RX0 yX0_heelBehind wsX0_heelBehind) := goodIn_app (goodIn_of _ (by decide +kernel)) ggX11_goods_X0_heelBehind
set_option maxRecDepth 20000 in
theorem ggX11_goods_X11_rollsOf : GoodIn wsX11_goods wsX11_rollsOf := goodIn_r _ [120, 1] rfl (by decide +kernel)
set_option maxRecDepth 20000 in
theorem gX11_goods_X11_rollsOf : GoodIn wsX11_goods (va_wsS RX11 171 yX11_rollsOf wsX11_rollsOf) := goodIn_app (goodIn_of _ (by decide +kernel)) ggX11_goods_X11_rollsOf
theorem dX11_goods_0 : decode cX11_goods 0 = .ok (.iload_n 1, 1) := by decide +kernel
theorem dX11_goods_1 : decode cX11_goods 1 = .ok (.invokestatic 122, 3) := by decide +kernel
theorem dX11_goods_4 : decode cX11_goods 4 = .ok (.ifCond .ne 6, 3) := by decide +kernel
theorem dX11_goods_7 : decode cX11_goods 7 = .ok (.ldc 167, 2) := by decide +kernel
theorem dX11_goods_9 : decode cX11_goods 9 = .ok (.ireturn, 1) := by decide +kernel
theorem dX11_goods_10 : decode cX11_goods 10 = .ok (.aload_n 0, 1) := by decide +kernel
theorem dX11_goods_11 : decode cX11_goods 11 = .ok (.getfield 12, 3) := by decide +kernel
theorem dX11_goods_14 : decode cX11_goods 14 = .ok (.getfield 131, 3) := by decide +kernel
theorem dX11_goods_17 : decode cX11_goods 17 = .ok (.iload_n 1, 1) := by decide +kernel
theorem dX11_goods_18 : decode cX11_goods 18 = .ok (.invokevirtual 135, 3) := by decide +kernel
theorem dX11_goods_21 : decode cX11_goods 21 = .ok (.istore_n 3, 1) := by decide +kernel
theorem dX11_goods_22 : decode cX11_goods 22 = .ok (.iload_n 3, 1) := by decide +kernel
theorem dX11_goods_23 : decode cX11_goods 23 = .ok (.ifCond .ge 6, 3) := by decide +kernel
theorem dX11_goods_26 : decode cX11_goods 26 = .ok (.ldc 167, 2) := by decide +kernel
theorem dX11_goods_28 : decode cX11_goods 28 = .ok (.ireturn, 1) := by decide +kernel
theorem dX11_goods_29 : decode cX11_goods 29 = .ok (.iload_n 2, 1) := by decide +kernel
theorem dX11_goods_30 : decode cX11_goods 30 = .ok (.tableswitch 140 0 6 #[42, 55, 68, 81, 94, 107, 116], 42) := by decide +kernel
theorem dX11_goods_72 : decode cX11_goods 72 = .ok (.aload_n 0, 1) := by decide +kernel
theorem dX11_goods_73 : decode cX11_goods 73 = .ok (.getfield 12, 3) := by decide +kernel
theorem dX11_goods_76 : decode cX11_goods 76 = .ok (.getfield 131, 3) := by decide +kernel
theorem dX11_goods_79 : decode cX11_goods 79 = .ok (.getfield 146, 3) := by decide +kernel
theorem dX11_goods_82 : decode cX11_goods 82 = .ok (.iload_n 3, 1) := by decide +kernel
theorem dX11_goods_83 : decode cX11_goods 83 = .ok (.iaload, 1) := by decide +kernel
theorem dX11_goods_84 : decode cX11_goods 84 = .ok (.ireturn, 1) := by decide +kernel
theorem dX11_goods_85 : decode cX11_goods 85 = .ok (.aload_n 0, 1) := by decide +kernel
theorem dX11_goods_86 : decode cX11_goods 86 = .ok (.getfield 12, 3) := by decide +kernel
theorem dX11_goods_89 : decode cX11_goods 89 = .ok (.getfield 131, 3) := by decide +kernel
theorem dX11_goods_92 : decode cX11_goods 92 = .ok (.getfield 149, 3) := by decide +kernel
theorem dX11_goods_95 : decode cX11_goods 95 = .ok (.iload_n 3, 1) := by decide +kernel
theorem dX11_goods_96 : decode cX11_goods 96 = .ok (.iaload, 1) := by decide +kernel
theorem dX11_goods_97 : decode cX11_goods 97 = .ok (.ireturn, 1) := by decide +kernel
theorem dX11_goods_98 : decode cX11_goods 98 = .ok (.aload_n 0, 1) := by decide +kernel
theorem dX11_goods_99 : decode cX11_goods 99 = .ok (.getfield 12, 3) := by decide +kernel
theorem dX11_goods_102 : decode cX11_goods 102 = .ok (.getfield 131, 3) := by decide +kernel
theorem dX11_goods_105 : decode cX11_goods 105 = .ok (.getfield 152, 3) := by decide +kernel
theorem dX11_goods_108 : decode cX11_goods 108 = .ok (.iload_n 3, 1) := by decide +kernel
theorem dX11_goods_109 : decode cX11_goods 109 = .ok (.iaload, 1) := by decide +kernel
theorem dX11_goods_110 : decode cX11_goods 110 = .ok (.ireturn, 1) := by decide +kernel
theorem dX11_goods_111 : decode cX11_goods 111 = .ok (.aload_n 0, 1) := by decide +kernel
theorem dX11_goods_112 : decode cX11_goods 112 = .ok (.getfield 12, 3) := by decide +kernel
theorem dX11_goods_115 : decode cX11_goods 115 = .ok (.getfield 131, 3) := by decide +kernel
theorem dX11_goods_118 : decode cX11_goods 118 = .ok (.getfield 155, 3) := by decide +kernel
theorem dX11_goods_121 : decode cX11_goods 121 = .ok (.iload_n 3, 1) := by decide +kernel
theorem dX11_goods_122 : decode cX11_goods 122 = .ok (.iaload, 1) := by decide +kernel
theorem dX11_goods_123 : decode cX11_goods 123 = .ok (.ireturn, 1) := by decide +kernel
theorem dX11_goods_124 : decode cX11_goods 124 = .ok (.aload_n 0, 1) := by decide +kernel
theorem dX11_goods_125 : decode cX11_goods 125 = .ok (.getfield 12, 3) := by decide +kernel
theorem dX11_goods_128 : decode cX11_goods 128 = .ok (.getfield 131, 3) := by decide +kernel
theorem dX11_goods_131 : decode cX11_goods 131 = .ok (.getfield 158, 3) := by decide +kernel
theorem dX11_goods_134 : decode cX11_goods 134 = .ok (.iload_n 3, 1) := by decide +kernel
theorem dX11_goods_135 : decode cX11_goods 135 = .ok (.iaload, 1) := by decide +kernel
theorem dX11_goods_136 : decode cX11_goods 136 = .ok (.ireturn, 1) := by decide +kernel
theorem dX11_goods_137 : decode cX11_goods 137 = .ok (.aload_n 0, 1) := by decide +kernel
theorem dX11_goods_138 : decode cX11_goods 138 = .ok (.getfield 12, 3) := by decide +kernel
theorem dX11_goods_141 : decode cX11_goods 141 = .ok (.iload_n 3, 1) := by decide +kernel
theorem dX11_goods_142 : decode cX11_goods 142 = .ok (.invokevirtual 161, 3) := by decide +kernel
theorem dX11_goods_145 : decode cX11_goods 145 = .ok (.ireturn, 1) := by decide +kernel
theorem dX11_goods_146 : decode cX11_goods 146 = .ok (.aload_n 0, 1) := by decide +kernel
theorem dX11_goods_147 : decode cX11_goods 147 = .ok (.getfield 12, 3) := by decide +kernel
theorem dX11_goods_150 : decode cX11_goods 150 = .ok (.getfield 131, 3) := by decide +kernel
theorem dX11_goods_153 : decode cX11_goods 153 = .ok (.getfield 146, 3) := by decide +kernel
theorem dX11_goods_156 : decode cX11_goods 156 = .ok (.iload_n 3, 1) := by decide +kernel
theorem dX11_goods_157 : decode cX11_goods 157 = .ok (.iaload, 1) := by decide +kernel
theorem dX11_goods_158 : decode cX11_goods 158 = .ok (.aload_n 0, 1) := by decide +kernel
theorem dX11_goods_159 : decode cX11_goods 159 = .ok (.getfield 12, 3) := by decide +kernel
theorem dX11_goods_162 : decode cX11_goods 162 = .ok (.iconst 0, 1) := by decide +kernel
theorem dX11_goods_163 : decode cX11_goods 163 = .ok (.invokevirtual 168, 3) := by decide +kernel
theorem dX11_goods_166 : decode cX11_goods 166 = .ok (.invokestatic 171, 3) := by decide +kernel
theorem dX11_goods_169 : decode cX11_goods 169 = .ok (.ireturn, 1) := by decide +kernel
theorem dX11_goods_170 : decode cX11_goods 170 = .ok (.ldc 167, 2) := by decide +kernel
theorem dX11_goods_172 : decode cX11_goods 172 = .ok (.ireturn, 1) := by decide +kernel
set_option maxRecDepth 20000 in
theorem ggX11_taken_X11_isName : GoodIn wsX11_taken wsX11_isName := goodIn_r _ [8, 9, 10, 11, 7, 12] rfl (by decide +kernel)
set_option maxRecDepth 20000 in
theorem gX11_taken_X11_isName : GoodIn wsX11_taken (va_wsS RX11 122 yX11_isName wsX11_isName) := goodIn_app (goodIn_of _ (by decide +kernel)) ggX11_taken_X11_isName
set_option maxRecDepth 20000 in
theorem ggX11_taken_X11_isKind : GoodIn wsX11_taken wsX11_isKind := goodIn_r _ [15, 10, 11, 7, 12] rfl (by decide +kernel)
set_option maxRecDepth 20000 in
theorem gX11_taken_X11_isKind : GoodIn wsX11_taken (va_wsS RX11 125 yX11_isKind wsX11_isKind) := goodIn_app (goodIn_of _ (by decide +kernel)) ggX11_taken_X11_isKind
set_option maxRecDepth 20000 in
theorem ggX11_taken_X1_placeOf : GoodIn wsX11_taken wsX1_placeOf := goodIn_r _ [20, 21, 22, 40, 41, 42, 43, 44, 45, 46] rfl (by decide +kernel)
set_option maxRecDepth 20000 in
theorem gX11_taken_X1_placeOf : GoodIn wsX11_taken (wsV RX11 135 RX1 yX1_placeOf wsX1_placeOf) := goodIn_app (goodIn_of _ (by decide +kernel)) ggX11_taken_X1_placeOf
set_option maxRecDepth 20000 in
theorem ggX11_taken_X11_isOfKind : GoodIn wsX11_taken wsX11_isOfKind := goodIn_r _ [25, 26, 13, 14, 7, 15, 10, 11, 12] rfl (by decide +kernel)
set_option maxRecDepth 20000 in
theorem gX11_taken_X11_isOfKind : GoodIn wsX11_taken (va_wsS RX11 175 yX11_isOfKind wsX11_isOfKind) := goodIn_app (goodIn_of _ (by decide +kernel)) ggX11_taken_X11_isOfKind
theorem dX11_taken_0 : decode cX11_taken 0 = .ok (.iload_n 1, 1) := by decide +kernel
theorem dX11_taken_1 : decode cX11_taken 1 = .ok (.invokestatic 122, 3) := by decide +kernel
theorem dX11_taken_4 : decode cX11_taken 4 = .ok (.ifCond .eq 10, 3) := by decide +kernel
theorem dX11_taken_7 : decode cX11_taken 7 = .ok (.iload_n 2, 1) := by decide +kernel
theorem dX11_taken_8 : decode cX11_taken 8 = .ok (.invokestatic 125, 3) := by decide +kernel
theorem dX11_taken_11 : decode cX11_taken 11 = .ok (.ifCond .ne 5, 3) := by decide +kernel
theorem dX11_taken_14 : decode cX11_taken 14 = .ok (.iconst (-1), 1) := by decide +kernel
theorem dX11_taken_15 : decode cX11_taken 15 = .ok (.ireturn, 1) := by decide +kernel
theorem dX11_taken_16 : decode cX11_taken 16 = .ok (.aload_n 0, 1) := by decide +kernel
theorem dX11_taken_17 : decode cX11_taken 17 = .ok (.getfield 12, 3) := by decide +kernel
theorem dX11_taken_20 : decode cX11_taken 20 = .ok (.getfield 131, 3) := by decide +kernel
theorem dX11_taken_23 : decode cX11_taken 23 = .ok (.iload_n 1, 1) := by decide +kernel
theorem dX11_taken_24 : decode cX11_taken 24 = .ok (.invokevirtual 135, 3) := by decide +kernel
theorem dX11_taken_27 : decode cX11_taken 27 = .ok (.istore_n 3, 1) := by decide +kernel
theorem dX11_taken_28 : decode cX11_taken 28 = .ok (.iload_n 3, 1) := by decide +kernel
theorem dX11_taken_29 : decode cX11_taken 29 = .ok (.ifCond .ge 6, 3) := by decide +kernel
theorem dX11_taken_32 : decode cX11_taken 32 = .ok (.bipush (-2), 2) := by decide +kernel
theorem dX11_taken_34 : decode cX11_taken 34 = .ok (.ireturn, 1) := by decide +kernel
theorem dX11_taken_35 : decode cX11_taken 35 = .ok (.aload_n 0, 1) := by decide +kernel
theorem dX11_taken_36 : decode cX11_taken 36 = .ok (.getfield 12, 3) := by decide +kernel
theorem dX11_taken_39 : decode cX11_taken 39 = .ok (.getfield 131, 3) := by decide +kernel
theorem dX11_taken_42 : decode cX11_taken 42 = .ok (.getfield 146, 3) := by decide +kernel
theorem dX11_taken_45 : decode cX11_taken 45 = .ok (.iload_n 3, 1) := by decide +kernel
theorem dX11_taken_46 : decode cX11_taken 46 = .ok (.iaload, 1) := by decide +kernel
theorem dX11_taken_47 : decode cX11_taken 47 = .ok (.iload_n 2, 1) := by decide +kernel
theorem dX11_taken_48 : decode cX11_taken 48 = .ok (.invokestatic 175, 3) := by decide +kernel
theorem dX11_taken_51 : decode cX11_taken 51 = .ok (.ifCond .eq 18, 3) := by decide +kernel
theorem dX11_taken_54 : decode cX11_taken 54 = .ok (.aload_n 0, 1) := by decide +kernel
theorem dX11_taken_55 : decode cX11_taken 55 = .ok (.getfield 12, 3) := by decide +kernel
theorem dX11_taken_58 : decode cX11_taken 58 = .ok (.getfield 131, 3) := by decide +kernel
theorem dX11_taken_61 : decode cX11_taken 61 = .ok (.getfield 149, 3) := by decide +kernel
theorem dX11_taken_64 : decode cX11_taken 64 = .ok (.iload_n 3, 1) := by decide +kernel
theorem dX11_taken_65 : decode cX11_taken 65 = .ok (.iaload, 1) := by decide +kernel
theorem dX11_taken_66 : decode cX11_taken 66 = .ok (.goto 5, 3) := by decide +kernel
theorem dX11_taken_69 : decode cX11_taken 69 = .ok (.bipush (-5), 2) := by decide +kernel
theorem dX11_taken_71 : decode cX11_taken 71 = .ok (.ireturn, 1) := by decide +kernel
set_option maxRecDepth 20000 in
theorem ggX11_tank_X11_isTank : GoodIn wsX11_tank wsX11_isTank := goodIn_r _ [11, 12, 13, 10, 14] rfl (by decide +kernel)
set_option maxRecDepth 20000 in
theorem gX11_tank_X11_isTank : GoodIn wsX11_tank (va_wsS RX11 179 yX11_isTank wsX11_isTank) := goodIn_app (goodIn_of _ (by decide +kernel)) ggX11_tank_X11_isTank
set_option maxRecDepth 20000 in
theorem ggX11_tank_X2_hasSection : GoodIn wsX11_tank wsX2_hasSection := goodIn_r _ [19, 20, 13, 10, 14, 38, 39, 40, 41, 42, 43] rfl (by decide +kernel)
set_option maxRecDepth 20000 in
theorem gX11_tank_X2_hasSection : GoodIn wsX11_tank (wsV RX11 92 RX2 yX2_hasSection wsX2_hasSection) := goodIn_app (goodIn_of _ (by decide +kernel)) ggX11_tank_X2_hasSection
set_option maxRecDepth 20000 in
theorem ggX11_tank_X11_isWithin : GoodIn wsX11_tank wsX11_isWithin := goodIn_r _ [14] rfl (by decide +kernel)
set_option maxRecDepth 20000 in
theorem gX11_tank_X11_isWithin : GoodIn wsX11_tank (va_wsS RX11 78 yX11_isWithin wsX11_isWithin) := goodIn_app (goodIn_of _ (by decide +kernel)) ggX11_tank_X11_isWithin
theorem dX11_tank_0 : decode cX11_tank 0 = .ok (.iload_n 1, 1) := by decide +kernel
theorem dX11_tank_1 : decode cX11_tank 1 = .ok (.invokestatic 179, 3) := by decide +kernel
theorem dX11_tank_4 : decode cX11_tank 4 = .ok (.ifCond .eq 17, 3) := by decide +kernel
theorem dX11_tank_7 : decode cX11_tank 7 = .ok (.aload_n 0, 1) := by decide +kernel
theorem dX11_tank_8 : decode cX11_tank 8 = .ok (.getfield 12, 3) := by decide +kernel
theorem dX11_tank_11 : decode cX11_tank 11 = .ok (.getfield 82, 3) := by decide +kernel
theorem dX11_tank_14 : decode cX11_tank 14 = .ok (.iload_n 2, 1) := by decide +kernel
theorem dX11_tank_15 : decode cX11_tank 15 = .ok (.invokevirtual 92, 3) := by decide +kernel
theorem dX11_tank_18 : decode cX11_tank 18 = .ok (.ifCond .ne 5, 3) := by decide +kernel
theorem dX11_tank_21 : decode cX11_tank 21 = .ok (.iconst (-1), 1) := by decide +kernel
theorem dX11_tank_22 : decode cX11_tank 22 = .ok (.ireturn, 1) := by decide +kernel
theorem dX11_tank_23 : decode cX11_tank 23 = .ok (.iload_n 3, 1) := by decide +kernel
theorem dX11_tank_24 : decode cX11_tank 24 = .ok (.iconst 0, 1) := by decide +kernel
theorem dX11_tank_25 : decode cX11_tank 25 = .ok (.bipush 20, 2) := by decide +kernel
theorem dX11_tank_27 : decode cX11_tank 27 = .ok (.invokestatic 78, 3) := by decide +kernel
theorem dX11_tank_30 : decode cX11_tank 30 = .ok (.ifCond .eq 15, 3) := by decide +kernel
theorem dX11_tank_33 : decode cX11_tank 33 = .ok (.iload 4, 2) := by decide +kernel
theorem dX11_tank_35 : decode cX11_tank 35 = .ok (.iconst 0, 1) := by decide +kernel
theorem dX11_tank_36 : decode cX11_tank 36 = .ok (.sipush 999, 3) := by decide +kernel
theorem dX11_tank_39 : decode cX11_tank 39 = .ok (.invokestatic 78, 3) := by decide +kernel
theorem dX11_tank_42 : decode cX11_tank 42 = .ok (.ifCond .ne 5, 3) := by decide +kernel
theorem dX11_tank_45 : decode cX11_tank 45 = .ok (.iconst (-1), 1) := by decide +kernel
theorem dX11_tank_46 : decode cX11_tank 46 = .ok (.ireturn, 1) := by decide +kernel
theorem dX11_tank_47 : decode cX11_tank 47 = .ok (.aload_n 0, 1) := by decide +kernel
theorem dX11_tank_48 : decode cX11_tank 48 = .ok (.getfield 12, 3) := by decide +kernel
theorem dX11_tank_51 : decode cX11_tank 51 = .ok (.getfield 182, 3) := by decide +kernel
theorem dX11_tank_54 : decode cX11_tank 54 = .ok (.getfield 186, 3) := by decide +kernel
theorem dX11_tank_57 : decode cX11_tank 57 = .ok (.iload_n 1, 1) := by decide +kernel
theorem dX11_tank_58 : decode cX11_tank 58 = .ok (.iload_n 2, 1) := by decide +kernel
theorem dX11_tank_59 : decode cX11_tank 59 = .ok (.iastore, 1) := by decide +kernel
theorem dX11_tank_60 : decode cX11_tank 60 = .ok (.aload_n 0, 1) := by decide +kernel
theorem dX11_tank_61 : decode cX11_tank 61 = .ok (.getfield 12, 3) := by decide +kernel
theorem dX11_tank_64 : decode cX11_tank 64 = .ok (.getfield 182, 3) := by decide +kernel
theorem dX11_tank_67 : decode cX11_tank 67 = .ok (.getfield 189, 3) := by decide +kernel
theorem dX11_tank_70 : decode cX11_tank 70 = .ok (.iload_n 1, 1) := by decide +kernel
theorem dX11_tank_71 : decode cX11_tank 71 = .ok (.iload_n 3, 1) := by decide +kernel
theorem dX11_tank_72 : decode cX11_tank 72 = .ok (.iastore, 1) := by decide +kernel
theorem dX11_tank_73 : decode cX11_tank 73 = .ok (.aload_n 0, 1) := by decide +kernel
theorem dX11_tank_74 : decode cX11_tank 74 = .ok (.getfield 12, 3) := by decide +kernel
theorem dX11_tank_77 : decode cX11_tank 77 = .ok (.getfield 182, 3) := by decide +kernel
theorem dX11_tank_80 : decode cX11_tank 80 = .ok (.getfield 192, 3) := by decide +kernel
theorem dX11_tank_83 : decode cX11_tank 83 = .ok (.iload_n 1, 1) := by decide +kernel
theorem dX11_tank_84 : decode cX11_tank 84 = .ok (.iload 4, 2) := by decide +kernel
theorem dX11_tank_86 : decode cX11_tank 86 = .ok (.iastore, 1) := by decide +kernel
theorem dX11_tank_87 : decode cX11_tank 87 = .ok (.aload_n 0, 1) := by decide +kernel
theorem dX11_tank_88 : decode cX11_tank 88 = .ok (.getfield 12, 3) := by decide +kernel
theorem dX11_tank_91 : decode cX11_tank 91 = .ok (.getfield 182, 3) := by decide +kernel
theorem dX11_tank_94 : decode cX11_tank 94 = .ok (.getfield 195, 3) := by decide +kernel
theorem dX11_tank_97 : decode cX11_tank 97 = .ok (.iload_n 1, 1) := by decide +kernel
theorem dX11_tank_98 : decode cX11_tank 98 = .ok (.iconst 0, 1) := by decide +kernel
theorem dX11_tank_99 : decode cX11_tank 99 = .ok (.iastore, 1) := by decide +kernel
theorem dX11_tank_100 : decode cX11_tank 100 = .ok (.iconst 1, 1) := by decide +kernel
theorem dX11_tank_101 : decode cX11_tank 101 = .ok (.ireturn, 1) := by decide +kernel
set_option maxRecDepth 20000 in
theorem ggX11_fill_X11_isTank : GoodIn wsX11_fill wsX11_isTank := goodIn_r _ [8, 9, 10, 7, 11] rfl (by decide +kernel)
set_option maxRecDepth 20000 in
theorem gX11_fill_X11_isTank : GoodIn wsX11_fill (va_wsS RX11 179 yX11_isTank wsX11_isTank) := goodIn_app (goodIn_of _ (by decide +kernel)) ggX11_fill_X11_isTank
set_option maxRecDepth 20000 in
theorem ggX11_fill_X8_isThere : GoodIn wsX11_fill wsX8_isThere := goodIn_r _ [16, 17, 31, 32, 33, 34] rfl (by decide +kernel)
set_option maxRecDepth 20000 in
theorem gX11_fill_X8_isThere : GoodIn wsX11_fill (wsV RX11 198 RX8 yX8_isThere wsX8_isThere) := goodIn_app (goodIn_of _ (by decide +kernel)) ggX11_fill_X8_isThere
theorem dX11_fill_0 : decode cX11_fill 0 = .ok (.iload_n 1, 1) := by decide +kernel
theorem dX11_fill_1 : decode cX11_fill 1 = .ok (.invokestatic 179, 3) := by decide +kernel
theorem dX11_fill_4 : decode cX11_fill 4 = .ok (.ifCond .eq 7, 3) := by decide +kernel
theorem dX11_fill_7 : decode cX11_fill 7 = .ok (.iload_n 2, 1) := by decide +kernel
theorem dX11_fill_8 : decode cX11_fill 8 = .ok (.ifCond .ge 5, 3) := by decide +kernel
theorem dX11_fill_11 : decode cX11_fill 11 = .ok (.iconst (-1), 1) := by decide +kernel
theorem dX11_fill_12 : decode cX11_fill 12 = .ok (.ireturn, 1) := by decide +kernel
theorem dX11_fill_13 : decode cX11_fill 13 = .ok (.aload_n 0, 1) := by decide +kernel
theorem dX11_fill_14 : decode cX11_fill 14 = .ok (.getfield 12, 3) := by decide +kernel
theorem dX11_fill_17 : decode cX11_fill 17 = .ok (.getfield 182, 3) := by decide +kernel
theorem dX11_fill_20 : decode cX11_fill 20 = .ok (.getfield 192, 3) := by decide +kernel
theorem dX11_fill_23 : decode cX11_fill 23 = .ok (.iload_n 1, 1) := by decide +kernel
theorem dX11_fill_24 : decode cX11_fill 24 = .ok (.iaload, 1) := by decide +kernel
theorem dX11_fill_25 : decode cX11_fill 25 = .ok (.iload_n 2, 1) := by decide +kernel
theorem dX11_fill_26 : decode cX11_fill 26 = .ok (.if_icmp .lt 17, 3) := by decide +kernel
theorem dX11_fill_29 : decode cX11_fill 29 = .ok (.aload_n 0, 1) := by decide +kernel
theorem dX11_fill_30 : decode cX11_fill 30 = .ok (.getfield 12, 3) := by decide +kernel
theorem dX11_fill_33 : decode cX11_fill 33 = .ok (.getfield 182, 3) := by decide +kernel
theorem dX11_fill_36 : decode cX11_fill 36 = .ok (.iload_n 1, 1) := by decide +kernel
theorem dX11_fill_37 : decode cX11_fill 37 = .ok (.invokevirtual 198, 3) := by decide +kernel
theorem dX11_fill_40 : decode cX11_fill 40 = .ok (.ifCond .ne 6, 3) := by decide +kernel
theorem dX11_fill_43 : decode cX11_fill 43 = .ok (.bipush (-5), 2) := by decide +kernel
theorem dX11_fill_45 : decode cX11_fill 45 = .ok (.ireturn, 1) := by decide +kernel
theorem dX11_fill_46 : decode cX11_fill 46 = .ok (.aload_n 0, 1) := by decide +kernel
theorem dX11_fill_47 : decode cX11_fill 47 = .ok (.getfield 12, 3) := by decide +kernel
theorem dX11_fill_50 : decode cX11_fill 50 = .ok (.getfield 182, 3) := by decide +kernel
theorem dX11_fill_53 : decode cX11_fill 53 = .ok (.getfield 195, 3) := by decide +kernel
theorem dX11_fill_56 : decode cX11_fill 56 = .ok (.iload_n 1, 1) := by decide +kernel
theorem dX11_fill_57 : decode cX11_fill 57 = .ok (.iaload, 1) := by decide +kernel
theorem dX11_fill_58 : decode cX11_fill 58 = .ok (.istore_n 3, 1) := by decide +kernel
theorem dX11_fill_59 : decode cX11_fill 59 = .ok (.aload_n 0, 1) := by decide +kernel
theorem dX11_fill_60 : decode cX11_fill 60 = .ok (.getfield 12, 3) := by decide +kernel
theorem dX11_fill_63 : decode cX11_fill 63 = .ok (.getfield 182, 3) := by decide +kernel
theorem dX11_fill_66 : decode cX11_fill 66 = .ok (.getfield 195, 3) := by decide +kernel
theorem dX11_fill_69 : decode cX11_fill 69 = .ok (.iload_n 1, 1) := by decide +kernel
theorem dX11_fill_70 : decode cX11_fill 70 = .ok (.iload_n 2, 1) := by decide +kernel
theorem dX11_fill_71 : decode cX11_fill 71 = .ok (.iastore, 1) := by decide +kernel
theorem dX11_fill_72 : decode cX11_fill 72 = .ok (.iload_n 3, 1) := by decide +kernel
theorem dX11_fill_73 : decode cX11_fill 73 = .ok (.ireturn, 1) := by decide +kernel
set_option maxRecDepth 20000 in
theorem ggX11_told_X0_allWeight : GoodIn wsX11_told wsX0_allWeight := goodIn_r _ [11, 12, 13, 14, 15, 16, 17, 18, 19, 20, 10, 21, 22, 23, 24, 25, 26, 27, 28, 132, 133, 134, 142, 143, 144, 145, 146, 147, 135, 136, 137, 138, 139, 140, 141, 148, 149, 150, 151] rfl (by decide +kernel)
set_option maxRecDepth 20000 in
theorem gX11_told_X0_allWeight : GoodIn wsX11_told (wsV RX11 201 RX0 yX0_allWeight wsX0_allWeight) := goodIn_app (goodIn_of _ (by decide +kernel)) ggX11_told_X0_allWeight
set_option maxRecDepth 20000 in
theorem ggX11_told_X0_allAlong : GoodIn wsX11_told wsX0_allAlong := goodIn_r _ [32, 12, 13, 33, 14, 15, 34, 16, 17, 35, 18, 19, 20, 10, 21, 22, 23, 24, 25, 26, 27, 28, 132, 133, 134, 142, 143, 144, 145, 146, 147, 135, 136, 137, 138, 139, 140, 141, 148, 149, 150, 151] rfl (by decide +kernel)
set_option maxRecDepth 20000 in
theorem gX11_told_X0_allAlong : GoodIn wsX11_told (wsV RX11 205 RX0 yX0_allAlong wsX0_allAlong) := goodIn_app (goodIn_of _ (by decide +kernel)) ggX11_told_X0_allAlong
set_option maxRecDepth 20000 in
theorem ggX11_told_X0_allAside : GoodIn wsX11_told wsX0_allAside := goodIn_r _ [39, 40, 41, 42, 10, 43, 14, 15, 44, 22, 45, 46, 47, 6, 48, 49, 50, 51, 52, 53, 54, 55, 56, 18, 19, 20, 21, 23, 24, 25, 26, 27, 12, 28, 132, 133, 134, 135, 136, 137, 138, 139, 140, 141, 142, 143, 144, 145, 146, 147] rfl (by decide +kernel)
set_option maxRecDepth 20000 in
theorem gX11_told_X0_allAside : GoodIn wsX11_told (wsV RX11 208 RX0 yX0_allAside wsX0_allAside) := goodIn_app (goodIn_of _ (by decide +kernel)) ggX11_told_X0_allAside
set_option maxRecDepth 20000 in
theorem ggX11_told_X0_allAloft : GoodIn wsX11_told wsX0_allAloft := goodIn_r _ [60, 14, 15, 61, 16, 17, 18, 19, 20, 10, 21, 22, 23, 24, 25, 26, 27, 12, 28, 132, 133, 134, 135, 136, 137, 138, 139, 140, 141, 148, 149, 150, 151, 142, 143, 144, 145, 146, 147] rfl (by decide +kernel)
set_option maxRecDepth 20000 in
theorem gX11_told_X0_allAloft : GoodIn wsX11_told (wsV RX11 211 RX0 yX0_allAloft wsX0_allAloft) := goodIn_app (goodIn_of _ (by decide +kernel)) ggX11_told_X0_allAloft
set_option maxRecDepth 20000 in
theorem ggX11_told_X0_allRighting : GoodIn wsX11_told wsX0_allRighting := goodIn_r _ [65, 12, 66, 33, 67, 16, 68, 8, 9, 10, 11, 13, 14, 15, 17, 18, 19, 20, 21, 22, 23, 24, 25, 26, 27, 28, 69, 70, 71, 72, 73, 74, 75, 76, 52, 77, 78, 79, 80, 81, 82, 83, 84, 85, 86, 87, 88, 89, 90, 91, 92, 93, 94, 95, 51, 53, 96, 97, 98, 99, 46, 100, 101, 102, 103, 104, 105, 106, 107, 108, 109, 110, 111, 112, 113, 58, 59, 60, 61, 132, 133, 134, 142, 143, 144, 145, 146, 147, 135, 136, 137, 138, 139, 140, 141, 148, 149, 150, 151] rfl (by decide +kernel)
set_option maxRecDepth 20000 in
theorem gX11_told_X0_allRighting : GoodIn wsX11_told (wsV RX11 214 RX0 yX0_allRighting wsX0_allRighting) := goodIn_app (goodIn_of _ (by decide +kernel)) ggX11_told_X0_allRighting
set_option maxRecDepth 20000 in
theorem ggX11_told_X8_howManySlack : GoodIn wsX11_told wsX8_howManySlack := goodIn_r _ [117, 107, 108, 109, 104, 110, 111, 112, 148, 149, 150, 151] rfl (by decide +kernel)
set_option maxRecDepth 20000 in
theorem gX11_told_X8_howManySlack : GoodIn wsX11_told (wsV RX11 217 RX8 yX8_howManySlack wsX8_howManySlack) := goodIn_app (goodIn_of _ (by decide +kernel)) ggX11_told_X8_howManySlack
set_option maxRecDepth 20000 in
theorem ggX11_told_X2_leastRise : GoodIn wsX11_told wsX2_leastRise := goodIn_r _ [121, 96, 74, 95, 51, 52, 53, 142, 143, 144, 145, 146, 147] rfl (by decide +kernel)
set_option maxRecDepth 20000 in
theorem gX11_told_X2_leastRise : GoodIn wsX11_told (wsV RX11 220 RX2 yX2_leastRise wsX2_leastRise) := goodIn_app (goodIn_of _ (by decide +kernel)) ggX11_told_X2_leastRise
theorem dX11_told_0 : decode cX11_told 0 = .ok (.iload_n 1, 1) := by decide +kernel
theorem dX11_told_1 : decode cX11_told 1 = .ok (.tableswitch 120 0 7 #[47, 55, 63, 71, 79, 87, 98, 109], 47) := by decide +kernel
theorem dX11_told_48 : decode cX11_told 48 = .ok (.aload_n 0, 1) := by decide +kernel
theorem dX11_told_49 : decode cX11_told 49 = .ok (.getfield 12, 3) := by decide +kernel
theorem dX11_told_52 : decode cX11_told 52 = .ok (.invokevirtual 201, 3) := by decide +kernel
theorem dX11_told_55 : decode cX11_told 55 = .ok (.ireturn, 1) := by decide +kernel
theorem dX11_told_56 : decode cX11_told 56 = .ok (.aload_n 0, 1) := by decide +kernel
theorem dX11_told_57 : decode cX11_told 57 = .ok (.getfield 12, 3) := by decide +kernel
theorem dX11_told_60 : decode cX11_told 60 = .ok (.invokevirtual 205, 3) := by decide +kernel
theorem dX11_told_63 : decode cX11_told 63 = .ok (.ireturn, 1) := by decide +kernel
theorem dX11_told_64 : decode cX11_told 64 = .ok (.aload_n 0, 1) := by decide +kernel
theorem dX11_told_65 : decode cX11_told 65 = .ok (.getfield 12, 3) := by decide +kernel
theorem dX11_told_68 : decode cX11_told 68 = .ok (.invokevirtual 208, 3) := by decide +kernel
theorem dX11_told_71 : decode cX11_told 71 = .ok (.ireturn, 1) := by decide +kernel
theorem dX11_told_72 : decode cX11_told 72 = .ok (.aload_n 0, 1) := by decide +kernel
theorem dX11_told_73 : decode cX11_told 73 = .ok (.getfield 12, 3) := by decide +kernel
theorem dX11_told_76 : decode cX11_told 76 = .ok (.invokevirtual 211, 3) := by decide +kernel
theorem dX11_told_79 : decode cX11_told 79 = .ok (.ireturn, 1) := by decide +kernel
theorem dX11_told_80 : decode cX11_told 80 = .ok (.aload_n 0, 1) := by decide +kernel
theorem dX11_told_81 : decode cX11_told 81 = .ok (.getfield 12, 3) := by decide +kernel
theorem dX11_told_84 : decode cX11_told 84 = .ok (.invokevirtual 214, 3) := by decide +kernel
theorem dX11_told_87 : decode cX11_told 87 = .ok (.ireturn, 1) := by decide +kernel
theorem dX11_told_88 : decode cX11_told 88 = .ok (.aload_n 0, 1) := by decide +kernel
theorem dX11_told_89 : decode cX11_told 89 = .ok (.getfield 12, 3) := by decide +kernel
theorem dX11_told_92 : decode cX11_told 92 = .ok (.getfield 131, 3) := by decide +kernel
theorem dX11_told_95 : decode cX11_told 95 = .ok (.getfield 140, 3) := by decide +kernel
theorem dX11_told_98 : decode cX11_told 98 = .ok (.ireturn, 1) := by decide +kernel
theorem dX11_told_99 : decode cX11_told 99 = .ok (.aload_n 0, 1) := by decide +kernel
theorem dX11_told_100 : decode cX11_told 100 = .ok (.getfield 12, 3) := by decide +kernel
theorem dX11_told_103 : decode cX11_told 103 = .ok (.getfield 182, 3) := by decide +kernel
theorem dX11_told_106 : decode cX11_told 106 = .ok (.invokevirtual 217, 3) := by decide +kernel
theorem dX11_told_109 : decode cX11_told 109 = .ok (.ireturn, 1) := by decide +kernel
theorem dX11_told_110 : decode cX11_told 110 = .ok (.aload_n 0, 1) := by decide +kernel
theorem dX11_told_111 : decode cX11_told 111 = .ok (.getfield 12, 3) := by decide +kernel
theorem dX11_told_114 : decode cX11_told 114 = .ok (.getfield 82, 3) := by decide +kernel
theorem dX11_told_117 : decode cX11_told 117 = .ok (.invokevirtual 220, 3) := by decide +kernel
theorem dX11_told_120 : decode cX11_told 120 = .ok (.ireturn, 1) := by decide +kernel
theorem dX11_told_121 : decode cX11_told 121 = .ok (.ldc 167, 2) := by decide +kernel
theorem dX11_told_123 : decode cX11_told 123 = .ok (.ireturn, 1) := by decide +kernel
set_option maxRecDepth 20000 in
theorem ggX11_water_X11_isWithin : GoodIn wsX11_water wsX11_isWithin := goodIn_r _ [7] rfl (by decide +kernel)
set_option maxRecDepth 20000 in
theorem gX11_water_X11_isWithin : GoodIn wsX11_water (va_wsS RX11 78 yX11_isWithin wsX11_isWithin) := goodIn_app (goodIn_of _ (by decide +kernel)) ggX11_water_X11_isWithin
set_option maxRecDepth 20000 in
theorem ggX11_water_X2_waterOfSlope : GoodIn wsX11_water wsX2_waterOfSlope := goodIn_r _ [12, 13, 14, 15, 16, 11, 17, 18, 19, 20, 21, 22, 23, 24, 25, 26, 27, 28, 29, 30, 31, 32, 51, 52, 53, 54, 55, 56] rfl (by decide +kernel)
set_option maxRecDepth 20000 in
theorem gX11_water_X2_waterOfSlope : GoodIn wsX11_water (wsV RX11 223 RX2 yX2_waterOfSlope wsX2_waterOfSlope) := goodIn_app (goodIn_of _ (by decide +kernel)) ggX11_water_X2_waterOfSlope
set_option maxRecDepth 20000 in
theorem ggX11_water_X2_hasSection : GoodIn wsX11_water wsX2_hasSection := goodIn_r _ [36, 13, 5, 6, 7, 51, 52, 53, 54, 55, 56] rfl (by decide +kernel)
set_option maxRecDepth 20000 in
theorem gX11_water_X2_hasSection : GoodIn wsX11_water (wsV RX11 92 RX2 yX2_hasSection wsX2_hasSection) := goodIn_app (goodIn_of _ (by decide +kernel)) ggX11_water_X2_hasSection
set_option maxRecDepth 20000 in
theorem ggX11_water_X2_waterAt : GoodIn wsX11_water wsX2_waterAt := goodIn_r _ [21, 22, 23, 24, 25, 26, 27, 28, 29, 30, 11, 31, 32, 51, 52, 53, 54, 55, 56] rfl (by decide +kernel)
set_option maxRecDepth 20000 in
theorem gX11_water_X2_waterAt : GoodIn wsX11_water (wsV RX11 226 RX2 yX2_waterAt wsX2_waterAt) := goodIn_app (goodIn_of _ (by decide +kernel)) ggX11_water_X2_waterAt
theorem dX11_water_0 : decode cX11_water 0 = .ok (.iload_n 2, 1) := by decide +kernel
theorem dX11_water_1 : decode cX11_water 1 = .ok (.sipush (-9999), 3) := by decide +kernel
theorem dX11_water_4 : decode cX11_water 4 = .ok (.sipush 9999, 3) := by decide +kernel
theorem dX11_water_7 : decode cX11_water 7 = .ok (.invokestatic 78, 3) := by decide +kernel
theorem dX11_water_10 : decode cX11_water 10 = .ok (.ifCond .ne 6, 3) := by decide +kernel
theorem dX11_water_13 : decode cX11_water 13 = .ok (.ldc 167, 2) := by decide +kernel
theorem dX11_water_15 : decode cX11_water 15 = .ok (.ireturn, 1) := by decide +kernel
theorem dX11_water_16 : decode cX11_water 16 = .ok (.iload_n 1, 1) := by decide +kernel
theorem dX11_water_17 : decode cX11_water 17 = .ok (.iconst (-1), 1) := by decide +kernel
theorem dX11_water_18 : decode cX11_water 18 = .ok (.if_icmp .ne 16, 3) := by decide +kernel
theorem dX11_water_21 : decode cX11_water 21 = .ok (.aload_n 0, 1) := by decide +kernel
theorem dX11_water_22 : decode cX11_water 22 = .ok (.getfield 12, 3) := by decide +kernel
theorem dX11_water_25 : decode cX11_water 25 = .ok (.getfield 82, 3) := by decide +kernel
theorem dX11_water_28 : decode cX11_water 28 = .ok (.iload_n 2, 1) := by decide +kernel
theorem dX11_water_29 : decode cX11_water 29 = .ok (.iconst 0, 1) := by decide +kernel
theorem dX11_water_30 : decode cX11_water 30 = .ok (.invokevirtual 223, 3) := by decide +kernel
theorem dX11_water_33 : decode cX11_water 33 = .ok (.ireturn, 1) := by decide +kernel
theorem dX11_water_34 : decode cX11_water 34 = .ok (.aload_n 0, 1) := by decide +kernel
theorem dX11_water_35 : decode cX11_water 35 = .ok (.getfield 12, 3) := by decide +kernel
theorem dX11_water_38 : decode cX11_water 38 = .ok (.getfield 82, 3) := by decide +kernel
theorem dX11_water_41 : decode cX11_water 41 = .ok (.iload_n 1, 1) := by decide +kernel
theorem dX11_water_42 : decode cX11_water 42 = .ok (.invokevirtual 92, 3) := by decide +kernel
theorem dX11_water_45 : decode cX11_water 45 = .ok (.ifCond .eq 18, 3) := by decide +kernel
theorem dX11_water_48 : decode cX11_water 48 = .ok (.aload_n 0, 1) := by decide +kernel
theorem dX11_water_49 : decode cX11_water 49 = .ok (.getfield 12, 3) := by decide +kernel
theorem dX11_water_52 : decode cX11_water 52 = .ok (.getfield 82, 3) := by decide +kernel
theorem dX11_water_55 : decode cX11_water 55 = .ok (.iload_n 1, 1) := by decide +kernel
theorem dX11_water_56 : decode cX11_water 56 = .ok (.iload_n 2, 1) := by decide +kernel
theorem dX11_water_57 : decode cX11_water 57 = .ok (.invokevirtual 226, 3) := by decide +kernel
theorem dX11_water_60 : decode cX11_water 60 = .ok (.goto 5, 3) := by decide +kernel
theorem dX11_water_63 : decode cX11_water 63 = .ok (.ldc 167, 2) := by decide +kernel
theorem dX11_water_65 : decode cX11_water 65 = .ok (.ireturn, 1) := by decide +kernel
set_option maxRecDepth 20000 in
theorem ggX11_line_X0_allWeight : GoodIn wsX11_line wsX0_allWeight := goodIn_r _ [7, 8, 9, 10, 11, 12, 13, 14, 15, 16, 6, 17, 18, 19, 20, 21, 22, 23, 24, 67, 68, 69, 70, 71, 72, 73, 74, 75, 76, 77, 78, 79, 80, 81, 82, 83, 84, 85, 86] rfl (by decide +kernel)
set_option maxRecDepth 20000 in
theorem gX11_line_X0_allWeight : GoodIn wsX11_line (wsV RX11 201 RX0 yX0_allWeight wsX0_allWeight) := goodIn_app (goodIn_of _ (by decide +kernel)) ggX11_line_X0_allWeight
set_option maxRecDepth 20000 in
theorem ggX11_line_X2_startOf : GoodIn wsX11_line wsX2_startOf := goodIn_r _ [29, 30, 31, 32, 33, 34, 35, 36, 37, 28, 38, 39, 40, 41, 42, 43, 44, 45, 46, 47, 48, 49, 50, 51, 52, 53, 54, 55, 56, 70, 71, 72, 73, 74, 75] rfl (by decide +kernel)
set_option maxRecDepth 20000 in
theorem gX11_line_X2_startOf : GoodIn wsX11_line (wsV RX11 229 RX2 yX2_startOf wsX2_startOf) := goodIn_app (goodIn_of _ (by decide +kernel)) ggX11_line_X2_startOf
theorem dX11_line_0 : decode cX11_line 0 = .ok (.aload_n 0, 1) := by decide +kernel
theorem dX11_line_1 : decode cX11_line 1 = .ok (.getfield 12, 3) := by decide +kernel
theorem dX11_line_4 : decode cX11_line 4 = .ok (.getfield 82, 3) := by decide +kernel
theorem dX11_line_7 : decode cX11_line 7 = .ok (.iconst 0, 1) := by decide +kernel
theorem dX11_line_8 : decode cX11_line 8 = .ok (.aload_n 0, 1) := by decide +kernel
theorem dX11_line_9 : decode cX11_line 9 = .ok (.getfield 12, 3) := by decide +kernel
theorem dX11_line_12 : decode cX11_line 12 = .ok (.invokevirtual 201, 3) := by decide +kernel
theorem dX11_line_15 : decode cX11_line 15 = .ok (.invokevirtual 229, 3) := by decide +kernel
theorem dX11_line_18 : decode cX11_line 18 = .ok (.ireturn, 1) := by decide +kernel
set_option maxRecDepth 20000 in
theorem ggX11_trim_X11_isWithin : GoodIn wsX11_trim wsX11_isWithin := goodIn_r _ [10] rfl (by decide +kernel)
set_option maxRecDepth 20000 in
theorem gX11_trim_X11_isWithin : GoodIn wsX11_trim (va_wsS RX11 78 yX11_isWithin wsX11_isWithin) := goodIn_app (goodIn_of _ (by decide +kernel)) ggX11_trim_X11_isWithin
set_option maxRecDepth 20000 in
theorem ggX11_trim_X10_find : GoodIn wsX11_trim wsX10_find := goodIn_r _ [15, 16, 17, 18, 19, 20, 21, 22, 23, 24, 25, 26, 27, 28, 29, 30, 31, 32, 33, 34, 35, 36, 37, 38, 39, 40, 41, 42, 43, 44, 45, 46, 47, 48, 49, 50, 51, 52, 53, 54, 55, 56, 57, 58, 59, 60, 61, 62, 63, 64, 65, 66, 67, 68, 69, 70, 71, 72, 73, 74, 75, 76, 77, 78, 79, 80, 81, 82, 83, 84, 85, 86, 87, 88, 89, 90, 91, 92, 93, 104, 105, 106, 107, 108, 109, 110, 111, 112, 113, 114, 115, 116, 117, 118, 119, 120, 121, 122, 123, 124, 125, 126] rfl (by decide +kernel)
set_option maxRecDepth 20000 in
theorem gX11_trim_X10_find : GoodIn wsX11_trim (wsV RX11 232 RX10 yX10_find wsX10_find) := goodIn_app (goodIn_of _ (by decide +kernel)) ggX11_trim_X10_find
theorem dX11_trim_0 : decode cX11_trim 0 = .ok (.iload_n 1, 1) := by decide +kernel
theorem dX11_trim_1 : decode cX11_trim 1 = .ok (.iconst 0, 1) := by decide +kernel
theorem dX11_trim_2 : decode cX11_trim 2 = .ok (.iconst 2, 1) := by decide +kernel
theorem dX11_trim_3 : decode cX11_trim 3 = .ok (.invokestatic 78, 3) := by decide +kernel
theorem dX11_trim_6 : decode cX11_trim 6 = .ok (.ifCond .eq 17, 3) := by decide +kernel
theorem dX11_trim_9 : decode cX11_trim 9 = .ok (.aload_n 0, 1) := by decide +kernel
theorem dX11_trim_10 : decode cX11_trim 10 = .ok (.getfield 49, 3) := by decide +kernel
theorem dX11_trim_13 : decode cX11_trim 13 = .ok (.aload_n 0, 1) := by decide +kernel
theorem dX11_trim_14 : decode cX11_trim 14 = .ok (.getfield 12, 3) := by decide +kernel
theorem dX11_trim_17 : decode cX11_trim 17 = .ok (.invokevirtual 232, 3) := by decide +kernel
theorem dX11_trim_20 : decode cX11_trim 20 = .ok (.ifCond .ne 6, 3) := by decide +kernel
theorem dX11_trim_23 : decode cX11_trim 23 = .ok (.ldc 167, 2) := by decide +kernel
theorem dX11_trim_25 : decode cX11_trim 25 = .ok (.ireturn, 1) := by decide +kernel
theorem dX11_trim_26 : decode cX11_trim 26 = .ok (.iload_n 1, 1) := by decide +kernel
theorem dX11_trim_27 : decode cX11_trim 27 = .ok (.ifCond .ne 11, 3) := by decide +kernel
theorem dX11_trim_30 : decode cX11_trim 30 = .ok (.aload_n 0, 1) := by decide +kernel
theorem dX11_trim_31 : decode cX11_trim 31 = .ok (.getfield 49, 3) := by decide +kernel
theorem dX11_trim_34 : decode cX11_trim 34 = .ok (.getfield 236, 3) := by decide +kernel
theorem dX11_trim_37 : decode cX11_trim 37 = .ok (.ireturn, 1) := by decide +kernel
theorem dX11_trim_38 : decode cX11_trim 38 = .ok (.iload_n 1, 1) := by decide +kernel
theorem dX11_trim_39 : decode cX11_trim 39 = .ok (.iconst 1, 1) := by decide +kernel
theorem dX11_trim_40 : decode cX11_trim 40 = .ok (.if_icmp .ne 13, 3) := by decide +kernel
theorem dX11_trim_43 : decode cX11_trim 43 = .ok (.aload_n 0, 1) := by decide +kernel
theorem dX11_trim_44 : decode cX11_trim 44 = .ok (.getfield 49, 3) := by decide +kernel
theorem dX11_trim_47 : decode cX11_trim 47 = .ok (.getfield 239, 3) := by decide +kernel
theorem dX11_trim_50 : decode cX11_trim 50 = .ok (.goto 10, 3) := by decide +kernel
theorem dX11_trim_53 : decode cX11_trim 53 = .ok (.aload_n 0, 1) := by decide +kernel
theorem dX11_trim_54 : decode cX11_trim 54 = .ok (.getfield 49, 3) := by decide +kernel
theorem dX11_trim_57 : decode cX11_trim 57 = .ok (.getfield 242, 3) := by decide +kernel
theorem dX11_trim_60 : decode cX11_trim 60 = .ok (.ireturn, 1) := by decide +kernel
set_option maxRecDepth 20000 in
theorem ggX11_off_X11_isWithin : GoodIn wsX11_off wsX11_isWithin := goodIn_r _ [6] rfl (by decide +kernel)
set_option maxRecDepth 20000 in
theorem gX11_off_X11_isWithin : GoodIn wsX11_off (va_wsS RX11 78 yX11_isWithin wsX11_isWithin) := goodIn_app (goodIn_of _ (by decide +kernel)) ggX11_off_X11_isWithin
set_option maxRecDepth 20000 in
theorem ggX11_off_X0_offOf : GoodIn wsX11_off wsX0_offOf := goodIn_r _ [11, 12, 13, 14, 15, 16, 10, 17, 18, 19, 20, 21, 22, 23, 24, 25, 26, 27, 28, 29, 30, 31, 32, 33, 34, 35, 36, 37, 38, 39, 40, 41, 42, 43, 44, 45, 46, 47, 48, 49, 50, 51, 52, 53, 54, 55, 56, 57, 58, 59, 60, 61, 62, 63, 64, 65, 66, 67, 68, 69, 70, 71, 72, 73, 74, 75, 76, 87, 88, 89, 90, 91, 92, 93, 94, 95, 96, 97, 98, 99, 100, 101, 102, 103, 104, 105, 106] rfl (by decide +kernel)
set_option maxRecDepth 20000 in
theorem gX11_off_X0_offOf : GoodIn wsX11_off (wsV RX11 245 RX0 yX0_offOf wsX0_offOf) := goodIn_app (goodIn_of _ (by decide +kernel)) ggX11_off_X0_offOf
theorem dX11_off_0 : decode cX11_off 0 = .ok (.iload_n 1, 1) := by decide +kernel
theorem dX11_off_1 : decode cX11_off 1 = .ok (.bipush (-20), 2) := by decide +kernel
theorem dX11_off_3 : decode cX11_off 3 = .ok (.bipush 20, 2) := by decide +kernel
theorem dX11_off_5 : decode cX11_off 5 = .ok (.invokestatic 78, 3) := by decide +kernel
