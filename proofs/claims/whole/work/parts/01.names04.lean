theorem dX11_doAct_67 : decode cX11_doAct 67 = .ok (.aload_n 0, 1) := by decide +kernel
theorem dX11_doAct_68 : decode cX11_doAct 68 = .ok (.aload_n 1, 1) := by decide +kernel
theorem dX11_doAct_69 : decode cX11_doAct 69 = .ok (.iconst 0, 1) := by decide +kernel
theorem dX11_doAct_70 : decode cX11_doAct 70 = .ok (.iaload, 1) := by decide +kernel
theorem dX11_doAct_71 : decode cX11_doAct 71 = .ok (.aload_n 1, 1) := by decide +kernel
theorem dX11_doAct_72 : decode cX11_doAct 72 = .ok (.iconst 1, 1) := by decide +kernel
theorem dX11_doAct_73 : decode cX11_doAct 73 = .ok (.iaload, 1) := by decide +kernel
theorem dX11_doAct_74 : decode cX11_doAct 74 = .ok (.aload_n 1, 1) := by decide +kernel
theorem dX11_doAct_75 : decode cX11_doAct 75 = .ok (.iconst 2, 1) := by decide +kernel
theorem dX11_doAct_76 : decode cX11_doAct 76 = .ok (.iaload, 1) := by decide +kernel
theorem dX11_doAct_77 : decode cX11_doAct 77 = .ok (.invokevirtual 355, 3) := by decide +kernel
theorem dX11_doAct_80 : decode cX11_doAct 80 = .ok (.ireturn, 1) := by decide +kernel
theorem dX11_doAct_81 : decode cX11_doAct 81 = .ok (.aload_n 0, 1) := by decide +kernel
theorem dX11_doAct_82 : decode cX11_doAct 82 = .ok (.aload_n 1, 1) := by decide +kernel
theorem dX11_doAct_83 : decode cX11_doAct 83 = .ok (.iconst 0, 1) := by decide +kernel
theorem dX11_doAct_84 : decode cX11_doAct 84 = .ok (.iaload, 1) := by decide +kernel
theorem dX11_doAct_85 : decode cX11_doAct 85 = .ok (.invokevirtual 359, 3) := by decide +kernel
theorem dX11_doAct_88 : decode cX11_doAct 88 = .ok (.ireturn, 1) := by decide +kernel
theorem dX11_doAct_89 : decode cX11_doAct 89 = .ok (.aload_n 0, 1) := by decide +kernel
theorem dX11_doAct_90 : decode cX11_doAct 90 = .ok (.aload_n 1, 1) := by decide +kernel
theorem dX11_doAct_91 : decode cX11_doAct 91 = .ok (.iconst 0, 1) := by decide +kernel
theorem dX11_doAct_92 : decode cX11_doAct 92 = .ok (.iaload, 1) := by decide +kernel
theorem dX11_doAct_93 : decode cX11_doAct 93 = .ok (.aload_n 1, 1) := by decide +kernel
theorem dX11_doAct_94 : decode cX11_doAct 94 = .ok (.iconst 1, 1) := by decide +kernel
theorem dX11_doAct_95 : decode cX11_doAct 95 = .ok (.iaload, 1) := by decide +kernel
theorem dX11_doAct_96 : decode cX11_doAct 96 = .ok (.invokevirtual 362, 3) := by decide +kernel
theorem dX11_doAct_99 : decode cX11_doAct 99 = .ok (.ireturn, 1) := by decide +kernel
theorem dX11_doAct_100 : decode cX11_doAct 100 = .ok (.aload_n 0, 1) := by decide +kernel
theorem dX11_doAct_101 : decode cX11_doAct 101 = .ok (.iconst 2, 1) := by decide +kernel
theorem dX11_doAct_102 : decode cX11_doAct 102 = .ok (.aload_n 1, 1) := by decide +kernel
theorem dX11_doAct_103 : decode cX11_doAct 103 = .ok (.iconst 0, 1) := by decide +kernel
theorem dX11_doAct_104 : decode cX11_doAct 104 = .ok (.iaload, 1) := by decide +kernel
theorem dX11_doAct_105 : decode cX11_doAct 105 = .ok (.invokevirtual 365, 3) := by decide +kernel
theorem dX11_doAct_108 : decode cX11_doAct 108 = .ok (.ireturn, 1) := by decide +kernel
set_option maxRecDepth 20000 in
theorem ggX11_row_X11_isRow : GoodIn wsX11_row wsX11_isRow := goodIn_r _ [5, 6, 7, 4, 8] (by decide +kernel) (by decide +kernel)
set_option maxRecDepth 20000 in
theorem gX11_row_X11_isRow : GoodIn wsX11_row (va_wsS RX11 285 yX11_isRow wsX11_isRow) := goodIn_app (goodIn_of _ (by decide +kernel)) ggX11_row_X11_isRow
set_option maxRecDepth 20000 in
theorem ggX11_row_X6_make : GoodIn wsX11_row wsX6_make := goodIn_r _ [13, 14, 15, 16, 4, 17, 18, 19, 20, 21, 22, 23, 24, 25, 26, 27, 28, 39, 40] (by decide +kernel) (by decide +kernel)
set_option maxRecDepth 20000 in
theorem gX11_row_X6_make : GoodIn wsX11_row (wsV RX11 368 RX6 yX6_make wsX6_make) := goodIn_app (goodIn_of _ (by decide +kernel)) ggX11_row_X6_make
theorem dX11_row_0 : decode cX11_row 0 = .ok (.iload_n 1, 1) := by decide +kernel
theorem dX11_row_1 : decode cX11_row 1 = .ok (.invokestatic 285, 3) := by decide +kernel
theorem dX11_row_4 : decode cX11_row 4 = .ok (.ifCond .eq 9, 3) := by decide +kernel
theorem dX11_row_7 : decode cX11_row 7 = .ok (.iload_n 2, 1) := by decide +kernel
theorem dX11_row_8 : decode cX11_row 8 = .ok (.bipush 40, 2) := by decide +kernel
theorem dX11_row_10 : decode cX11_row 10 = .ok (.if_icmp .le 5, 3) := by decide +kernel
theorem dX11_row_13 : decode cX11_row 13 = .ok (.iconst (-1), 1) := by decide +kernel
theorem dX11_row_14 : decode cX11_row 14 = .ok (.ireturn, 1) := by decide +kernel
theorem dX11_row_15 : decode cX11_row 15 = .ok (.iload_n 2, 1) := by decide +kernel
theorem dX11_row_16 : decode cX11_row 16 = .ok (.iconst (-1), 1) := by decide +kernel
theorem dX11_row_17 : decode cX11_row 17 = .ok (.if_icmp .ge 6, 3) := by decide +kernel
theorem dX11_row_20 : decode cX11_row 20 = .ok (.bipush (-14), 2) := by decide +kernel
theorem dX11_row_22 : decode cX11_row 22 = .ok (.ireturn, 1) := by decide +kernel
theorem dX11_row_23 : decode cX11_row 23 = .ok (.aload_n 0, 1) := by decide +kernel
theorem dX11_row_24 : decode cX11_row 24 = .ok (.getfield 28, 3) := by decide +kernel
theorem dX11_row_27 : decode cX11_row 27 = .ok (.iload_n 1, 1) := by decide +kernel
theorem dX11_row_28 : decode cX11_row 28 = .ok (.iload_n 2, 1) := by decide +kernel
theorem dX11_row_29 : decode cX11_row 29 = .ok (.invokevirtual 368, 3) := by decide +kernel
theorem dX11_row_32 : decode cX11_row 32 = .ok (.iconst 1, 1) := by decide +kernel
theorem dX11_row_33 : decode cX11_row 33 = .ok (.ireturn, 1) := by decide +kernel
set_option maxRecDepth 20000 in
theorem ggX11_store_X11_isRow : GoodIn wsX11_store wsX11_isRow := goodIn_r _ [6, 7, 8, 5, 9] (by decide +kernel) (by decide +kernel)
set_option maxRecDepth 20000 in
theorem gX11_store_X11_isRow : GoodIn wsX11_store (va_wsS RX11 285 yX11_isRow wsX11_isRow) := goodIn_app (goodIn_of _ (by decide +kernel)) ggX11_store_X11_isRow
set_option maxRecDepth 20000 in
theorem ggX11_store_X6_isMissing : GoodIn wsX11_store wsX6_isMissing := goodIn_r _ [14, 15, 30, 31] (by decide +kernel) (by decide +kernel)
set_option maxRecDepth 20000 in
theorem gX11_store_X6_isMissing : GoodIn wsX11_store (wsV RX11 288 RX6 yX6_isMissing wsX6_isMissing) := goodIn_app (goodIn_of _ (by decide +kernel)) ggX11_store_X6_isMissing
set_option maxRecDepth 20000 in
theorem ggX11_store_X6_hasPlace : GoodIn wsX11_store wsX6_hasPlace := goodIn_r _ [19, 15, 8, 5, 9, 30, 31] (by decide +kernel) (by decide +kernel)
set_option maxRecDepth 20000 in
theorem gX11_store_X6_hasPlace : GoodIn wsX11_store (wsV RX11 372 RX6 yX6_hasPlace wsX6_hasPlace) := goodIn_app (goodIn_of _ (by decide +kernel)) ggX11_store_X6_hasPlace
theorem dX11_store_0 : decode cX11_store 0 = .ok (.iload_n 1, 1) := by decide +kernel
theorem dX11_store_1 : decode cX11_store 1 = .ok (.invokestatic 285, 3) := by decide +kernel
theorem dX11_store_4 : decode cX11_store 4 = .ok (.ifCond .ne 5, 3) := by decide +kernel
theorem dX11_store_7 : decode cX11_store 7 = .ok (.iconst (-1), 1) := by decide +kernel
theorem dX11_store_8 : decode cX11_store 8 = .ok (.ireturn, 1) := by decide +kernel
theorem dX11_store_9 : decode cX11_store 9 = .ok (.aload_n 0, 1) := by decide +kernel
theorem dX11_store_10 : decode cX11_store 10 = .ok (.getfield 28, 3) := by decide +kernel
theorem dX11_store_13 : decode cX11_store 13 = .ok (.iload_n 1, 1) := by decide +kernel
theorem dX11_store_14 : decode cX11_store 14 = .ok (.invokevirtual 288, 3) := by decide +kernel
theorem dX11_store_17 : decode cX11_store 17 = .ok (.ifCond .eq 6, 3) := by decide +kernel
theorem dX11_store_20 : decode cX11_store 20 = .ok (.bipush (-11), 2) := by decide +kernel
theorem dX11_store_22 : decode cX11_store 22 = .ok (.ireturn, 1) := by decide +kernel
theorem dX11_store_23 : decode cX11_store 23 = .ok (.aload_n 0, 1) := by decide +kernel
theorem dX11_store_24 : decode cX11_store 24 = .ok (.getfield 28, 3) := by decide +kernel
theorem dX11_store_27 : decode cX11_store 27 = .ok (.iload_n 1, 1) := by decide +kernel
theorem dX11_store_28 : decode cX11_store 28 = .ok (.iload_n 2, 1) := by decide +kernel
theorem dX11_store_29 : decode cX11_store 29 = .ok (.invokevirtual 372, 3) := by decide +kernel
theorem dX11_store_32 : decode cX11_store 32 = .ok (.ifCond .ne 6, 3) := by decide +kernel
theorem dX11_store_35 : decode cX11_store 35 = .ok (.bipush (-13), 2) := by decide +kernel
theorem dX11_store_37 : decode cX11_store 37 = .ok (.ireturn, 1) := by decide +kernel
theorem dX11_store_38 : decode cX11_store 38 = .ok (.aload_n 0, 1) := by decide +kernel
theorem dX11_store_39 : decode cX11_store 39 = .ok (.getfield 28, 3) := by decide +kernel
theorem dX11_store_42 : decode cX11_store 42 = .ok (.getfield 293, 3) := by decide +kernel
theorem dX11_store_45 : decode cX11_store 45 = .ok (.iload_n 1, 1) := by decide +kernel
theorem dX11_store_46 : decode cX11_store 46 = .ok (.aaload, 1) := by decide +kernel
theorem dX11_store_47 : decode cX11_store 47 = .ok (.iload_n 2, 1) := by decide +kernel
theorem dX11_store_48 : decode cX11_store 48 = .ok (.iload_n 3, 1) := by decide +kernel
theorem dX11_store_49 : decode cX11_store 49 = .ok (.iastore, 1) := by decide +kernel
theorem dX11_store_50 : decode cX11_store 50 = .ok (.iconst 1, 1) := by decide +kernel
theorem dX11_store_51 : decode cX11_store 51 = .ok (.ireturn, 1) := by decide +kernel
set_option maxRecDepth 20000 in
theorem ggX11_get_X11_isRow : GoodIn wsX11_get wsX11_isRow := goodIn_r _ [7, 8, 9, 6, 10] (by decide +kernel) (by decide +kernel)
set_option maxRecDepth 20000 in
theorem gX11_get_X11_isRow : GoodIn wsX11_get (va_wsS RX11 285 yX11_isRow wsX11_isRow) := goodIn_app (goodIn_of _ (by decide +kernel)) ggX11_get_X11_isRow
set_option maxRecDepth 20000 in
theorem ggX11_get_X6_hasPlace : GoodIn wsX11_get wsX6_hasPlace := goodIn_r _ [15, 16, 9, 6, 10, 27, 28] (by decide +kernel) (by decide +kernel)
set_option maxRecDepth 20000 in
theorem gX11_get_X6_hasPlace : GoodIn wsX11_get (wsV RX11 372 RX6 yX6_hasPlace wsX6_hasPlace) := goodIn_app (goodIn_of _ (by decide +kernel)) ggX11_get_X6_hasPlace
theorem dX11_get_0 : decode cX11_get 0 = .ok (.iload_n 1, 1) := by decide +kernel
theorem dX11_get_1 : decode cX11_get 1 = .ok (.invokestatic 285, 3) := by decide +kernel
theorem dX11_get_4 : decode cX11_get 4 = .ok (.ifCond .eq 15, 3) := by decide +kernel
theorem dX11_get_7 : decode cX11_get 7 = .ok (.aload_n 0, 1) := by decide +kernel
theorem dX11_get_8 : decode cX11_get 8 = .ok (.getfield 28, 3) := by decide +kernel
theorem dX11_get_11 : decode cX11_get 11 = .ok (.iload_n 1, 1) := by decide +kernel
theorem dX11_get_12 : decode cX11_get 12 = .ok (.iload_n 2, 1) := by decide +kernel
theorem dX11_get_13 : decode cX11_get 13 = .ok (.invokevirtual 372, 3) := by decide +kernel
theorem dX11_get_16 : decode cX11_get 16 = .ok (.ifCond .ne 6, 3) := by decide +kernel
theorem dX11_get_19 : decode cX11_get 19 = .ok (.ldc 167, 2) := by decide +kernel
theorem dX11_get_21 : decode cX11_get 21 = .ok (.ireturn, 1) := by decide +kernel
theorem dX11_get_22 : decode cX11_get 22 = .ok (.aload_n 0, 1) := by decide +kernel
theorem dX11_get_23 : decode cX11_get 23 = .ok (.getfield 28, 3) := by decide +kernel
theorem dX11_get_26 : decode cX11_get 26 = .ok (.getfield 293, 3) := by decide +kernel
theorem dX11_get_29 : decode cX11_get 29 = .ok (.iload_n 1, 1) := by decide +kernel
theorem dX11_get_30 : decode cX11_get 30 = .ok (.aaload, 1) := by decide +kernel
theorem dX11_get_31 : decode cX11_get 31 = .ok (.iload_n 2, 1) := by decide +kernel
theorem dX11_get_32 : decode cX11_get 32 = .ok (.iaload, 1) := by decide +kernel
theorem dX11_get_33 : decode cX11_get 33 = .ok (.ireturn, 1) := by decide +kernel
set_option maxRecDepth 20000 in
theorem ggX11_film_X11_isRow : GoodIn wsX11_film wsX11_isRow := goodIn_r _ [11, 12, 13, 10, 14] (by decide +kernel) (by decide +kernel)
set_option maxRecDepth 20000 in
theorem gX11_film_X11_isRow : GoodIn wsX11_film (va_wsS RX11 285 yX11_isRow wsX11_isRow) := goodIn_app (goodIn_of _ (by decide +kernel)) ggX11_film_X11_isRow
set_option maxRecDepth 20000 in
theorem ggX11_film_X6_make : GoodIn wsX11_film wsX6_make := goodIn_r _ [19, 20, 21, 22, 10, 23, 24, 25, 26, 27, 28, 29, 30, 31, 32, 33, 34, 141, 142] (by decide +kernel) (by decide +kernel)
set_option maxRecDepth 20000 in
theorem gX11_film_X6_make : GoodIn wsX11_film (wsV RX11 368 RX6 yX6_make wsX6_make) := goodIn_app (goodIn_of _ (by decide +kernel)) ggX11_film_X6_make
set_option maxRecDepth 20000 in
theorem ggX11_film_X3_writeLines : GoodIn wsX11_film wsX3_writeLines := goodIn_r _ [39, 40, 41, 42, 43, 44, 45, 46, 47, 48, 49, 50, 51, 52, 53, 54, 55, 56, 57, 58, 59, 60, 61, 62, 26, 63, 64, 65, 66, 67, 68, 69, 70, 71, 72, 73, 74, 75, 76, 77, 78, 79, 80, 81, 82, 83, 84, 85, 86, 87, 88, 89, 90, 91, 92, 93, 94, 95, 96, 97, 98, 99, 100, 101, 102, 103, 104, 105, 106, 107, 108, 109, 110, 111, 112, 113, 114, 115, 116, 117, 25, 27, 118, 119, 120, 131, 132, 133, 134, 135, 136, 137, 138, 139, 140, 143, 144, 145, 146, 147, 148, 149, 150, 151, 152, 153, 154] (by decide +kernel) (by decide +kernel)
set_option maxRecDepth 20000 in
theorem gX11_film_X3_writeLines : GoodIn wsX11_film (wsV RX11 375 RX3 yX3_writeLines wsX3_writeLines) := goodIn_app (goodIn_of _ (by decide +kernel)) ggX11_film_X3_writeLines
theorem dX11_film_0 : decode cX11_film 0 = .ok (.iload_n 1, 1) := by decide +kernel
theorem dX11_film_1 : decode cX11_film 1 = .ok (.invokestatic 285, 3) := by decide +kernel
theorem dX11_film_4 : decode cX11_film 4 = .ok (.ifCond .ne 5, 3) := by decide +kernel
theorem dX11_film_7 : decode cX11_film 7 = .ok (.iconst (-1), 1) := by decide +kernel
theorem dX11_film_8 : decode cX11_film 8 = .ok (.ireturn, 1) := by decide +kernel
theorem dX11_film_9 : decode cX11_film 9 = .ok (.aload_n 0, 1) := by decide +kernel
theorem dX11_film_10 : decode cX11_film 10 = .ok (.getfield 12, 3) := by decide +kernel
theorem dX11_film_13 : decode cX11_film 13 = .ok (.getfield 131, 3) := by decide +kernel
theorem dX11_film_16 : decode cX11_film 16 = .ok (.getfield 140, 3) := by decide +kernel
theorem dX11_film_19 : decode cX11_film 19 = .ok (.iconst 1, 1) := by decide +kernel
theorem dX11_film_20 : decode cX11_film 20 = .ok (.iadd, 1) := by decide +kernel
theorem dX11_film_21 : decode cX11_film 21 = .ok (.istore_n 2, 1) := by decide +kernel
theorem dX11_film_22 : decode cX11_film 22 = .ok (.aload_n 0, 1) := by decide +kernel
theorem dX11_film_23 : decode cX11_film 23 = .ok (.getfield 28, 3) := by decide +kernel
theorem dX11_film_26 : decode cX11_film 26 = .ok (.iload_n 1, 1) := by decide +kernel
theorem dX11_film_27 : decode cX11_film 27 = .ok (.iload_n 2, 1) := by decide +kernel
theorem dX11_film_28 : decode cX11_film 28 = .ok (.invokevirtual 368, 3) := by decide +kernel
theorem dX11_film_31 : decode cX11_film 31 = .ok (.aload_n 0, 1) := by decide +kernel
theorem dX11_film_32 : decode cX11_film 32 = .ok (.getfield 63, 3) := by decide +kernel
theorem dX11_film_35 : decode cX11_film 35 = .ok (.aload_n 0, 1) := by decide +kernel
theorem dX11_film_36 : decode cX11_film 36 = .ok (.getfield 12, 3) := by decide +kernel
theorem dX11_film_39 : decode cX11_film 39 = .ok (.aload_n 0, 1) := by decide +kernel
theorem dX11_film_40 : decode cX11_film 40 = .ok (.getfield 42, 3) := by decide +kernel
theorem dX11_film_43 : decode cX11_film 43 = .ok (.aload_n 0, 1) := by decide +kernel
theorem dX11_film_44 : decode cX11_film 44 = .ok (.getfield 28, 3) := by decide +kernel
theorem dX11_film_47 : decode cX11_film 47 = .ok (.getfield 293, 3) := by decide +kernel
theorem dX11_film_50 : decode cX11_film 50 = .ok (.iload_n 1, 1) := by decide +kernel
theorem dX11_film_51 : decode cX11_film 51 = .ok (.aaload, 1) := by decide +kernel
theorem dX11_film_52 : decode cX11_film 52 = .ok (.invokevirtual 375, 3) := by decide +kernel
theorem dX11_film_55 : decode cX11_film 55 = .ok (.iload_n 2, 1) := by decide +kernel
theorem dX11_film_56 : decode cX11_film 56 = .ok (.ireturn, 1) := by decide +kernel
set_option maxRecDepth 20000 in
theorem ggX11_image_X0_copyFrom : GoodIn wsX11_image wsX0_copyFrom := goodIn_r _ [10, 11, 12, 13, 14, 15, 16, 17, 18, 19, 20, 21, 22, 23, 24, 25, 26, 27, 28, 29, 30, 31, 32, 33, 34, 35, 36, 37, 38, 39, 40, 41, 42, 43, 44, 45, 46, 47, 48, 49, 50, 51, 52, 53, 54, 55, 66, 67, 68, 76, 77, 78, 79, 80, 81, 69, 70, 71, 72, 73, 74, 75, 82, 83, 84, 85] (by decide +kernel) (by decide +kernel)
set_option maxRecDepth 20000 in
theorem gX11_image_X0_copyFrom : GoodIn wsX11_image (wsV RX11 379 RX0 yX0_copyFrom wsX0_copyFrom) := goodIn_app (goodIn_of _ (by decide +kernel)) ggX11_image_X0_copyFrom
theorem dX11_image_0 : decode cX11_image 0 = .ok (.aload_n 0, 1) := by decide +kernel
theorem dX11_image_1 : decode cX11_image 1 = .ok (.getfield 18, 3) := by decide +kernel
theorem dX11_image_4 : decode cX11_image 4 = .ok (.aload_n 0, 1) := by decide +kernel
theorem dX11_image_5 : decode cX11_image 5 = .ok (.getfield 12, 3) := by decide +kernel
theorem dX11_image_8 : decode cX11_image 8 = .ok (.invokevirtual 379, 3) := by decide +kernel
theorem dX11_image_11 : decode cX11_image 11 = .ok (.aload_n 0, 1) := by decide +kernel
theorem dX11_image_12 : decode cX11_image 12 = .ok (.iconst 1, 1) := by decide +kernel
theorem dX11_image_13 : decode cX11_image 13 = .ok (.putfield 21, 3) := by decide +kernel
theorem dX11_image_16 : decode cX11_image 16 = .ok (.aload_n 0, 1) := by decide +kernel
theorem dX11_image_17 : decode cX11_image 17 = .ok (.getfield 18, 3) := by decide +kernel
theorem dX11_image_20 : decode cX11_image 20 = .ok (.getfield 131, 3) := by decide +kernel
theorem dX11_image_23 : decode cX11_image 23 = .ok (.getfield 140, 3) := by decide +kernel
theorem dX11_image_26 : decode cX11_image 26 = .ok (.ireturn, 1) := by decide +kernel
set_option maxRecDepth 20000 in
theorem ggX11_undo_X0_copyFrom : GoodIn wsX11_undo wsX0_copyFrom := goodIn_r _ [10, 11, 12, 13, 14, 15, 16, 17, 18, 19, 20, 21, 22, 23, 24, 25, 26, 27, 28, 29, 30, 31, 32, 33, 34, 35, 36, 37, 38, 39, 40, 41, 42, 43, 44, 45, 46, 47, 48, 49, 50, 51, 52, 53, 54, 55, 66, 67, 68, 76, 77, 78, 79, 80, 81, 69, 70, 71, 72, 73, 74, 75, 82, 83, 84, 85] (by decide +kernel) (by decide +kernel)
set_option maxRecDepth 20000 in
theorem gX11_undo_X0_copyFrom : GoodIn wsX11_undo (wsV RX11 379 RX0 yX0_copyFrom wsX0_copyFrom) := goodIn_app (goodIn_of _ (by decide +kernel)) ggX11_undo_X0_copyFrom
theorem dX11_undo_0 : decode cX11_undo 0 = .ok (.aload_n 0, 1) := by decide +kernel
theorem dX11_undo_1 : decode cX11_undo 1 = .ok (.getfield 21, 3) := by decide +kernel
theorem dX11_undo_4 : decode cX11_undo 4 = .ok (.ifCond .ne 6, 3) := by decide +kernel
theorem dX11_undo_7 : decode cX11_undo 7 = .ok (.bipush (-5), 2) := by decide +kernel
theorem dX11_undo_9 : decode cX11_undo 9 = .ok (.ireturn, 1) := by decide +kernel
theorem dX11_undo_10 : decode cX11_undo 10 = .ok (.aload_n 0, 1) := by decide +kernel
theorem dX11_undo_11 : decode cX11_undo 11 = .ok (.getfield 12, 3) := by decide +kernel
theorem dX11_undo_14 : decode cX11_undo 14 = .ok (.aload_n 0, 1) := by decide +kernel
theorem dX11_undo_15 : decode cX11_undo 15 = .ok (.getfield 18, 3) := by decide +kernel
theorem dX11_undo_18 : decode cX11_undo 18 = .ok (.invokevirtual 379, 3) := by decide +kernel
theorem dX11_undo_21 : decode cX11_undo 21 = .ok (.aload_n 0, 1) := by decide +kernel
theorem dX11_undo_22 : decode cX11_undo 22 = .ok (.getfield 12, 3) := by decide +kernel
theorem dX11_undo_25 : decode cX11_undo 25 = .ok (.getfield 131, 3) := by decide +kernel
theorem dX11_undo_28 : decode cX11_undo 28 = .ok (.getfield 140, 3) := by decide +kernel
theorem dX11_undo_31 : decode cX11_undo 31 = .ok (.ireturn, 1) := by decide +kernel
set_option maxRecDepth 20000 in
theorem ggX11_count_X8_howManyThere : GoodIn wsX11_count wsX8_howManyThere := goodIn_r _ [16, 17, 18, 19, 15, 20, 21, 53, 54, 55, 56] (by decide +kernel) (by decide +kernel)
set_option maxRecDepth 20000 in
theorem gX11_count_X8_howManyThere : GoodIn wsX11_count (wsV RX11 383 RX8 yX8_howManyThere wsX8_howManyThere) := goodIn_app (goodIn_of _ (by decide +kernel)) ggX11_count_X8_howManyThere
theorem dX11_count_0 : decode cX11_count 0 = .ok (.iload_n 1, 1) := by decide +kernel
theorem dX11_count_1 : decode cX11_count 1 = .ok (.tableswitch 117 0 6 #[43, 54, 65, 76, 87, 98, 106], 43) := by decide +kernel
theorem dX11_count_44 : decode cX11_count 44 = .ok (.aload_n 0, 1) := by decide +kernel
theorem dX11_count_45 : decode cX11_count 45 = .ok (.getfield 12, 3) := by decide +kernel
theorem dX11_count_48 : decode cX11_count 48 = .ok (.getfield 82, 3) := by decide +kernel
theorem dX11_count_51 : decode cX11_count 51 = .ok (.getfield 86, 3) := by decide +kernel
theorem dX11_count_54 : decode cX11_count 54 = .ok (.ireturn, 1) := by decide +kernel
theorem dX11_count_55 : decode cX11_count 55 = .ok (.aload_n 0, 1) := by decide +kernel
theorem dX11_count_56 : decode cX11_count 56 = .ok (.getfield 12, 3) := by decide +kernel
theorem dX11_count_59 : decode cX11_count 59 = .ok (.getfield 131, 3) := by decide +kernel
theorem dX11_count_62 : decode cX11_count 62 = .ok (.getfield 140, 3) := by decide +kernel
theorem dX11_count_65 : decode cX11_count 65 = .ok (.ireturn, 1) := by decide +kernel
theorem dX11_count_66 : decode cX11_count 66 = .ok (.aload_n 0, 1) := by decide +kernel
theorem dX11_count_67 : decode cX11_count 67 = .ok (.getfield 12, 3) := by decide +kernel
theorem dX11_count_70 : decode cX11_count 70 = .ok (.getfield 82, 3) := by decide +kernel
theorem dX11_count_73 : decode cX11_count 73 = .ok (.getfield 113, 3) := by decide +kernel
theorem dX11_count_76 : decode cX11_count 76 = .ok (.ireturn, 1) := by decide +kernel
theorem dX11_count_77 : decode cX11_count 77 = .ok (.aload_n 0, 1) := by decide +kernel
theorem dX11_count_78 : decode cX11_count 78 = .ok (.getfield 12, 3) := by decide +kernel
theorem dX11_count_81 : decode cX11_count 81 = .ok (.getfield 82, 3) := by decide +kernel
theorem dX11_count_84 : decode cX11_count 84 = .ok (.getfield 116, 3) := by decide +kernel
theorem dX11_count_87 : decode cX11_count 87 = .ok (.ireturn, 1) := by decide +kernel
theorem dX11_count_88 : decode cX11_count 88 = .ok (.aload_n 0, 1) := by decide +kernel
theorem dX11_count_89 : decode cX11_count 89 = .ok (.getfield 12, 3) := by decide +kernel
theorem dX11_count_92 : decode cX11_count 92 = .ok (.getfield 82, 3) := by decide +kernel
theorem dX11_count_95 : decode cX11_count 95 = .ok (.getfield 119, 3) := by decide +kernel
theorem dX11_count_98 : decode cX11_count 98 = .ok (.ireturn, 1) := by decide +kernel
theorem dX11_count_99 : decode cX11_count 99 = .ok (.aload_n 0, 1) := by decide +kernel
theorem dX11_count_100 : decode cX11_count 100 = .ok (.getfield 35, 3) := by decide +kernel
theorem dX11_count_103 : decode cX11_count 103 = .ok (.getfield 321, 3) := by decide +kernel
theorem dX11_count_106 : decode cX11_count 106 = .ok (.ireturn, 1) := by decide +kernel
theorem dX11_count_107 : decode cX11_count 107 = .ok (.aload_n 0, 1) := by decide +kernel
theorem dX11_count_108 : decode cX11_count 108 = .ok (.getfield 12, 3) := by decide +kernel
theorem dX11_count_111 : decode cX11_count 111 = .ok (.getfield 182, 3) := by decide +kernel
theorem dX11_count_114 : decode cX11_count 114 = .ok (.invokevirtual 383, 3) := by decide +kernel
theorem dX11_count_117 : decode cX11_count 117 = .ok (.ireturn, 1) := by decide +kernel
theorem dX11_count_118 : decode cX11_count 118 = .ok (.iconst (-1), 1) := by decide +kernel
theorem dX11_count_119 : decode cX11_count 119 = .ok (.ireturn, 1) := by decide +kernel
theorem dX11_isWithin_0 : decode cX11_isWithin 0 = .ok (.iload_n 0, 1) := by decide +kernel
theorem dX11_isWithin_1 : decode cX11_isWithin 1 = .ok (.iload_n 1, 1) := by decide +kernel
theorem dX11_isWithin_2 : decode cX11_isWithin 2 = .ok (.if_icmp .lt 12, 3) := by decide +kernel
theorem dX11_isWithin_5 : decode cX11_isWithin 5 = .ok (.iload_n 0, 1) := by decide +kernel
theorem dX11_isWithin_6 : decode cX11_isWithin 6 = .ok (.iload_n 2, 1) := by decide +kernel
theorem dX11_isWithin_7 : decode cX11_isWithin 7 = .ok (.if_icmp .gt 7, 3) := by decide +kernel
theorem dX11_isWithin_10 : decode cX11_isWithin 10 = .ok (.iconst 1, 1) := by decide +kernel
theorem dX11_isWithin_11 : decode cX11_isWithin 11 = .ok (.goto 4, 3) := by decide +kernel
theorem dX11_isWithin_14 : decode cX11_isWithin 14 = .ok (.iconst 0, 1) := by decide +kernel
theorem dX11_isWithin_15 : decode cX11_isWithin 15 = .ok (.ireturn, 1) := by decide +kernel
theorem dX11_held_0 : decode cX11_held 0 = .ok (.iload_n 1, 1) := by decide +kernel
theorem dX11_held_1 : decode cX11_held 1 = .ok (.iload_n 0, 1) := by decide +kernel
theorem dX11_held_2 : decode cX11_held 2 = .ok (.iload_n 2, 1) := by decide +kernel
theorem dX11_held_3 : decode cX11_held 3 = .ok (.invokestatic 386, 3) := by decide +kernel
theorem dX11_held_6 : decode cX11_held 6 = .ok (.invokestatic 254, 3) := by decide +kernel
theorem dX11_held_9 : decode cX11_held 9 = .ok (.ireturn, 1) := by decide +kernel
set_option maxRecDepth 20000 in
theorem ggX11_isName_X11_isWithin : GoodIn wsX11_isName wsX11_isWithin := goodIn_r _ [5] (by decide +kernel) (by decide +kernel)
set_option maxRecDepth 20000 in
theorem gX11_isName_X11_isWithin : GoodIn wsX11_isName (va_wsS RX11 78 yX11_isWithin wsX11_isWithin) := goodIn_app (goodIn_of _ (by decide +kernel)) ggX11_isName_X11_isWithin
theorem dX11_isName_0 : decode cX11_isName 0 = .ok (.iload_n 0, 1) := by decide +kernel
theorem dX11_isName_1 : decode cX11_isName 1 = .ok (.iconst 1, 1) := by decide +kernel
theorem dX11_isName_2 : decode cX11_isName 2 = .ok (.ldc_w 389, 3) := by decide +kernel
theorem dX11_isName_5 : decode cX11_isName 5 = .ok (.invokestatic 78, 3) := by decide +kernel
theorem dX11_isName_8 : decode cX11_isName 8 = .ok (.ifCond .ne 5, 3) := by decide +kernel
theorem dX11_isName_11 : decode cX11_isName 11 = .ok (.iconst 0, 1) := by decide +kernel
theorem dX11_isName_12 : decode cX11_isName 12 = .ok (.ireturn, 1) := by decide +kernel
theorem dX11_isName_13 : decode cX11_isName 13 = .ok (.iload_n 0, 1) := by decide +kernel
theorem dX11_isName_14 : decode cX11_isName 14 = .ok (.istore_n 1, 1) := by decide +kernel
theorem dX11_isName_15 : decode cX11_isName 15 = .ok (.iconst 0, 1) := by decide +kernel
theorem dX11_isName_16 : decode cX11_isName 16 = .ok (.istore_n 2, 1) := by decide +kernel
theorem dX11_isName_17 : decode cX11_isName 17 = .ok (.iload_n 2, 1) := by decide +kernel
theorem dX11_isName_18 : decode cX11_isName 18 = .ok (.iconst 4, 1) := by decide +kernel
theorem dX11_isName_19 : decode cX11_isName 19 = .ok (.if_icmp .ge 27, 3) := by decide +kernel
theorem dX11_isName_22 : decode cX11_isName 22 = .ok (.iload_n 1, 1) := by decide +kernel
theorem dX11_isName_23 : decode cX11_isName 23 = .ok (.ifCond .le 23, 3) := by decide +kernel
theorem dX11_isName_26 : decode cX11_isName 26 = .ok (.iload_n 1, 1) := by decide +kernel
theorem dX11_isName_27 : decode cX11_isName 27 = .ok (.bipush 27, 2) := by decide +kernel
theorem dX11_isName_29 : decode cX11_isName 29 = .ok (.irem, 1) := by decide +kernel
theorem dX11_isName_30 : decode cX11_isName 30 = .ok (.ifCond .ne 5, 3) := by decide +kernel
theorem dX11_isName_33 : decode cX11_isName 33 = .ok (.iconst 0, 1) := by decide +kernel
theorem dX11_isName_34 : decode cX11_isName 34 = .ok (.ireturn, 1) := by decide +kernel
theorem dX11_isName_35 : decode cX11_isName 35 = .ok (.iload_n 1, 1) := by decide +kernel
theorem dX11_isName_36 : decode cX11_isName 36 = .ok (.bipush 27, 2) := by decide +kernel
theorem dX11_isName_38 : decode cX11_isName 38 = .ok (.idiv, 1) := by decide +kernel
theorem dX11_isName_39 : decode cX11_isName 39 = .ok (.istore_n 1, 1) := by decide +kernel
theorem dX11_isName_40 : decode cX11_isName 40 = .ok (.iinc 2 1, 3) := by decide +kernel
theorem dX11_isName_43 : decode cX11_isName 43 = .ok (.goto (-26), 3) := by decide +kernel
theorem dX11_isName_46 : decode cX11_isName 46 = .ok (.iconst 1, 1) := by decide +kernel
theorem dX11_isName_47 : decode cX11_isName 47 = .ok (.ireturn, 1) := by decide +kernel
set_option maxRecDepth 20000 in
theorem ggX11_isKind_X11_isWithin : GoodIn wsX11_isKind wsX11_isWithin := goodIn_r _ [4] (by decide +kernel) (by decide +kernel)
set_option maxRecDepth 20000 in
theorem gX11_isKind_X11_isWithin : GoodIn wsX11_isKind (va_wsS RX11 78 yX11_isWithin wsX11_isWithin) := goodIn_app (goodIn_of _ (by decide +kernel)) ggX11_isKind_X11_isWithin
theorem dX11_isKind_0 : decode cX11_isKind 0 = .ok (.iload_n 0, 1) := by decide +kernel
theorem dX11_isKind_1 : decode cX11_isKind 1 = .ok (.iconst 0, 1) := by decide +kernel
theorem dX11_isKind_2 : decode cX11_isKind 2 = .ok (.iconst 4, 1) := by decide +kernel
theorem dX11_isKind_3 : decode cX11_isKind 3 = .ok (.invokestatic 78, 3) := by decide +kernel
theorem dX11_isKind_6 : decode cX11_isKind 6 = .ok (.ireturn, 1) := by decide +kernel
set_option maxRecDepth 20000 in
theorem ggX11_isSide_X11_isWithin : GoodIn wsX11_isSide wsX11_isWithin := goodIn_r _ [4] (by decide +kernel) (by decide +kernel)
set_option maxRecDepth 20000 in
theorem gX11_isSide_X11_isWithin : GoodIn wsX11_isSide (va_wsS RX11 78 yX11_isWithin wsX11_isWithin) := goodIn_app (goodIn_of _ (by decide +kernel)) ggX11_isSide_X11_isWithin
theorem dX11_isSide_0 : decode cX11_isSide 0 = .ok (.iload_n 0, 1) := by decide +kernel
theorem dX11_isSide_1 : decode cX11_isSide 1 = .ok (.bipush (-20), 2) := by decide +kernel
theorem dX11_isSide_3 : decode cX11_isSide 3 = .ok (.bipush 20, 2) := by decide +kernel
theorem dX11_isSide_5 : decode cX11_isSide 5 = .ok (.invokestatic 78, 3) := by decide +kernel
theorem dX11_isSide_8 : decode cX11_isSide 8 = .ok (.ireturn, 1) := by decide +kernel
set_option maxRecDepth 20000 in
theorem ggX11_isTank_X11_isWithin : GoodIn wsX11_isTank wsX11_isWithin := goodIn_r _ [4] (by decide +kernel) (by decide +kernel)
set_option maxRecDepth 20000 in
theorem gX11_isTank_X11_isWithin : GoodIn wsX11_isTank (va_wsS RX11 78 yX11_isWithin wsX11_isWithin) := goodIn_app (goodIn_of _ (by decide +kernel)) ggX11_isTank_X11_isWithin
theorem dX11_isTank_0 : decode cX11_isTank 0 = .ok (.iload_n 0, 1) := by decide +kernel
theorem dX11_isTank_1 : decode cX11_isTank 1 = .ok (.iconst 0, 1) := by decide +kernel
theorem dX11_isTank_2 : decode cX11_isTank 2 = .ok (.iconst 3, 1) := by decide +kernel
theorem dX11_isTank_3 : decode cX11_isTank 3 = .ok (.invokestatic 78, 3) := by decide +kernel
theorem dX11_isTank_6 : decode cX11_isTank 6 = .ok (.ireturn, 1) := by decide +kernel
set_option maxRecDepth 20000 in
theorem ggX11_isRow_X11_isWithin : GoodIn wsX11_isRow wsX11_isWithin := goodIn_r _ [4] (by decide +kernel) (by decide +kernel)
set_option maxRecDepth 20000 in
theorem gX11_isRow_X11_isWithin : GoodIn wsX11_isRow (va_wsS RX11 78 yX11_isWithin wsX11_isWithin) := goodIn_app (goodIn_of _ (by decide +kernel)) ggX11_isRow_X11_isWithin
theorem dX11_isRow_0 : decode cX11_isRow 0 = .ok (.iload_n 0, 1) := by decide +kernel
theorem dX11_isRow_1 : decode cX11_isRow 1 = .ok (.iconst 0, 1) := by decide +kernel
theorem dX11_isRow_2 : decode cX11_isRow 2 = .ok (.iconst 2, 1) := by decide +kernel
theorem dX11_isRow_3 : decode cX11_isRow 3 = .ok (.invokestatic 78, 3) := by decide +kernel
theorem dX11_isRow_6 : decode cX11_isRow 6 = .ok (.ireturn, 1) := by decide +kernel
set_option maxRecDepth 20000 in
theorem ggX11_isOfKind_X11_isKind : GoodIn wsX11_isOfKind wsX11_isKind := goodIn_r _ [5, 6, 7, 4, 8] (by decide +kernel) (by decide +kernel)
set_option maxRecDepth 20000 in
theorem gX11_isOfKind_X11_isKind : GoodIn wsX11_isOfKind (va_wsS RX11 125 yX11_isKind wsX11_isKind) := goodIn_app (goodIn_of _ (by decide +kernel)) ggX11_isOfKind_X11_isKind
theorem dX11_isOfKind_0 : decode cX11_isOfKind 0 = .ok (.iload_n 0, 1) := by decide +kernel
theorem dX11_isOfKind_1 : decode cX11_isOfKind 1 = .ok (.istore_n 2, 1) := by decide +kernel
theorem dX11_isOfKind_2 : decode cX11_isOfKind 2 = .ok (.iconst 0, 1) := by decide +kernel
theorem dX11_isOfKind_3 : decode cX11_isOfKind 3 = .ok (.istore_n 3, 1) := by decide +kernel
theorem dX11_isOfKind_4 : decode cX11_isOfKind 4 = .ok (.iload_n 3, 1) := by decide +kernel
theorem dX11_isOfKind_5 : decode cX11_isOfKind 5 = .ok (.getstatic 390, 3) := by decide +kernel
theorem dX11_isOfKind_8 : decode cX11_isOfKind 8 = .ok (.arraylength, 1) := by decide +kernel
theorem dX11_isOfKind_9 : decode cX11_isOfKind 9 = .ok (.if_icmp .ge 29, 3) := by decide +kernel
theorem dX11_isOfKind_12 : decode cX11_isOfKind 12 = .ok (.iload_n 2, 1) := by decide +kernel
theorem dX11_isOfKind_13 : decode cX11_isOfKind 13 = .ok (.invokestatic 125, 3) := by decide +kernel
theorem dX11_isOfKind_16 : decode cX11_isOfKind 16 = .ok (.ifCond .eq 22, 3) := by decide +kernel
theorem dX11_isOfKind_19 : decode cX11_isOfKind 19 = .ok (.iload_n 2, 1) := by decide +kernel
theorem dX11_isOfKind_20 : decode cX11_isOfKind 20 = .ok (.iload_n 1, 1) := by decide +kernel
theorem dX11_isOfKind_21 : decode cX11_isOfKind 21 = .ok (.if_icmp .ne 5, 3) := by decide +kernel
theorem dX11_isOfKind_24 : decode cX11_isOfKind 24 = .ok (.iconst 1, 1) := by decide +kernel
theorem dX11_isOfKind_25 : decode cX11_isOfKind 25 = .ok (.ireturn, 1) := by decide +kernel
theorem dX11_isOfKind_26 : decode cX11_isOfKind 26 = .ok (.getstatic 390, 3) := by decide +kernel
theorem dX11_isOfKind_29 : decode cX11_isOfKind 29 = .ok (.iload_n 2, 1) := by decide +kernel
theorem dX11_isOfKind_30 : decode cX11_isOfKind 30 = .ok (.iaload, 1) := by decide +kernel
theorem dX11_isOfKind_31 : decode cX11_isOfKind 31 = .ok (.istore_n 2, 1) := by decide +kernel
theorem dX11_isOfKind_32 : decode cX11_isOfKind 32 = .ok (.iinc 3 1, 3) := by decide +kernel
theorem dX11_isOfKind_35 : decode cX11_isOfKind 35 = .ok (.goto (-31), 3) := by decide +kernel
theorem dX11_isOfKind_38 : decode cX11_isOfKind 38 = .ok (.iconst 0, 1) := by decide +kernel
theorem dX11_isOfKind_39 : decode cX11_isOfKind 39 = .ok (.ireturn, 1) := by decide +kernel
theorem dX11_rollsOf_0 : decode cX11_rollsOf 0 = .ok (.iload_n 1, 1) := by decide +kernel
theorem dX11_rollsOf_1 : decode cX11_rollsOf 1 = .ok (.ldc 167, 2) := by decide +kernel
theorem dX11_rollsOf_3 : decode cX11_rollsOf 3 = .ok (.if_icmp .ne 5, 3) := by decide +kernel
theorem dX11_rollsOf_6 : decode cX11_rollsOf 6 = .ok (.iconst 0, 1) := by decide +kernel
theorem dX11_rollsOf_7 : decode cX11_rollsOf 7 = .ok (.ireturn, 1) := by decide +kernel
theorem dX11_rollsOf_8 : decode cX11_rollsOf 8 = .ok (.iload_n 0, 1) := by decide +kernel
theorem dX11_rollsOf_9 : decode cX11_rollsOf 9 = .ok (.lookupswitch 39 #[(1, 27), (3, 32)], 27) := by decide +kernel
theorem dX11_rollsOf_36 : decode cX11_rollsOf 36 = .ok (.iload_n 1, 1) := by decide +kernel
theorem dX11_rollsOf_37 : decode cX11_rollsOf 37 = .ok (.bipush 32, 2) := by decide +kernel
theorem dX11_rollsOf_39 : decode cX11_rollsOf 39 = .ok (.idiv, 1) := by decide +kernel
theorem dX11_rollsOf_40 : decode cX11_rollsOf 40 = .ok (.ireturn, 1) := by decide +kernel
theorem dX11_rollsOf_41 : decode cX11_rollsOf 41 = .ok (.iconst 2, 1) := by decide +kernel
theorem dX11_rollsOf_42 : decode cX11_rollsOf 42 = .ok (.iload_n 1, 1) := by decide +kernel
theorem dX11_rollsOf_43 : decode cX11_rollsOf 43 = .ok (.bipush 32, 2) := by decide +kernel
theorem dX11_rollsOf_45 : decode cX11_rollsOf 45 = .ok (.idiv, 1) := by decide +kernel
theorem dX11_rollsOf_46 : decode cX11_rollsOf 46 = .ok (.imul, 1) := by decide +kernel
theorem dX11_rollsOf_47 : decode cX11_rollsOf 47 = .ok (.ireturn, 1) := by decide +kernel
theorem dX11_rollsOf_48 : decode cX11_rollsOf 48 = .ok (.iconst 0, 1) := by decide +kernel
theorem dX11_rollsOf_49 : decode cX11_rollsOf 49 = .ok (.ireturn, 1) := by decide +kernel
theorem dX11_cubeByTwelve_0 : decode cX11_cubeByTwelve 0 = .ok (.iload_n 0, 1) := by decide +kernel
theorem dX11_cubeByTwelve_1 : decode cX11_cubeByTwelve 1 = .ok (.iload_n 0, 1) := by decide +kernel
theorem dX11_cubeByTwelve_2 : decode cX11_cubeByTwelve 2 = .ok (.imul, 1) := by decide +kernel
theorem dX11_cubeByTwelve_3 : decode cX11_cubeByTwelve 3 = .ok (.iload_n 0, 1) := by decide +kernel
theorem dX11_cubeByTwelve_4 : decode cX11_cubeByTwelve 4 = .ok (.imul, 1) := by decide +kernel
theorem dX11_cubeByTwelve_5 : decode cX11_cubeByTwelve 5 = .ok (.bipush 12, 2) := by decide +kernel
theorem dX11_cubeByTwelve_7 : decode cX11_cubeByTwelve 7 = .ok (.idiv, 1) := by decide +kernel
theorem dX11_cubeByTwelve_8 : decode cX11_cubeByTwelve 8 = .ok (.ireturn, 1) := by decide +kernel
set_option maxRecDepth 20000 in
theorem ggX12_init_X12_anew : GoodIn wsX12_init wsX12_anew := goodIn_r _ [36, 4, 5, 6, 37, 38, 8, 9, 16, 17, 18, 19, 39, 40, 41, 42, 43, 44, 45, 46, 47, 48, 49, 50, 51, 52, 53, 54, 55, 56, 57, 58, 59, 60, 61, 62, 63, 64, 65, 66, 67, 68, 69, 70] (by decide +kernel) (by decide +kernel)
set_option maxRecDepth 20000 in
theorem gX12_init_X12_anew : GoodIn wsX12_init (wsV RX12 91 RX12 yX12_anew wsX12_anew) := goodIn_app (goodIn_of _ (by decide +kernel)) ggX12_init_X12_anew
theorem dX12_init_0 : decode cX12_init 0 = .ok (.aload_n 0, 1) := by decide +kernel
theorem dX12_init_1 : decode cX12_init 1 = .ok (.invokespecial 3, 3) := by decide +kernel
theorem dX12_init_4 : decode cX12_init 4 = .ok (.aload_n 0, 1) := by decide +kernel
theorem dX12_init_5 : decode cX12_init 5 = .ok (.iconst 4, 1) := by decide +kernel
theorem dX12_init_6 : decode cX12_init 6 = .ok (.putfield 9, 3) := by decide +kernel
theorem dX12_init_9 : decode cX12_init 9 = .ok (.aload_n 0, 1) := by decide +kernel
theorem dX12_init_10 : decode cX12_init 10 = .ok (.bipush 20, 2) := by decide +kernel
theorem dX12_init_12 : decode cX12_init 12 = .ok (.putfield 15, 3) := by decide +kernel
theorem dX12_init_15 : decode cX12_init 15 = .ok (.aload_n 0, 1) := by decide +kernel
theorem dX12_init_16 : decode cX12_init 16 = .ok (.bipush 100, 2) := by decide +kernel
theorem dX12_init_18 : decode cX12_init 18 = .ok (.putfield 18, 3) := by decide +kernel
theorem dX12_init_21 : decode cX12_init 21 = .ok (.aload_n 0, 1) := by decide +kernel
theorem dX12_init_22 : decode cX12_init 22 = .ok (.bipush 10, 2) := by decide +kernel
theorem dX12_init_24 : decode cX12_init 24 = .ok (.newarray .int, 2) := by decide +kernel
theorem dX12_init_26 : decode cX12_init 26 = .ok (.putfield 21, 3) := by decide +kernel
theorem dX12_init_29 : decode cX12_init 29 = .ok (.aload_n 0, 1) := by decide +kernel
theorem dX12_init_30 : decode cX12_init 30 = .ok (.bipush 10, 2) := by decide +kernel
theorem dX12_init_32 : decode cX12_init 32 = .ok (.newarray .int, 2) := by decide +kernel
theorem dX12_init_34 : decode cX12_init 34 = .ok (.putfield 25, 3) := by decide +kernel
theorem dX12_init_37 : decode cX12_init 37 = .ok (.aload_n 0, 1) := by decide +kernel
theorem dX12_init_38 : decode cX12_init 38 = .ok (.bipush 16, 2) := by decide +kernel
theorem dX12_init_40 : decode cX12_init 40 = .ok (.newarray .int, 2) := by decide +kernel
theorem dX12_init_42 : decode cX12_init 42 = .ok (.putfield 28, 3) := by decide +kernel
theorem dX12_init_45 : decode cX12_init 45 = .ok (.aload_n 0, 1) := by decide +kernel
theorem dX12_init_46 : decode cX12_init 46 = .ok (.bipush 16, 2) := by decide +kernel
theorem dX12_init_48 : decode cX12_init 48 = .ok (.newarray .int, 2) := by decide +kernel
theorem dX12_init_50 : decode cX12_init 50 = .ok (.putfield 31, 3) := by decide +kernel
theorem dX12_init_53 : decode cX12_init 53 = .ok (.aload_n 0, 1) := by decide +kernel
theorem dX12_init_54 : decode cX12_init 54 = .ok (.bipush 16, 2) := by decide +kernel
theorem dX12_init_56 : decode cX12_init 56 = .ok (.newarray .int, 2) := by decide +kernel
theorem dX12_init_58 : decode cX12_init 58 = .ok (.putfield 34, 3) := by decide +kernel
theorem dX12_init_61 : decode cX12_init 61 = .ok (.aload_n 0, 1) := by decide +kernel
theorem dX12_init_62 : decode cX12_init 62 = .ok (.bipush 16, 2) := by decide +kernel
theorem dX12_init_64 : decode cX12_init 64 = .ok (.newarray .int, 2) := by decide +kernel
theorem dX12_init_66 : decode cX12_init 66 = .ok (.putfield 37, 3) := by decide +kernel
theorem dX12_init_69 : decode cX12_init 69 = .ok (.aload_n 0, 1) := by decide +kernel
theorem dX12_init_70 : decode cX12_init 70 = .ok (.bipush 16, 2) := by decide +kernel
theorem dX12_init_72 : decode cX12_init 72 = .ok (.newarray .int, 2) := by decide +kernel
theorem dX12_init_74 : decode cX12_init 74 = .ok (.putfield 40, 3) := by decide +kernel
theorem dX12_init_77 : decode cX12_init 77 = .ok (.aload_n 0, 1) := by decide +kernel
theorem dX12_init_78 : decode cX12_init 78 = .ok (.bipush 16, 2) := by decide +kernel
theorem dX12_init_80 : decode cX12_init 80 = .ok (.newarray .int, 2) := by decide +kernel
theorem dX12_init_82 : decode cX12_init 82 = .ok (.putfield 43, 3) := by decide +kernel
theorem dX12_init_85 : decode cX12_init 85 = .ok (.aload_n 0, 1) := by decide +kernel
theorem dX12_init_86 : decode cX12_init 86 = .ok (.iconst 4, 1) := by decide +kernel
theorem dX12_init_87 : decode cX12_init 87 = .ok (.newarray .int, 2) := by decide +kernel
theorem dX12_init_89 : decode cX12_init 89 = .ok (.putfield 46, 3) := by decide +kernel
theorem dX12_init_92 : decode cX12_init 92 = .ok (.aload_n 0, 1) := by decide +kernel
theorem dX12_init_93 : decode cX12_init 93 = .ok (.iconst 4, 1) := by decide +kernel
theorem dX12_init_94 : decode cX12_init 94 = .ok (.newarray .int, 2) := by decide +kernel
theorem dX12_init_96 : decode cX12_init 96 = .ok (.putfield 49, 3) := by decide +kernel
theorem dX12_init_99 : decode cX12_init 99 = .ok (.aload_n 0, 1) := by decide +kernel
theorem dX12_init_100 : decode cX12_init 100 = .ok (.iconst 4, 1) := by decide +kernel
theorem dX12_init_101 : decode cX12_init 101 = .ok (.newarray .int, 2) := by decide +kernel
theorem dX12_init_103 : decode cX12_init 103 = .ok (.putfield 52, 3) := by decide +kernel
theorem dX12_init_106 : decode cX12_init 106 = .ok (.aload_n 0, 1) := by decide +kernel
theorem dX12_init_107 : decode cX12_init 107 = .ok (.iconst 4, 1) := by decide +kernel
theorem dX12_init_108 : decode cX12_init 108 = .ok (.newarray .int, 2) := by decide +kernel
theorem dX12_init_110 : decode cX12_init 110 = .ok (.putfield 55, 3) := by decide +kernel
theorem dX12_init_113 : decode cX12_init 113 = .ok (.aload_n 0, 1) := by decide +kernel
theorem dX12_init_114 : decode cX12_init 114 = .ok (.bipush 16, 2) := by decide +kernel
theorem dX12_init_116 : decode cX12_init 116 = .ok (.newarray .int, 2) := by decide +kernel
theorem dX12_init_118 : decode cX12_init 118 = .ok (.putfield 58, 3) := by decide +kernel
theorem dX12_init_121 : decode cX12_init 121 = .ok (.aload_n 0, 1) := by decide +kernel
theorem dX12_init_122 : decode cX12_init 122 = .ok (.bipush 17, 2) := by decide +kernel
theorem dX12_init_124 : decode cX12_init 124 = .ok (.newarray .int, 2) := by decide +kernel
theorem dX12_init_126 : decode cX12_init 126 = .ok (.putfield 61, 3) := by decide +kernel
theorem dX12_init_129 : decode cX12_init 129 = .ok (.aload_n 0, 1) := by decide +kernel
theorem dX12_init_130 : decode cX12_init 130 = .ok (.sipush 320, 3) := by decide +kernel
theorem dX12_init_133 : decode cX12_init 133 = .ok (.newarray .byte, 2) := by decide +kernel
theorem dX12_init_135 : decode cX12_init 135 = .ok (.putfield 64, 3) := by decide +kernel
theorem dX12_init_138 : decode cX12_init 138 = .ok (.aload_n 0, 1) := by decide +kernel
theorem dX12_init_139 : decode cX12_init 139 = .ok (.bipush 80, 2) := by decide +kernel
theorem dX12_init_141 : decode cX12_init 141 = .ok (.newarray .byte, 2) := by decide +kernel
theorem dX12_init_143 : decode cX12_init 143 = .ok (.putfield 68, 3) := by decide +kernel
theorem dX12_init_146 : decode cX12_init 146 = .ok (.aload_n 0, 1) := by decide +kernel
theorem dX12_init_147 : decode cX12_init 147 = .ok (.bipush 80, 2) := by decide +kernel
theorem dX12_init_149 : decode cX12_init 149 = .ok (.newarray .int, 2) := by decide +kernel
theorem dX12_init_151 : decode cX12_init 151 = .ok (.putfield 71, 3) := by decide +kernel
theorem dX12_init_154 : decode cX12_init 154 = .ok (.aload_n 0, 1) := by decide +kernel
theorem dX12_init_155 : decode cX12_init 155 = .ok (.sipush 480, 3) := by decide +kernel
theorem dX12_init_158 : decode cX12_init 158 = .ok (.newarray .int, 2) := by decide +kernel
theorem dX12_init_160 : decode cX12_init 160 = .ok (.putfield 74, 3) := by decide +kernel
theorem dX12_init_163 : decode cX12_init 163 = .ok (.aload_n 0, 1) := by decide +kernel
theorem dX12_init_164 : decode cX12_init 164 = .ok (.iconst 3, 1) := by decide +kernel
theorem dX12_init_165 : decode cX12_init 165 = .ok (.newarray .int, 2) := by decide +kernel
theorem dX12_init_167 : decode cX12_init 167 = .ok (.putfield 77, 3) := by decide +kernel
theorem dX12_init_170 : decode cX12_init 170 = .ok (.aload_n 0, 1) := by decide +kernel
theorem dX12_init_171 : decode cX12_init 171 = .ok (.iconst 3, 1) := by decide +kernel
theorem dX12_init_172 : decode cX12_init 172 = .ok (.bipush 40, 2) := by decide +kernel
theorem dX12_init_174 : decode cX12_init 174 = .ok (.multianewarray 80 2, 4) := by decide +kernel
theorem dX12_init_178 : decode cX12_init 178 = .ok (.putfield 82, 3) := by decide +kernel
theorem dX12_init_181 : decode cX12_init 181 = .ok (.aload_n 0, 1) := by decide +kernel
theorem dX12_init_182 : decode cX12_init 182 = .ok (.iconst 5, 1) := by decide +kernel
theorem dX12_init_183 : decode cX12_init 183 = .ok (.newarray .int, 2) := by decide +kernel
theorem dX12_init_185 : decode cX12_init 185 = .ok (.putfield 85, 3) := by decide +kernel
theorem dX12_init_188 : decode cX12_init 188 = .ok (.aload_n 0, 1) := by decide +kernel
theorem dX12_init_189 : decode cX12_init 189 = .ok (.bipush 12, 2) := by decide +kernel
theorem dX12_init_191 : decode cX12_init 191 = .ok (.bipush 16, 2) := by decide +kernel
theorem dX12_init_193 : decode cX12_init 193 = .ok (.multianewarray 80 2, 4) := by decide +kernel
theorem dX12_init_197 : decode cX12_init 197 = .ok (.putfield 88, 3) := by decide +kernel
theorem dX12_init_200 : decode cX12_init 200 = .ok (.aload_n 0, 1) := by decide +kernel
theorem dX12_init_201 : decode cX12_init 201 = .ok (.iconst 4, 1) := by decide +kernel
theorem dX12_init_202 : decode cX12_init 202 = .ok (.invokevirtual 91, 3) := by decide +kernel
theorem dX12_init_205 : decode cX12_init 205 = .ok (.iconst 0, 1) := by decide +kernel
theorem dX12_init_206 : decode cX12_init 206 = .ok (.istore_n 1, 1) := by decide +kernel
theorem dX12_init_207 : decode cX12_init 207 = .ok (.iload_n 1, 1) := by decide +kernel
theorem dX12_init_208 : decode cX12_init 208 = .ok (.iconst 3, 1) := by decide +kernel
theorem dX12_init_209 : decode cX12_init 209 = .ok (.if_icmp .ge 16, 3) := by decide +kernel
theorem dX12_init_212 : decode cX12_init 212 = .ok (.aload_n 0, 1) := by decide +kernel
theorem dX12_init_213 : decode cX12_init 213 = .ok (.getfield 77, 3) := by decide +kernel
theorem dX12_init_216 : decode cX12_init 216 = .ok (.iload_n 1, 1) := by decide +kernel
theorem dX12_init_217 : decode cX12_init 217 = .ok (.iconst (-1), 1) := by decide +kernel
theorem dX12_init_218 : decode cX12_init 218 = .ok (.iastore, 1) := by decide +kernel
theorem dX12_init_219 : decode cX12_init 219 = .ok (.iinc 1 1, 3) := by decide +kernel
theorem dX12_init_222 : decode cX12_init 222 = .ok (.goto (-15), 3) := by decide +kernel
theorem dX12_init_225 : decode cX12_init 225 = .ok (.return_, 1) := by decide +kernel
theorem dX12_in_0 : decode cX12_in 0 = .ok (.iload_n 0, 1) := by decide +kernel
theorem dX12_in_1 : decode cX12_in 1 = .ok (.iload_n 1, 1) := by decide +kernel
theorem dX12_in_2 : decode cX12_in 2 = .ok (.if_icmp .lt 12, 3) := by decide +kernel
theorem dX12_in_5 : decode cX12_in 5 = .ok (.iload_n 0, 1) := by decide +kernel
theorem dX12_in_6 : decode cX12_in 6 = .ok (.iload_n 2, 1) := by decide +kernel
theorem dX12_in_7 : decode cX12_in 7 = .ok (.if_icmp .gt 7, 3) := by decide +kernel
theorem dX12_in_10 : decode cX12_in 10 = .ok (.iconst 1, 1) := by decide +kernel
theorem dX12_in_11 : decode cX12_in 11 = .ok (.goto 4, 3) := by decide +kernel
theorem dX12_in_14 : decode cX12_in 14 = .ok (.iconst 0, 1) := by decide +kernel
theorem dX12_in_15 : decode cX12_in 15 = .ok (.ireturn, 1) := by decide +kernel
theorem dX12_anew_0 : decode cX12_anew 0 = .ok (.aload_n 0, 1) := by decide +kernel
theorem dX12_anew_1 : decode cX12_anew 1 = .ok (.iload_n 1, 1) := by decide +kernel
theorem dX12_anew_2 : decode cX12_anew 2 = .ok (.putfield 9, 3) := by decide +kernel
theorem dX12_anew_5 : decode cX12_anew 5 = .ok (.aload_n 0, 1) := by decide +kernel
theorem dX12_anew_6 : decode cX12_anew 6 = .ok (.bipush 20, 2) := by decide +kernel
theorem dX12_anew_8 : decode cX12_anew 8 = .ok (.putfield 15, 3) := by decide +kernel
theorem dX12_anew_11 : decode cX12_anew 11 = .ok (.aload_n 0, 1) := by decide +kernel
theorem dX12_anew_12 : decode cX12_anew 12 = .ok (.bipush 100, 2) := by decide +kernel
theorem dX12_anew_14 : decode cX12_anew 14 = .ok (.putfield 18, 3) := by decide +kernel
theorem dX12_anew_17 : decode cX12_anew 17 = .ok (.aload_n 0, 1) := by decide +kernel
theorem dX12_anew_18 : decode cX12_anew 18 = .ok (.iconst 0, 1) := by decide +kernel
theorem dX12_anew_19 : decode cX12_anew 19 = .ok (.putfield 95, 3) := by decide +kernel
theorem dX12_anew_22 : decode cX12_anew 22 = .ok (.aload_n 0, 1) := by decide +kernel
theorem dX12_anew_23 : decode cX12_anew 23 = .ok (.iconst 0, 1) := by decide +kernel
theorem dX12_anew_24 : decode cX12_anew 24 = .ok (.putfield 98, 3) := by decide +kernel
theorem dX12_anew_27 : decode cX12_anew 27 = .ok (.iconst 0, 1) := by decide +kernel
theorem dX12_anew_28 : decode cX12_anew 28 = .ok (.istore_n 2, 1) := by decide +kernel
theorem dX12_anew_29 : decode cX12_anew 29 = .ok (.iload_n 2, 1) := by decide +kernel
theorem dX12_anew_30 : decode cX12_anew 30 = .ok (.bipush 10, 2) := by decide +kernel
theorem dX12_anew_32 : decode cX12_anew 32 = .ok (.if_icmp .ge 24, 3) := by decide +kernel
theorem dX12_anew_35 : decode cX12_anew 35 = .ok (.aload_n 0, 1) := by decide +kernel
theorem dX12_anew_36 : decode cX12_anew 36 = .ok (.getfield 21, 3) := by decide +kernel
theorem dX12_anew_39 : decode cX12_anew 39 = .ok (.iload_n 2, 1) := by decide +kernel
theorem dX12_anew_40 : decode cX12_anew 40 = .ok (.bipush 10, 2) := by decide +kernel
theorem dX12_anew_42 : decode cX12_anew 42 = .ok (.iastore, 1) := by decide +kernel
theorem dX12_anew_43 : decode cX12_anew 43 = .ok (.aload_n 0, 1) := by decide +kernel
theorem dX12_anew_44 : decode cX12_anew 44 = .ok (.getfield 25, 3) := by decide +kernel
theorem dX12_anew_47 : decode cX12_anew 47 = .ok (.iload_n 2, 1) := by decide +kernel
theorem dX12_anew_48 : decode cX12_anew 48 = .ok (.iconst 0, 1) := by decide +kernel
theorem dX12_anew_49 : decode cX12_anew 49 = .ok (.iastore, 1) := by decide +kernel
theorem dX12_anew_50 : decode cX12_anew 50 = .ok (.iinc 2 1, 3) := by decide +kernel
theorem dX12_anew_53 : decode cX12_anew 53 = .ok (.goto (-24), 3) := by decide +kernel
theorem dX12_anew_56 : decode cX12_anew 56 = .ok (.iconst 0, 1) := by decide +kernel
theorem dX12_anew_57 : decode cX12_anew 57 = .ok (.istore_n 2, 1) := by decide +kernel
theorem dX12_anew_58 : decode cX12_anew 58 = .ok (.iload_n 2, 1) := by decide +kernel
theorem dX12_anew_59 : decode cX12_anew 59 = .ok (.iconst 4, 1) := by decide +kernel
theorem dX12_anew_60 : decode cX12_anew 60 = .ok (.if_icmp .ge 37, 3) := by decide +kernel
theorem dX12_anew_63 : decode cX12_anew 63 = .ok (.aload_n 0, 1) := by decide +kernel
theorem dX12_anew_64 : decode cX12_anew 64 = .ok (.getfield 46, 3) := by decide +kernel
theorem dX12_anew_67 : decode cX12_anew 67 = .ok (.iload_n 2, 1) := by decide +kernel
theorem dX12_anew_68 : decode cX12_anew 68 = .ok (.iconst 0, 1) := by decide +kernel
theorem dX12_anew_69 : decode cX12_anew 69 = .ok (.iastore, 1) := by decide +kernel
theorem dX12_anew_70 : decode cX12_anew 70 = .ok (.aload_n 0, 1) := by decide +kernel
theorem dX12_anew_71 : decode cX12_anew 71 = .ok (.getfield 49, 3) := by decide +kernel
theorem dX12_anew_74 : decode cX12_anew 74 = .ok (.iload_n 2, 1) := by decide +kernel
theorem dX12_anew_75 : decode cX12_anew 75 = .ok (.iconst 0, 1) := by decide +kernel
theorem dX12_anew_76 : decode cX12_anew 76 = .ok (.iastore, 1) := by decide +kernel
theorem dX12_anew_77 : decode cX12_anew 77 = .ok (.aload_n 0, 1) := by decide +kernel
theorem dX12_anew_78 : decode cX12_anew 78 = .ok (.getfield 52, 3) := by decide +kernel
theorem dX12_anew_81 : decode cX12_anew 81 = .ok (.iload_n 2, 1) := by decide +kernel
theorem dX12_anew_82 : decode cX12_anew 82 = .ok (.iconst 0, 1) := by decide +kernel
theorem dX12_anew_83 : decode cX12_anew 83 = .ok (.iastore, 1) := by decide +kernel
theorem dX12_anew_84 : decode cX12_anew 84 = .ok (.aload_n 0, 1) := by decide +kernel
theorem dX12_anew_85 : decode cX12_anew 85 = .ok (.getfield 55, 3) := by decide +kernel
theorem dX12_anew_88 : decode cX12_anew 88 = .ok (.iload_n 2, 1) := by decide +kernel
theorem dX12_anew_89 : decode cX12_anew 89 = .ok (.iconst 0, 1) := by decide +kernel
theorem dX12_anew_90 : decode cX12_anew 90 = .ok (.iastore, 1) := by decide +kernel
theorem dX12_anew_91 : decode cX12_anew 91 = .ok (.iinc 2 1, 3) := by decide +kernel
theorem dX12_anew_94 : decode cX12_anew 94 = .ok (.goto (-36), 3) := by decide +kernel
theorem dX12_anew_97 : decode cX12_anew 97 = .ok (.return_, 1) := by decide +kernel
set_option maxRecDepth 20000 in
theorem ggX12_isSection_X12_in : GoodIn wsX12_isSection wsX12_in := goodIn_r _ [5] (by decide +kernel) (by decide +kernel)
set_option maxRecDepth 20000 in
theorem gX12_isSection_X12_in : GoodIn wsX12_isSection (va_wsS RX12 101 yX12_in wsX12_in) := goodIn_app (goodIn_of _ (by decide +kernel)) ggX12_isSection_X12_in
theorem dX12_isSection_0 : decode cX12_isSection 0 = .ok (.iload_n 1, 1) := by decide +kernel
theorem dX12_isSection_1 : decode cX12_isSection 1 = .ok (.iconst 0, 1) := by decide +kernel
theorem dX12_isSection_2 : decode cX12_isSection 2 = .ok (.aload_n 0, 1) := by decide +kernel
theorem dX12_isSection_3 : decode cX12_isSection 3 = .ok (.getfield 9, 3) := by decide +kernel
theorem dX12_isSection_6 : decode cX12_isSection 6 = .ok (.iconst 1, 1) := by decide +kernel
theorem dX12_isSection_7 : decode cX12_isSection 7 = .ok (.isub, 1) := by decide +kernel
theorem dX12_isSection_8 : decode cX12_isSection 8 = .ok (.invokestatic 101, 3) := by decide +kernel
theorem dX12_isSection_11 : decode cX12_isSection 11 = .ok (.ireturn, 1) := by decide +kernel
set_option maxRecDepth 20000 in
theorem ggX12_isTank_X12_in : GoodIn wsX12_isTank wsX12_in := goodIn_r _ [4] (by decide +kernel) (by decide +kernel)
set_option maxRecDepth 20000 in
theorem gX12_isTank_X12_in : GoodIn wsX12_isTank (va_wsS RX12 101 yX12_in wsX12_in) := goodIn_app (goodIn_of _ (by decide +kernel)) ggX12_isTank_X12_in
theorem dX12_isTank_0 : decode cX12_isTank 0 = .ok (.iload_n 0, 1) := by decide +kernel
theorem dX12_isTank_1 : decode cX12_isTank 1 = .ok (.iconst 0, 1) := by decide +kernel
theorem dX12_isTank_2 : decode cX12_isTank 2 = .ok (.iconst 3, 1) := by decide +kernel
theorem dX12_isTank_3 : decode cX12_isTank 3 = .ok (.invokestatic 101, 3) := by decide +kernel
theorem dX12_isTank_6 : decode cX12_isTank 6 = .ok (.ireturn, 1) := by decide +kernel
set_option maxRecDepth 20000 in
theorem ggX12_hull_X12_in : GoodIn wsX12_hull wsX12_in := goodIn_r _ [5] (by decide +kernel) (by decide +kernel)
set_option maxRecDepth 20000 in
theorem gX12_hull_X12_in : GoodIn wsX12_hull (va_wsS RX12 101 yX12_in wsX12_in) := goodIn_app (goodIn_of _ (by decide +kernel)) ggX12_hull_X12_in
set_option maxRecDepth 20000 in
theorem ggX12_hull_X12_anew : GoodIn wsX12_hull wsX12_anew := goodIn_r _ [9, 1, 10, 11, 12, 13, 14, 15, 16, 17, 18, 19, 20, 21, 22, 23, 24, 25, 26, 27, 28, 29, 30, 31, 32, 33, 34, 35, 36, 37, 38, 39, 40, 41, 42, 43, 44, 45, 46, 47, 48, 49, 50, 51] (by decide +kernel) (by decide +kernel)
set_option maxRecDepth 20000 in
theorem gX12_hull_X12_anew : GoodIn wsX12_hull (wsV RX12 91 RX12 yX12_anew wsX12_anew) := goodIn_app (goodIn_of _ (by decide +kernel)) ggX12_hull_X12_anew
theorem dX12_hull_0 : decode cX12_hull 0 = .ok (.iload_n 1, 1) := by decide +kernel
theorem dX12_hull_1 : decode cX12_hull 1 = .ok (.iconst 2, 1) := by decide +kernel
theorem dX12_hull_2 : decode cX12_hull 2 = .ok (.bipush 10, 2) := by decide +kernel
theorem dX12_hull_4 : decode cX12_hull 4 = .ok (.invokestatic 101, 3) := by decide +kernel
theorem dX12_hull_7 : decode cX12_hull 7 = .ok (.ifCond .ne 5, 3) := by decide +kernel
theorem dX12_hull_10 : decode cX12_hull 10 = .ok (.iconst (-1), 1) := by decide +kernel
theorem dX12_hull_11 : decode cX12_hull 11 = .ok (.ireturn, 1) := by decide +kernel
theorem dX12_hull_12 : decode cX12_hull 12 = .ok (.aload_n 0, 1) := by decide +kernel
theorem dX12_hull_13 : decode cX12_hull 13 = .ok (.getfield 9, 3) := by decide +kernel
theorem dX12_hull_16 : decode cX12_hull 16 = .ok (.istore_n 2, 1) := by decide +kernel
theorem dX12_hull_17 : decode cX12_hull 17 = .ok (.aload_n 0, 1) := by decide +kernel
theorem dX12_hull_18 : decode cX12_hull 18 = .ok (.iload_n 1, 1) := by decide +kernel
theorem dX12_hull_19 : decode cX12_hull 19 = .ok (.invokevirtual 91, 3) := by decide +kernel
theorem dX12_hull_22 : decode cX12_hull 22 = .ok (.iload_n 2, 1) := by decide +kernel
theorem dX12_hull_23 : decode cX12_hull 23 = .ok (.ireturn, 1) := by decide +kernel
set_option maxRecDepth 20000 in
theorem ggX12_section_X12_isSection : GoodIn wsX12_section wsX12_isSection := goodIn_r _ [7, 8, 9, 10, 6, 11, 12, 13, 14, 15, 16, 17, 18, 19, 20, 21, 22, 23, 24, 25, 26, 27, 28, 29, 30, 31, 32, 33, 34, 35, 36, 37, 38, 39, 40, 41, 42, 43] (by decide +kernel) (by decide +kernel)
set_option maxRecDepth 20000 in
theorem gX12_section_X12_isSection : GoodIn wsX12_section (wsV RX12 105 RX12 yX12_isSection wsX12_isSection) := goodIn_app (goodIn_of _ (by decide +kernel)) ggX12_section_X12_isSection
set_option maxRecDepth 20000 in
theorem ggX12_section_X12_in : GoodIn wsX12_section wsX12_in := goodIn_r _ [11] (by decide +kernel) (by decide +kernel)
set_option maxRecDepth 20000 in
theorem gX12_section_X12_in : GoodIn wsX12_section (va_wsS RX12 101 yX12_in wsX12_in) := goodIn_app (goodIn_of _ (by decide +kernel)) ggX12_section_X12_in
theorem dX12_section_0 : decode cX12_section 0 = .ok (.aload_n 0, 1) := by decide +kernel
theorem dX12_section_1 : decode cX12_section 1 = .ok (.iload_n 1, 1) := by decide +kernel
theorem dX12_section_2 : decode cX12_section 2 = .ok (.invokevirtual 105, 3) := by decide +kernel
theorem dX12_section_5 : decode cX12_section 5 = .ok (.ifCond .eq 23, 3) := by decide +kernel
theorem dX12_section_8 : decode cX12_section 8 = .ok (.iload_n 2, 1) := by decide +kernel
theorem dX12_section_9 : decode cX12_section 9 = .ok (.iconst 1, 1) := by decide +kernel
theorem dX12_section_10 : decode cX12_section 10 = .ok (.bipush 40, 2) := by decide +kernel
theorem dX12_section_12 : decode cX12_section 12 = .ok (.invokestatic 101, 3) := by decide +kernel
theorem dX12_section_15 : decode cX12_section 15 = .ok (.ifCond .eq 13, 3) := by decide +kernel
theorem dX12_section_18 : decode cX12_section 18 = .ok (.iload_n 3, 1) := by decide +kernel
theorem dX12_section_19 : decode cX12_section 19 = .ok (.iconst 0, 1) := by decide +kernel
theorem dX12_section_20 : decode cX12_section 20 = .ok (.bipush 30, 2) := by decide +kernel
theorem dX12_section_22 : decode cX12_section 22 = .ok (.invokestatic 101, 3) := by decide +kernel
theorem dX12_section_25 : decode cX12_section 25 = .ok (.ifCond .ne 5, 3) := by decide +kernel
theorem dX12_section_28 : decode cX12_section 28 = .ok (.iconst (-1), 1) := by decide +kernel
theorem dX12_section_29 : decode cX12_section 29 = .ok (.ireturn, 1) := by decide +kernel
theorem dX12_section_30 : decode cX12_section 30 = .ok (.bipush 100, 2) := by decide +kernel
theorem dX12_section_32 : decode cX12_section 32 = .ok (.aload_n 0, 1) := by decide +kernel
theorem dX12_section_33 : decode cX12_section 33 = .ok (.getfield 21, 3) := by decide +kernel
theorem dX12_section_36 : decode cX12_section 36 = .ok (.iload_n 1, 1) := by decide +kernel
theorem dX12_section_37 : decode cX12_section 37 = .ok (.iaload, 1) := by decide +kernel
theorem dX12_section_38 : decode cX12_section 38 = .ok (.imul, 1) := by decide +kernel
theorem dX12_section_39 : decode cX12_section 39 = .ok (.aload_n 0, 1) := by decide +kernel
theorem dX12_section_40 : decode cX12_section 40 = .ok (.getfield 25, 3) := by decide +kernel
theorem dX12_section_43 : decode cX12_section 43 = .ok (.iload_n 1, 1) := by decide +kernel
theorem dX12_section_44 : decode cX12_section 44 = .ok (.iaload, 1) := by decide +kernel
theorem dX12_section_45 : decode cX12_section 45 = .ok (.iadd, 1) := by decide +kernel
theorem dX12_section_46 : decode cX12_section 46 = .ok (.istore 4, 2) := by decide +kernel
theorem dX12_section_48 : decode cX12_section 48 = .ok (.aload_n 0, 1) := by decide +kernel
theorem dX12_section_49 : decode cX12_section 49 = .ok (.getfield 21, 3) := by decide +kernel
theorem dX12_section_52 : decode cX12_section 52 = .ok (.iload_n 1, 1) := by decide +kernel
theorem dX12_section_53 : decode cX12_section 53 = .ok (.iload_n 2, 1) := by decide +kernel
theorem dX12_section_54 : decode cX12_section 54 = .ok (.iastore, 1) := by decide +kernel
theorem dX12_section_55 : decode cX12_section 55 = .ok (.aload_n 0, 1) := by decide +kernel
theorem dX12_section_56 : decode cX12_section 56 = .ok (.getfield 25, 3) := by decide +kernel
theorem dX12_section_59 : decode cX12_section 59 = .ok (.iload_n 1, 1) := by decide +kernel
theorem dX12_section_60 : decode cX12_section 60 = .ok (.iload_n 3, 1) := by decide +kernel
theorem dX12_section_61 : decode cX12_section 61 = .ok (.iastore, 1) := by decide +kernel
theorem dX12_section_62 : decode cX12_section 62 = .ok (.iload 4, 2) := by decide +kernel
theorem dX12_section_64 : decode cX12_section 64 = .ok (.ireturn, 1) := by decide +kernel
set_option maxRecDepth 20000 in
theorem ggX12_set_X12_in : GoodIn wsX12_set wsX12_in := goodIn_r _ [7] (by decide +kernel) (by decide +kernel)
set_option maxRecDepth 20000 in
theorem gX12_set_X12_in : GoodIn wsX12_set (va_wsS RX12 101 yX12_in wsX12_in) := goodIn_app (goodIn_of _ (by decide +kernel)) ggX12_set_X12_in
theorem dX12_set_0 : decode cX12_set 0 = .ok (.iload_n 1, 1) := by decide +kernel
theorem dX12_set_1 : decode cX12_set 1 = .ok (.tableswitch 99 0 2 #[27, 51, 76], 27) := by decide +kernel
theorem dX12_set_28 : decode cX12_set 28 = .ok (.iload_n 2, 1) := by decide +kernel
theorem dX12_set_29 : decode cX12_set 29 = .ok (.iconst 1, 1) := by decide +kernel
theorem dX12_set_30 : decode cX12_set 30 = .ok (.bipush 60, 2) := by decide +kernel
theorem dX12_set_32 : decode cX12_set 32 = .ok (.invokestatic 101, 3) := by decide +kernel
theorem dX12_set_35 : decode cX12_set 35 = .ok (.ifCond .ne 5, 3) := by decide +kernel
theorem dX12_set_38 : decode cX12_set 38 = .ok (.iconst (-1), 1) := by decide +kernel
theorem dX12_set_39 : decode cX12_set 39 = .ok (.ireturn, 1) := by decide +kernel
theorem dX12_set_40 : decode cX12_set 40 = .ok (.aload_n 0, 1) := by decide +kernel
theorem dX12_set_41 : decode cX12_set 41 = .ok (.getfield 15, 3) := by decide +kernel
theorem dX12_set_44 : decode cX12_set 44 = .ok (.istore_n 3, 1) := by decide +kernel
theorem dX12_set_45 : decode cX12_set 45 = .ok (.aload_n 0, 1) := by decide +kernel
theorem dX12_set_46 : decode cX12_set 46 = .ok (.iload_n 2, 1) := by decide +kernel
theorem dX12_set_47 : decode cX12_set 47 = .ok (.putfield 15, 3) := by decide +kernel
theorem dX12_set_50 : decode cX12_set 50 = .ok (.iload_n 3, 1) := by decide +kernel
theorem dX12_set_51 : decode cX12_set 51 = .ok (.ireturn, 1) := by decide +kernel
theorem dX12_set_52 : decode cX12_set 52 = .ok (.iload_n 2, 1) := by decide +kernel
theorem dX12_set_53 : decode cX12_set 53 = .ok (.iconst 1, 1) := by decide +kernel
theorem dX12_set_54 : decode cX12_set 54 = .ok (.sipush 9999, 3) := by decide +kernel
theorem dX12_set_57 : decode cX12_set 57 = .ok (.invokestatic 101, 3) := by decide +kernel
theorem dX12_set_60 : decode cX12_set 60 = .ok (.ifCond .ne 5, 3) := by decide +kernel
theorem dX12_set_63 : decode cX12_set 63 = .ok (.iconst (-1), 1) := by decide +kernel
theorem dX12_set_64 : decode cX12_set 64 = .ok (.ireturn, 1) := by decide +kernel
theorem dX12_set_65 : decode cX12_set 65 = .ok (.aload_n 0, 1) := by decide +kernel
theorem dX12_set_66 : decode cX12_set 66 = .ok (.getfield 18, 3) := by decide +kernel
theorem dX12_set_69 : decode cX12_set 69 = .ok (.istore_n 3, 1) := by decide +kernel
theorem dX12_set_70 : decode cX12_set 70 = .ok (.aload_n 0, 1) := by decide +kernel
theorem dX12_set_71 : decode cX12_set 71 = .ok (.iload_n 2, 1) := by decide +kernel
theorem dX12_set_72 : decode cX12_set 72 = .ok (.putfield 18, 3) := by decide +kernel
theorem dX12_set_75 : decode cX12_set 75 = .ok (.iload_n 3, 1) := by decide +kernel
theorem dX12_set_76 : decode cX12_set 76 = .ok (.ireturn, 1) := by decide +kernel
theorem dX12_set_77 : decode cX12_set 77 = .ok (.iload_n 2, 1) := by decide +kernel
theorem dX12_set_78 : decode cX12_set 78 = .ok (.iconst 0, 1) := by decide +kernel
theorem dX12_set_79 : decode cX12_set 79 = .ok (.iconst 1, 1) := by decide +kernel
theorem dX12_set_80 : decode cX12_set 80 = .ok (.invokestatic 101, 3) := by decide +kernel
theorem dX12_set_83 : decode cX12_set 83 = .ok (.ifCond .ne 5, 3) := by decide +kernel
theorem dX12_set_86 : decode cX12_set 86 = .ok (.iconst (-1), 1) := by decide +kernel
theorem dX12_set_87 : decode cX12_set 87 = .ok (.ireturn, 1) := by decide +kernel
theorem dX12_set_88 : decode cX12_set 88 = .ok (.aload_n 0, 1) := by decide +kernel
theorem dX12_set_89 : decode cX12_set 89 = .ok (.getfield 95, 3) := by decide +kernel
theorem dX12_set_92 : decode cX12_set 92 = .ok (.istore_n 3, 1) := by decide +kernel
theorem dX12_set_93 : decode cX12_set 93 = .ok (.aload_n 0, 1) := by decide +kernel
theorem dX12_set_94 : decode cX12_set 94 = .ok (.iload_n 2, 1) := by decide +kernel
theorem dX12_set_95 : decode cX12_set 95 = .ok (.putfield 95, 3) := by decide +kernel
theorem dX12_set_98 : decode cX12_set 98 = .ok (.iload_n 3, 1) := by decide +kernel
theorem dX12_set_99 : decode cX12_set 99 = .ok (.ireturn, 1) := by decide +kernel
theorem dX12_set_100 : decode cX12_set 100 = .ok (.iconst (-1), 1) := by decide +kernel
theorem dX12_set_101 : decode cX12_set 101 = .ok (.ireturn, 1) := by decide +kernel
theorem dX12_isName_0 : decode cX12_isName 0 = .ok (.iload_n 0, 1) := by decide +kernel
theorem dX12_isName_1 : decode cX12_isName 1 = .ok (.iconst 1, 1) := by decide +kernel
theorem dX12_isName_2 : decode cX12_isName 2 = .ok (.if_icmp .lt 9, 3) := by decide +kernel
theorem dX12_isName_5 : decode cX12_isName 5 = .ok (.iload_n 0, 1) := by decide +kernel
theorem dX12_isName_6 : decode cX12_isName 6 = .ok (.ldc 109, 2) := by decide +kernel
theorem dX12_isName_8 : decode cX12_isName 8 = .ok (.if_icmp .le 5, 3) := by decide +kernel
theorem dX12_isName_11 : decode cX12_isName 11 = .ok (.iconst 0, 1) := by decide +kernel
theorem dX12_isName_12 : decode cX12_isName 12 = .ok (.ireturn, 1) := by decide +kernel
theorem dX12_isName_13 : decode cX12_isName 13 = .ok (.iload_n 0, 1) := by decide +kernel
theorem dX12_isName_14 : decode cX12_isName 14 = .ok (.istore_n 1, 1) := by decide +kernel
theorem dX12_isName_15 : decode cX12_isName 15 = .ok (.iload_n 1, 1) := by decide +kernel
theorem dX12_isName_16 : decode cX12_isName 16 = .ok (.ifCond .le 20, 3) := by decide +kernel
theorem dX12_isName_19 : decode cX12_isName 19 = .ok (.iload_n 1, 1) := by decide +kernel
theorem dX12_isName_20 : decode cX12_isName 20 = .ok (.bipush 27, 2) := by decide +kernel
theorem dX12_isName_22 : decode cX12_isName 22 = .ok (.irem, 1) := by decide +kernel
theorem dX12_isName_23 : decode cX12_isName 23 = .ok (.ifCond .ne 5, 3) := by decide +kernel
theorem dX12_isName_26 : decode cX12_isName 26 = .ok (.iconst 0, 1) := by decide +kernel
theorem dX12_isName_27 : decode cX12_isName 27 = .ok (.ireturn, 1) := by decide +kernel
theorem dX12_isName_28 : decode cX12_isName 28 = .ok (.iload_n 1, 1) := by decide +kernel
theorem dX12_isName_29 : decode cX12_isName 29 = .ok (.bipush 27, 2) := by decide +kernel
theorem dX12_isName_31 : decode cX12_isName 31 = .ok (.idiv, 1) := by decide +kernel
theorem dX12_isName_32 : decode cX12_isName 32 = .ok (.istore_n 1, 1) := by decide +kernel
theorem dX12_isName_33 : decode cX12_isName 33 = .ok (.goto (-18), 3) := by decide +kernel
theorem dX12_isName_36 : decode cX12_isName 36 = .ok (.iconst 1, 1) := by decide +kernel
theorem dX12_isName_37 : decode cX12_isName 37 = .ok (.ireturn, 1) := by decide +kernel
theorem dX12_find_0 : decode cX12_find 0 = .ok (.iconst 0, 1) := by decide +kernel
theorem dX12_find_1 : decode cX12_find 1 = .ok (.istore_n 2, 1) := by decide +kernel
theorem dX12_find_2 : decode cX12_find 2 = .ok (.iload_n 2, 1) := by decide +kernel
theorem dX12_find_3 : decode cX12_find 3 = .ok (.aload_n 0, 1) := by decide +kernel
theorem dX12_find_4 : decode cX12_find 4 = .ok (.getfield 98, 3) := by decide +kernel
theorem dX12_find_7 : decode cX12_find 7 = .ok (.if_icmp .ge 21, 3) := by decide +kernel
theorem dX12_find_10 : decode cX12_find 10 = .ok (.aload_n 0, 1) := by decide +kernel
theorem dX12_find_11 : decode cX12_find 11 = .ok (.getfield 28, 3) := by decide +kernel
theorem dX12_find_14 : decode cX12_find 14 = .ok (.iload_n 2, 1) := by decide +kernel
theorem dX12_find_15 : decode cX12_find 15 = .ok (.iaload, 1) := by decide +kernel
theorem dX12_find_16 : decode cX12_find 16 = .ok (.iload_n 1, 1) := by decide +kernel
theorem dX12_find_17 : decode cX12_find 17 = .ok (.if_icmp .ne 5, 3) := by decide +kernel
theorem dX12_find_20 : decode cX12_find 20 = .ok (.iload_n 2, 1) := by decide +kernel
theorem dX12_find_21 : decode cX12_find 21 = .ok (.ireturn, 1) := by decide +kernel
theorem dX12_find_22 : decode cX12_find 22 = .ok (.iinc 2 1, 3) := by decide +kernel
theorem dX12_find_25 : decode cX12_find 25 = .ok (.goto (-23), 3) := by decide +kernel
theorem dX12_find_28 : decode cX12_find 28 = .ok (.iconst (-1), 1) := by decide +kernel
theorem dX12_find_29 : decode cX12_find 29 = .ok (.ireturn, 1) := by decide +kernel
theorem dX12_lay_0 : decode cX12_lay 0 = .ok (.aload_n 0, 1) := by decide +kernel
theorem dX12_lay_1 : decode cX12_lay 1 = .ok (.getfield 28, 3) := by decide +kernel
theorem dX12_lay_4 : decode cX12_lay 4 = .ok (.iload_n 1, 1) := by decide +kernel
theorem dX12_lay_5 : decode cX12_lay 5 = .ok (.aload_n 0, 1) := by decide +kernel
theorem dX12_lay_6 : decode cX12_lay 6 = .ok (.getfield 28, 3) := by decide +kernel
theorem dX12_lay_9 : decode cX12_lay 9 = .ok (.iload_n 2, 1) := by decide +kernel
theorem dX12_lay_10 : decode cX12_lay 10 = .ok (.iaload, 1) := by decide +kernel
theorem dX12_lay_11 : decode cX12_lay 11 = .ok (.iastore, 1) := by decide +kernel
theorem dX12_lay_12 : decode cX12_lay 12 = .ok (.aload_n 0, 1) := by decide +kernel
theorem dX12_lay_13 : decode cX12_lay 13 = .ok (.getfield 31, 3) := by decide +kernel
theorem dX12_lay_16 : decode cX12_lay 16 = .ok (.iload_n 1, 1) := by decide +kernel
theorem dX12_lay_17 : decode cX12_lay 17 = .ok (.aload_n 0, 1) := by decide +kernel
theorem dX12_lay_18 : decode cX12_lay 18 = .ok (.getfield 31, 3) := by decide +kernel
theorem dX12_lay_21 : decode cX12_lay 21 = .ok (.iload_n 2, 1) := by decide +kernel
theorem dX12_lay_22 : decode cX12_lay 22 = .ok (.iaload, 1) := by decide +kernel
theorem dX12_lay_23 : decode cX12_lay 23 = .ok (.iastore, 1) := by decide +kernel
theorem dX12_lay_24 : decode cX12_lay 24 = .ok (.aload_n 0, 1) := by decide +kernel
theorem dX12_lay_25 : decode cX12_lay 25 = .ok (.getfield 34, 3) := by decide +kernel
theorem dX12_lay_28 : decode cX12_lay 28 = .ok (.iload_n 1, 1) := by decide +kernel
theorem dX12_lay_29 : decode cX12_lay 29 = .ok (.aload_n 0, 1) := by decide +kernel
theorem dX12_lay_30 : decode cX12_lay 30 = .ok (.getfield 34, 3) := by decide +kernel
theorem dX12_lay_33 : decode cX12_lay 33 = .ok (.iload_n 2, 1) := by decide +kernel
theorem dX12_lay_34 : decode cX12_lay 34 = .ok (.iaload, 1) := by decide +kernel
theorem dX12_lay_35 : decode cX12_lay 35 = .ok (.iastore, 1) := by decide +kernel
theorem dX12_lay_36 : decode cX12_lay 36 = .ok (.aload_n 0, 1) := by decide +kernel
theorem dX12_lay_37 : decode cX12_lay 37 = .ok (.getfield 37, 3) := by decide +kernel
theorem dX12_lay_40 : decode cX12_lay 40 = .ok (.iload_n 1, 1) := by decide +kernel
theorem dX12_lay_41 : decode cX12_lay 41 = .ok (.aload_n 0, 1) := by decide +kernel
theorem dX12_lay_42 : decode cX12_lay 42 = .ok (.getfield 37, 3) := by decide +kernel
theorem dX12_lay_45 : decode cX12_lay 45 = .ok (.iload_n 2, 1) := by decide +kernel
theorem dX12_lay_46 : decode cX12_lay 46 = .ok (.iaload, 1) := by decide +kernel
theorem dX12_lay_47 : decode cX12_lay 47 = .ok (.iastore, 1) := by decide +kernel
theorem dX12_lay_48 : decode cX12_lay 48 = .ok (.aload_n 0, 1) := by decide +kernel
theorem dX12_lay_49 : decode cX12_lay 49 = .ok (.getfield 40, 3) := by decide +kernel
theorem dX12_lay_52 : decode cX12_lay 52 = .ok (.iload_n 1, 1) := by decide +kernel
theorem dX12_lay_53 : decode cX12_lay 53 = .ok (.aload_n 0, 1) := by decide +kernel
theorem dX12_lay_54 : decode cX12_lay 54 = .ok (.getfield 40, 3) := by decide +kernel
theorem dX12_lay_57 : decode cX12_lay 57 = .ok (.iload_n 2, 1) := by decide +kernel
theorem dX12_lay_58 : decode cX12_lay 58 = .ok (.iaload, 1) := by decide +kernel
theorem dX12_lay_59 : decode cX12_lay 59 = .ok (.iastore, 1) := by decide +kernel
theorem dX12_lay_60 : decode cX12_lay 60 = .ok (.aload_n 0, 1) := by decide +kernel
theorem dX12_lay_61 : decode cX12_lay 61 = .ok (.getfield 43, 3) := by decide +kernel
theorem dX12_lay_64 : decode cX12_lay 64 = .ok (.iload_n 1, 1) := by decide +kernel
theorem dX12_lay_65 : decode cX12_lay 65 = .ok (.aload_n 0, 1) := by decide +kernel
theorem dX12_lay_66 : decode cX12_lay 66 = .ok (.getfield 43, 3) := by decide +kernel
theorem dX12_lay_69 : decode cX12_lay 69 = .ok (.iload_n 2, 1) := by decide +kernel
theorem dX12_lay_70 : decode cX12_lay 70 = .ok (.iaload, 1) := by decide +kernel
theorem dX12_lay_71 : decode cX12_lay 71 = .ok (.iastore, 1) := by decide +kernel
theorem dX12_lay_72 : decode cX12_lay 72 = .ok (.return_, 1) := by decide +kernel
set_option maxRecDepth 20000 in
theorem ggX12_put_X12_isName : GoodIn wsX12_put wsX12_isName := goodIn_r _ [11, 12] (by decide +kernel) (by decide +kernel)
set_option maxRecDepth 20000 in
theorem gX12_put_X12_isName : GoodIn wsX12_put (va_wsS RX12 110 yX12_isName wsX12_isName) := goodIn_app (goodIn_of _ (by decide +kernel)) ggX12_put_X12_isName
set_option maxRecDepth 20000 in
theorem ggX12_put_X12_in : GoodIn wsX12_put wsX12_in := goodIn_r _ [15] (by decide +kernel) (by decide +kernel)
set_option maxRecDepth 20000 in
theorem gX12_put_X12_in : GoodIn wsX12_put (va_wsS RX12 101 yX12_in wsX12_in) := goodIn_app (goodIn_of _ (by decide +kernel)) ggX12_put_X12_in
set_option maxRecDepth 20000 in
theorem ggX12_put_X12_isSection : GoodIn wsX12_put wsX12_isSection := goodIn_r _ [19, 20, 13, 14, 10, 15, 29, 30, 31, 32, 33, 34, 35, 36, 37, 38, 39, 40, 41, 42, 43, 44, 45, 46, 47, 48, 49, 50, 51, 52, 53, 54, 55, 56, 57, 58, 59, 60] (by decide +kernel) (by decide +kernel)
set_option maxRecDepth 20000 in
theorem gX12_put_X12_isSection : GoodIn wsX12_put (wsV RX12 105 RX12 yX12_isSection wsX12_isSection) := goodIn_app (goodIn_of _ (by decide +kernel)) ggX12_put_X12_isSection
set_option maxRecDepth 20000 in
theorem ggX12_put_X12_find : GoodIn wsX12_put wsX12_find := goodIn_r _ [24, 1, 2, 29, 30, 31, 32, 33, 34, 35, 36, 37, 38, 39, 40, 41, 42, 43, 44, 45, 46, 47, 48, 49, 50, 51, 52, 53, 54, 55, 56, 57, 58, 59, 60] (by decide +kernel) (by decide +kernel)
set_option maxRecDepth 20000 in
theorem gX12_put_X12_find : GoodIn wsX12_put (wsV RX12 113 RX12 yX12_find wsX12_find) := goodIn_app (goodIn_of _ (by decide +kernel)) ggX12_put_X12_find
set_option maxRecDepth 20000 in
theorem ggX12_put_X12_lay : GoodIn wsX12_put wsX12_lay := goodIn_r _ [28, 2, 3, 4, 5, 6, 7, 29, 30, 31, 32, 33, 34, 35, 36, 37, 38, 39, 40, 41, 42, 43, 44, 45, 46, 47, 48, 49, 50, 51, 52, 53, 54, 55, 56, 57, 58, 59, 60] (by decide +kernel) (by decide +kernel)
set_option maxRecDepth 20000 in
theorem gX12_put_X12_lay : GoodIn wsX12_put (wsV RX12 117 RX12 yX12_lay wsX12_lay) := goodIn_app (goodIn_of _ (by decide +kernel)) ggX12_put_X12_lay
theorem dX12_put_0 : decode cX12_put 0 = .ok (.iload_n 1, 1) := by decide +kernel
theorem dX12_put_1 : decode cX12_put 1 = .ok (.invokestatic 110, 3) := by decide +kernel
theorem dX12_put_4 : decode cX12_put 4 = .ok (.ifCond .eq 55, 3) := by decide +kernel
theorem dX12_put_7 : decode cX12_put 7 = .ok (.iload_n 2, 1) := by decide +kernel
theorem dX12_put_8 : decode cX12_put 8 = .ok (.iconst 0, 1) := by decide +kernel
theorem dX12_put_9 : decode cX12_put 9 = .ok (.iconst 4, 1) := by decide +kernel
theorem dX12_put_10 : decode cX12_put 10 = .ok (.invokestatic 101, 3) := by decide +kernel
theorem dX12_put_13 : decode cX12_put 13 = .ok (.ifCond .eq 46, 3) := by decide +kernel
theorem dX12_put_16 : decode cX12_put 16 = .ok (.iload_n 3, 1) := by decide +kernel
theorem dX12_put_17 : decode cX12_put 17 = .ok (.iconst 1, 1) := by decide +kernel
theorem dX12_put_18 : decode cX12_put 18 = .ok (.sipush 999, 3) := by decide +kernel
theorem dX12_put_21 : decode cX12_put 21 = .ok (.invokestatic 101, 3) := by decide +kernel
theorem dX12_put_24 : decode cX12_put 24 = .ok (.ifCond .eq 35, 3) := by decide +kernel
theorem dX12_put_27 : decode cX12_put 27 = .ok (.aload_n 0, 1) := by decide +kernel
theorem dX12_put_28 : decode cX12_put 28 = .ok (.iload 4, 2) := by decide +kernel
theorem dX12_put_30 : decode cX12_put 30 = .ok (.invokevirtual 105, 3) := by decide +kernel
theorem dX12_put_33 : decode cX12_put 33 = .ok (.ifCond .eq 26, 3) := by decide +kernel
theorem dX12_put_36 : decode cX12_put 36 = .ok (.iload 5, 2) := by decide +kernel
theorem dX12_put_38 : decode cX12_put 38 = .ok (.bipush (-20), 2) := by decide +kernel
theorem dX12_put_40 : decode cX12_put 40 = .ok (.bipush 20, 2) := by decide +kernel
theorem dX12_put_42 : decode cX12_put 42 = .ok (.invokestatic 101, 3) := by decide +kernel
theorem dX12_put_45 : decode cX12_put 45 = .ok (.ifCond .eq 14, 3) := by decide +kernel
theorem dX12_put_48 : decode cX12_put 48 = .ok (.iload 6, 2) := by decide +kernel
theorem dX12_put_50 : decode cX12_put 50 = .ok (.iconst 0, 1) := by decide +kernel
theorem dX12_put_51 : decode cX12_put 51 = .ok (.bipush 40, 2) := by decide +kernel
theorem dX12_put_53 : decode cX12_put 53 = .ok (.invokestatic 101, 3) := by decide +kernel
theorem dX12_put_56 : decode cX12_put 56 = .ok (.ifCond .ne 5, 3) := by decide +kernel
theorem dX12_put_59 : decode cX12_put 59 = .ok (.iconst (-1), 1) := by decide +kernel
theorem dX12_put_60 : decode cX12_put 60 = .ok (.ireturn, 1) := by decide +kernel
theorem dX12_put_61 : decode cX12_put 61 = .ok (.aload_n 0, 1) := by decide +kernel
theorem dX12_put_62 : decode cX12_put 62 = .ok (.iload_n 1, 1) := by decide +kernel
theorem dX12_put_63 : decode cX12_put 63 = .ok (.invokevirtual 113, 3) := by decide +kernel
theorem dX12_put_66 : decode cX12_put 66 = .ok (.ifCond .lt 6, 3) := by decide +kernel
theorem dX12_put_69 : decode cX12_put 69 = .ok (.bipush (-5), 2) := by decide +kernel
theorem dX12_put_71 : decode cX12_put 71 = .ok (.ireturn, 1) := by decide +kernel
theorem dX12_put_72 : decode cX12_put 72 = .ok (.aload_n 0, 1) := by decide +kernel
theorem dX12_put_73 : decode cX12_put 73 = .ok (.getfield 98, 3) := by decide +kernel
theorem dX12_put_76 : decode cX12_put 76 = .ok (.bipush 16, 2) := by decide +kernel
theorem dX12_put_78 : decode cX12_put 78 = .ok (.if_icmp .ne 6, 3) := by decide +kernel
theorem dX12_put_81 : decode cX12_put 81 = .ok (.bipush (-3), 2) := by decide +kernel
theorem dX12_put_83 : decode cX12_put 83 = .ok (.ireturn, 1) := by decide +kernel
theorem dX12_put_84 : decode cX12_put 84 = .ok (.aload_n 0, 1) := by decide +kernel
theorem dX12_put_85 : decode cX12_put 85 = .ok (.getfield 98, 3) := by decide +kernel
theorem dX12_put_88 : decode cX12_put 88 = .ok (.istore 7, 2) := by decide +kernel
theorem dX12_put_90 : decode cX12_put 90 = .ok (.iload 7, 2) := by decide +kernel
theorem dX12_put_92 : decode cX12_put 92 = .ok (.ifCond .le 32, 3) := by decide +kernel
theorem dX12_put_95 : decode cX12_put 95 = .ok (.aload_n 0, 1) := by decide +kernel
theorem dX12_put_96 : decode cX12_put 96 = .ok (.getfield 28, 3) := by decide +kernel
theorem dX12_put_99 : decode cX12_put 99 = .ok (.iload 7, 2) := by decide +kernel
theorem dX12_put_101 : decode cX12_put 101 = .ok (.iconst 1, 1) := by decide +kernel
theorem dX12_put_102 : decode cX12_put 102 = .ok (.isub, 1) := by decide +kernel
theorem dX12_put_103 : decode cX12_put 103 = .ok (.iaload, 1) := by decide +kernel
theorem dX12_put_104 : decode cX12_put 104 = .ok (.iload_n 1, 1) := by decide +kernel
theorem dX12_put_105 : decode cX12_put 105 = .ok (.if_icmp .le 19, 3) := by decide +kernel
theorem dX12_put_108 : decode cX12_put 108 = .ok (.aload_n 0, 1) := by decide +kernel
theorem dX12_put_109 : decode cX12_put 109 = .ok (.iload 7, 2) := by decide +kernel
theorem dX12_put_111 : decode cX12_put 111 = .ok (.iload 7, 2) := by decide +kernel
theorem dX12_put_113 : decode cX12_put 113 = .ok (.iconst 1, 1) := by decide +kernel
theorem dX12_put_114 : decode cX12_put 114 = .ok (.isub, 1) := by decide +kernel
theorem dX12_put_115 : decode cX12_put 115 = .ok (.invokevirtual 117, 3) := by decide +kernel
theorem dX12_put_118 : decode cX12_put 118 = .ok (.iinc 7 (-1), 3) := by decide +kernel
theorem dX12_put_121 : decode cX12_put 121 = .ok (.goto (-31), 3) := by decide +kernel
theorem dX12_put_124 : decode cX12_put 124 = .ok (.aload_n 0, 1) := by decide +kernel
theorem dX12_put_125 : decode cX12_put 125 = .ok (.getfield 28, 3) := by decide +kernel
theorem dX12_put_128 : decode cX12_put 128 = .ok (.iload 7, 2) := by decide +kernel
theorem dX12_put_130 : decode cX12_put 130 = .ok (.iload_n 1, 1) := by decide +kernel
theorem dX12_put_131 : decode cX12_put 131 = .ok (.iastore, 1) := by decide +kernel
theorem dX12_put_132 : decode cX12_put 132 = .ok (.aload_n 0, 1) := by decide +kernel
theorem dX12_put_133 : decode cX12_put 133 = .ok (.getfield 31, 3) := by decide +kernel
theorem dX12_put_136 : decode cX12_put 136 = .ok (.iload 7, 2) := by decide +kernel
theorem dX12_put_138 : decode cX12_put 138 = .ok (.iload_n 2, 1) := by decide +kernel
theorem dX12_put_139 : decode cX12_put 139 = .ok (.iastore, 1) := by decide +kernel
theorem dX12_put_140 : decode cX12_put 140 = .ok (.aload_n 0, 1) := by decide +kernel
theorem dX12_put_141 : decode cX12_put 141 = .ok (.getfield 34, 3) := by decide +kernel
theorem dX12_put_144 : decode cX12_put 144 = .ok (.iload 7, 2) := by decide +kernel
theorem dX12_put_146 : decode cX12_put 146 = .ok (.iload_n 3, 1) := by decide +kernel
theorem dX12_put_147 : decode cX12_put 147 = .ok (.iastore, 1) := by decide +kernel
theorem dX12_put_148 : decode cX12_put 148 = .ok (.aload_n 0, 1) := by decide +kernel
theorem dX12_put_149 : decode cX12_put 149 = .ok (.getfield 37, 3) := by decide +kernel
theorem dX12_put_152 : decode cX12_put 152 = .ok (.iload 7, 2) := by decide +kernel
theorem dX12_put_154 : decode cX12_put 154 = .ok (.iload 4, 2) := by decide +kernel
theorem dX12_put_156 : decode cX12_put 156 = .ok (.iastore, 1) := by decide +kernel
theorem dX12_put_157 : decode cX12_put 157 = .ok (.aload_n 0, 1) := by decide +kernel
theorem dX12_put_158 : decode cX12_put 158 = .ok (.getfield 40, 3) := by decide +kernel
theorem dX12_put_161 : decode cX12_put 161 = .ok (.iload 7, 2) := by decide +kernel
theorem dX12_put_163 : decode cX12_put 163 = .ok (.iload 5, 2) := by decide +kernel
theorem dX12_put_165 : decode cX12_put 165 = .ok (.iastore, 1) := by decide +kernel
theorem dX12_put_166 : decode cX12_put 166 = .ok (.aload_n 0, 1) := by decide +kernel
theorem dX12_put_167 : decode cX12_put 167 = .ok (.getfield 43, 3) := by decide +kernel
theorem dX12_put_170 : decode cX12_put 170 = .ok (.iload 7, 2) := by decide +kernel
theorem dX12_put_172 : decode cX12_put 172 = .ok (.iload 6, 2) := by decide +kernel
theorem dX12_put_174 : decode cX12_put 174 = .ok (.iastore, 1) := by decide +kernel
theorem dX12_put_175 : decode cX12_put 175 = .ok (.aload_n 0, 1) := by decide +kernel
theorem dX12_put_176 : decode cX12_put 176 = .ok (.dup, 1) := by decide +kernel
theorem dX12_put_177 : decode cX12_put 177 = .ok (.getfield 98, 3) := by decide +kernel
theorem dX12_put_180 : decode cX12_put 180 = .ok (.iconst 1, 1) := by decide +kernel
theorem dX12_put_181 : decode cX12_put 181 = .ok (.iadd, 1) := by decide +kernel
theorem dX12_put_182 : decode cX12_put 182 = .ok (.putfield 98, 3) := by decide +kernel
theorem dX12_put_185 : decode cX12_put 185 = .ok (.aload_n 0, 1) := by decide +kernel
theorem dX12_put_186 : decode cX12_put 186 = .ok (.getfield 98, 3) := by decide +kernel
theorem dX12_put_189 : decode cX12_put 189 = .ok (.ireturn, 1) := by decide +kernel
set_option maxRecDepth 20000 in
theorem ggX12_take_X12_isName : GoodIn wsX12_take wsX12_isName := goodIn_r _ [5, 6] (by decide +kernel) (by decide +kernel)
set_option maxRecDepth 20000 in
theorem gX12_take_X12_isName : GoodIn wsX12_take (va_wsS RX12 110 yX12_isName wsX12_isName) := goodIn_app (goodIn_of _ (by decide +kernel)) ggX12_take_X12_isName
set_option maxRecDepth 20000 in
theorem ggX12_take_X12_find : GoodIn wsX12_take wsX12_find := goodIn_r _ [10, 1, 11, 26, 27, 28, 29, 30, 31, 32, 33, 34, 35, 36, 37, 38, 39, 40, 41, 42, 43, 44, 45, 46, 47, 48, 49, 50, 51, 52, 53, 54, 55, 56, 57] (by decide +kernel) (by decide +kernel)
set_option maxRecDepth 20000 in
theorem gX12_take_X12_find : GoodIn wsX12_take (wsV RX12 113 RX12 yX12_find wsX12_find) := goodIn_app (goodIn_of _ (by decide +kernel)) ggX12_take_X12_find
set_option maxRecDepth 20000 in
theorem ggX12_take_X12_weighs : GoodIn wsX12_take wsX12_weighs := goodIn_r _ [15, 16, 17, 18, 26, 27, 28, 29, 30, 31, 32, 33, 34, 35, 36, 37, 38, 39, 40, 41, 42, 43, 44, 45, 46, 47, 48, 49, 50, 51, 52, 53, 54, 55, 56, 57] (by decide +kernel) (by decide +kernel)
set_option maxRecDepth 20000 in
theorem gX12_take_X12_weighs : GoodIn wsX12_take (wsV RX12 121 RX12 yX12_weighs wsX12_weighs) := goodIn_app (goodIn_of _ (by decide +kernel)) ggX12_take_X12_weighs
set_option maxRecDepth 20000 in
theorem ggX12_take_X12_lay : GoodIn wsX12_take wsX12_lay := goodIn_r _ [22, 11, 18, 16, 23, 24, 25, 26, 27, 28, 29, 30, 31, 32, 33, 34, 35, 36, 37, 38, 39, 40, 41, 42, 43, 44, 45, 46, 47, 48, 49, 50, 51, 52, 53, 54, 55, 56, 57] (by decide +kernel) (by decide +kernel)
set_option maxRecDepth 20000 in
theorem gX12_take_X12_lay : GoodIn wsX12_take (wsV RX12 117 RX12 yX12_lay wsX12_lay) := goodIn_app (goodIn_of _ (by decide +kernel)) ggX12_take_X12_lay
theorem dX12_take_0 : decode cX12_take 0 = .ok (.iload_n 1, 1) := by decide +kernel
theorem dX12_take_1 : decode cX12_take 1 = .ok (.invokestatic 110, 3) := by decide +kernel
theorem dX12_take_4 : decode cX12_take 4 = .ok (.ifCond .ne 5, 3) := by decide +kernel
theorem dX12_take_7 : decode cX12_take 7 = .ok (.iconst (-1), 1) := by decide +kernel
theorem dX12_take_8 : decode cX12_take 8 = .ok (.ireturn, 1) := by decide +kernel
theorem dX12_take_9 : decode cX12_take 9 = .ok (.aload_n 0, 1) := by decide +kernel
theorem dX12_take_10 : decode cX12_take 10 = .ok (.iload_n 1, 1) := by decide +kernel
theorem dX12_take_11 : decode cX12_take 11 = .ok (.invokevirtual 113, 3) := by decide +kernel
theorem dX12_take_14 : decode cX12_take 14 = .ok (.istore_n 2, 1) := by decide +kernel
theorem dX12_take_15 : decode cX12_take 15 = .ok (.iload_n 2, 1) := by decide +kernel
theorem dX12_take_16 : decode cX12_take 16 = .ok (.ifCond .ge 6, 3) := by decide +kernel
theorem dX12_take_19 : decode cX12_take 19 = .ok (.bipush (-2), 2) := by decide +kernel
theorem dX12_take_21 : decode cX12_take 21 = .ok (.ireturn, 1) := by decide +kernel
theorem dX12_take_22 : decode cX12_take 22 = .ok (.aload_n 0, 1) := by decide +kernel
theorem dX12_take_23 : decode cX12_take 23 = .ok (.iload_n 2, 1) := by decide +kernel
theorem dX12_take_24 : decode cX12_take 24 = .ok (.invokevirtual 121, 3) := by decide +kernel
theorem dX12_take_27 : decode cX12_take 27 = .ok (.istore_n 3, 1) := by decide +kernel
theorem dX12_take_28 : decode cX12_take 28 = .ok (.iload_n 2, 1) := by decide +kernel
theorem dX12_take_29 : decode cX12_take 29 = .ok (.istore 4, 2) := by decide +kernel
theorem dX12_take_31 : decode cX12_take 31 = .ok (.iload 4, 2) := by decide +kernel
theorem dX12_take_33 : decode cX12_take 33 = .ok (.iconst 1, 1) := by decide +kernel
theorem dX12_take_34 : decode cX12_take 34 = .ok (.iadd, 1) := by decide +kernel
theorem dX12_take_35 : decode cX12_take 35 = .ok (.aload_n 0, 1) := by decide +kernel
theorem dX12_take_36 : decode cX12_take 36 = .ok (.getfield 98, 3) := by decide +kernel
theorem dX12_take_39 : decode cX12_take 39 = .ok (.if_icmp .ge 19, 3) := by decide +kernel
theorem dX12_take_42 : decode cX12_take 42 = .ok (.aload_n 0, 1) := by decide +kernel
theorem dX12_take_43 : decode cX12_take 43 = .ok (.iload 4, 2) := by decide +kernel
theorem dX12_take_45 : decode cX12_take 45 = .ok (.iload 4, 2) := by decide +kernel
theorem dX12_take_47 : decode cX12_take 47 = .ok (.iconst 1, 1) := by decide +kernel
theorem dX12_take_48 : decode cX12_take 48 = .ok (.iadd, 1) := by decide +kernel
theorem dX12_take_49 : decode cX12_take 49 = .ok (.invokevirtual 117, 3) := by decide +kernel
theorem dX12_take_52 : decode cX12_take 52 = .ok (.iinc 4 1, 3) := by decide +kernel
theorem dX12_take_55 : decode cX12_take 55 = .ok (.goto (-24), 3) := by decide +kernel
theorem dX12_take_58 : decode cX12_take 58 = .ok (.aload_n 0, 1) := by decide +kernel
theorem dX12_take_59 : decode cX12_take 59 = .ok (.dup, 1) := by decide +kernel
theorem dX12_take_60 : decode cX12_take 60 = .ok (.getfield 98, 3) := by decide +kernel
theorem dX12_take_63 : decode cX12_take 63 = .ok (.iconst 1, 1) := by decide +kernel
theorem dX12_take_64 : decode cX12_take 64 = .ok (.isub, 1) := by decide +kernel
theorem dX12_take_65 : decode cX12_take 65 = .ok (.putfield 98, 3) := by decide +kernel
theorem dX12_take_68 : decode cX12_take 68 = .ok (.iload_n 3, 1) := by decide +kernel
theorem dX12_take_69 : decode cX12_take 69 = .ok (.ireturn, 1) := by decide +kernel
set_option maxRecDepth 20000 in
theorem ggX12_move_X12_isName : GoodIn wsX12_move wsX12_isName := goodIn_r _ [6, 7] (by decide +kernel) (by decide +kernel)
set_option maxRecDepth 20000 in
theorem gX12_move_X12_isName : GoodIn wsX12_move (va_wsS RX12 110 yX12_isName wsX12_isName) := goodIn_app (goodIn_of _ (by decide +kernel)) ggX12_move_X12_isName
set_option maxRecDepth 20000 in
theorem ggX12_move_X12_isSection : GoodIn wsX12_move wsX12_isSection := goodIn_r _ [11, 12, 13, 14, 5, 15, 22, 23, 24, 25, 26, 27, 28, 29, 30, 31, 32, 33, 34, 35, 36, 37, 38, 39, 40, 41, 42, 43, 44, 45, 46, 47, 48, 49, 50, 51, 52, 53] (by decide +kernel) (by decide +kernel)
set_option maxRecDepth 20000 in
theorem gX12_move_X12_isSection : GoodIn wsX12_move (wsV RX12 105 RX12 yX12_isSection wsX12_isSection) := goodIn_app (goodIn_of _ (by decide +kernel)) ggX12_move_X12_isSection
set_option maxRecDepth 20000 in
theorem ggX12_move_X12_in : GoodIn wsX12_move wsX12_in := goodIn_r _ [15] (by decide +kernel) (by decide +kernel)
set_option maxRecDepth 20000 in
theorem gX12_move_X12_in : GoodIn wsX12_move (va_wsS RX12 101 yX12_in wsX12_in) := goodIn_app (goodIn_of _ (by decide +kernel)) ggX12_move_X12_in
set_option maxRecDepth 20000 in
theorem ggX12_move_X12_find : GoodIn wsX12_move wsX12_find := goodIn_r _ [19, 20, 21, 22, 23, 24, 25, 26, 27, 28, 29, 30, 31, 32, 33, 34, 35, 36, 37, 38, 39, 40, 41, 42, 43, 44, 45, 46, 47, 48, 49, 50, 51, 52, 53] (by decide +kernel) (by decide +kernel)
set_option maxRecDepth 20000 in
theorem gX12_move_X12_find : GoodIn wsX12_move (wsV RX12 113 RX12 yX12_find wsX12_find) := goodIn_app (goodIn_of _ (by decide +kernel)) ggX12_move_X12_find
theorem dX12_move_0 : decode cX12_move 0 = .ok (.iload_n 1, 1) := by decide +kernel
theorem dX12_move_1 : decode cX12_move 1 = .ok (.invokestatic 110, 3) := by decide +kernel
theorem dX12_move_4 : decode cX12_move 4 = .ok (.ifCond .eq 22, 3) := by decide +kernel
theorem dX12_move_7 : decode cX12_move 7 = .ok (.aload_n 0, 1) := by decide +kernel
theorem dX12_move_8 : decode cX12_move 8 = .ok (.iload_n 2, 1) := by decide +kernel
theorem dX12_move_9 : decode cX12_move 9 = .ok (.invokevirtual 105, 3) := by decide +kernel
theorem dX12_move_12 : decode cX12_move 12 = .ok (.ifCond .eq 14, 3) := by decide +kernel
theorem dX12_move_15 : decode cX12_move 15 = .ok (.iload_n 3, 1) := by decide +kernel
theorem dX12_move_16 : decode cX12_move 16 = .ok (.bipush (-20), 2) := by decide +kernel
theorem dX12_move_18 : decode cX12_move 18 = .ok (.bipush 20, 2) := by decide +kernel
theorem dX12_move_20 : decode cX12_move 20 = .ok (.invokestatic 101, 3) := by decide +kernel
theorem dX12_move_23 : decode cX12_move 23 = .ok (.ifCond .ne 5, 3) := by decide +kernel
theorem dX12_move_26 : decode cX12_move 26 = .ok (.iconst (-1), 1) := by decide +kernel
theorem dX12_move_27 : decode cX12_move 27 = .ok (.ireturn, 1) := by decide +kernel
theorem dX12_move_28 : decode cX12_move 28 = .ok (.aload_n 0, 1) := by decide +kernel
theorem dX12_move_29 : decode cX12_move 29 = .ok (.iload_n 1, 1) := by decide +kernel
theorem dX12_move_30 : decode cX12_move 30 = .ok (.invokevirtual 113, 3) := by decide +kernel
theorem dX12_move_33 : decode cX12_move 33 = .ok (.istore 4, 2) := by decide +kernel
theorem dX12_move_35 : decode cX12_move 35 = .ok (.iload 4, 2) := by decide +kernel
theorem dX12_move_37 : decode cX12_move 37 = .ok (.ifCond .ge 6, 3) := by decide +kernel
theorem dX12_move_40 : decode cX12_move 40 = .ok (.bipush (-2), 2) := by decide +kernel
theorem dX12_move_42 : decode cX12_move 42 = .ok (.ireturn, 1) := by decide +kernel
theorem dX12_move_43 : decode cX12_move 43 = .ok (.aload_n 0, 1) := by decide +kernel
theorem dX12_move_44 : decode cX12_move 44 = .ok (.getfield 37, 3) := by decide +kernel
theorem dX12_move_47 : decode cX12_move 47 = .ok (.iload 4, 2) := by decide +kernel
theorem dX12_move_49 : decode cX12_move 49 = .ok (.iaload, 1) := by decide +kernel
theorem dX12_move_50 : decode cX12_move 50 = .ok (.istore 5, 2) := by decide +kernel
theorem dX12_move_52 : decode cX12_move 52 = .ok (.aload_n 0, 1) := by decide +kernel
theorem dX12_move_53 : decode cX12_move 53 = .ok (.getfield 37, 3) := by decide +kernel
theorem dX12_move_56 : decode cX12_move 56 = .ok (.iload 4, 2) := by decide +kernel
theorem dX12_move_58 : decode cX12_move 58 = .ok (.iload_n 2, 1) := by decide +kernel
theorem dX12_move_59 : decode cX12_move 59 = .ok (.iastore, 1) := by decide +kernel
theorem dX12_move_60 : decode cX12_move 60 = .ok (.aload_n 0, 1) := by decide +kernel
theorem dX12_move_61 : decode cX12_move 61 = .ok (.getfield 40, 3) := by decide +kernel
theorem dX12_move_64 : decode cX12_move 64 = .ok (.iload 4, 2) := by decide +kernel
theorem dX12_move_66 : decode cX12_move 66 = .ok (.iload_n 3, 1) := by decide +kernel
theorem dX12_move_67 : decode cX12_move 67 = .ok (.iastore, 1) := by decide +kernel
theorem dX12_move_68 : decode cX12_move 68 = .ok (.iload 5, 2) := by decide +kernel
theorem dX12_move_70 : decode cX12_move 70 = .ok (.ireturn, 1) := by decide +kernel
theorem dX12_weighs_0 : decode cX12_weighs 0 = .ok (.aload_n 0, 1) := by decide +kernel
theorem dX12_weighs_1 : decode cX12_weighs 1 = .ok (.getfield 34, 3) := by decide +kernel
theorem dX12_weighs_4 : decode cX12_weighs 4 = .ok (.iload_n 1, 1) := by decide +kernel
theorem dX12_weighs_5 : decode cX12_weighs 5 = .ok (.iaload, 1) := by decide +kernel
theorem dX12_weighs_6 : decode cX12_weighs 6 = .ok (.istore_n 2, 1) := by decide +kernel
theorem dX12_weighs_7 : decode cX12_weighs 7 = .ok (.iload_n 2, 1) := by decide +kernel
theorem dX12_weighs_8 : decode cX12_weighs 8 = .ok (.aload_n 0, 1) := by decide +kernel
theorem dX12_weighs_9 : decode cX12_weighs 9 = .ok (.getfield 95, 3) := by decide +kernel
theorem dX12_weighs_12 : decode cX12_weighs 12 = .ok (.iconst 1, 1) := by decide +kernel
theorem dX12_weighs_13 : decode cX12_weighs 13 = .ok (.if_icmp .ne 9, 3) := by decide +kernel
theorem dX12_weighs_16 : decode cX12_weighs 16 = .ok (.iload_n 2, 1) := by decide +kernel
theorem dX12_weighs_17 : decode cX12_weighs 17 = .ok (.iconst 4, 1) := by decide +kernel
theorem dX12_weighs_18 : decode cX12_weighs 18 = .ok (.idiv, 1) := by decide +kernel
theorem dX12_weighs_19 : decode cX12_weighs 19 = .ok (.goto 4, 3) := by decide +kernel
theorem dX12_weighs_22 : decode cX12_weighs 22 = .ok (.iconst 0, 1) := by decide +kernel
theorem dX12_weighs_23 : decode cX12_weighs 23 = .ok (.iadd, 1) := by decide +kernel
theorem dX12_weighs_24 : decode cX12_weighs 24 = .ok (.istore_n 3, 1) := by decide +kernel
theorem dX12_weighs_25 : decode cX12_weighs 25 = .ok (.aload_n 0, 1) := by decide +kernel
theorem dX12_weighs_26 : decode cX12_weighs 26 = .ok (.getfield 31, 3) := by decide +kernel
theorem dX12_weighs_29 : decode cX12_weighs 29 = .ok (.iload_n 1, 1) := by decide +kernel
theorem dX12_weighs_30 : decode cX12_weighs 30 = .ok (.iaload, 1) := by decide +kernel
theorem dX12_weighs_31 : decode cX12_weighs 31 = .ok (.iconst 2, 1) := by decide +kernel
theorem dX12_weighs_32 : decode cX12_weighs 32 = .ok (.if_icmp .ne 7, 3) := by decide +kernel
theorem dX12_weighs_35 : decode cX12_weighs 35 = .ok (.iload_n 3, 1) := by decide +kernel
theorem dX12_weighs_36 : decode cX12_weighs 36 = .ok (.goto 20, 3) := by decide +kernel
theorem dX12_weighs_39 : decode cX12_weighs 39 = .ok (.aload_n 0, 1) := by decide +kernel
theorem dX12_weighs_40 : decode cX12_weighs 40 = .ok (.getfield 31, 3) := by decide +kernel
theorem dX12_weighs_43 : decode cX12_weighs 43 = .ok (.iload_n 1, 1) := by decide +kernel
theorem dX12_weighs_44 : decode cX12_weighs 44 = .ok (.iaload, 1) := by decide +kernel
theorem dX12_weighs_45 : decode cX12_weighs 45 = .ok (.iconst 4, 1) := by decide +kernel
theorem dX12_weighs_46 : decode cX12_weighs 46 = .ok (.if_icmp .ne 9, 3) := by decide +kernel
theorem dX12_weighs_49 : decode cX12_weighs 49 = .ok (.iload_n 3, 1) := by decide +kernel
theorem dX12_weighs_50 : decode cX12_weighs 50 = .ok (.iconst 3, 1) := by decide +kernel
theorem dX12_weighs_51 : decode cX12_weighs 51 = .ok (.iadd, 1) := by decide +kernel
theorem dX12_weighs_52 : decode cX12_weighs 52 = .ok (.goto 4, 3) := by decide +kernel
theorem dX12_weighs_55 : decode cX12_weighs 55 = .ok (.iload_n 2, 1) := by decide +kernel
theorem dX12_weighs_56 : decode cX12_weighs 56 = .ok (.ireturn, 1) := by decide +kernel
theorem dX12_rolls_0 : decode cX12_rolls 0 = .ok (.aload_n 0, 1) := by decide +kernel
theorem dX12_rolls_1 : decode cX12_rolls 1 = .ok (.getfield 31, 3) := by decide +kernel
theorem dX12_rolls_4 : decode cX12_rolls 4 = .ok (.iload_n 1, 1) := by decide +kernel
theorem dX12_rolls_5 : decode cX12_rolls 5 = .ok (.iaload, 1) := by decide +kernel
theorem dX12_rolls_6 : decode cX12_rolls 6 = .ok (.iconst 1, 1) := by decide +kernel
theorem dX12_rolls_7 : decode cX12_rolls 7 = .ok (.if_icmp .ne 10, 3) := by decide +kernel
theorem dX12_rolls_10 : decode cX12_rolls 10 = .ok (.iload_n 2, 1) := by decide +kernel
theorem dX12_rolls_11 : decode cX12_rolls 11 = .ok (.bipush 32, 2) := by decide +kernel
theorem dX12_rolls_13 : decode cX12_rolls 13 = .ok (.idiv, 1) := by decide +kernel
theorem dX12_rolls_14 : decode cX12_rolls 14 = .ok (.goto 23, 3) := by decide +kernel
theorem dX12_rolls_17 : decode cX12_rolls 17 = .ok (.aload_n 0, 1) := by decide +kernel
theorem dX12_rolls_18 : decode cX12_rolls 18 = .ok (.getfield 31, 3) := by decide +kernel
theorem dX12_rolls_21 : decode cX12_rolls 21 = .ok (.iload_n 1, 1) := by decide +kernel
theorem dX12_rolls_22 : decode cX12_rolls 22 = .ok (.iaload, 1) := by decide +kernel
theorem dX12_rolls_23 : decode cX12_rolls 23 = .ok (.iconst 3, 1) := by decide +kernel
theorem dX12_rolls_24 : decode cX12_rolls 24 = .ok (.if_icmp .ne 12, 3) := by decide +kernel
theorem dX12_rolls_27 : decode cX12_rolls 27 = .ok (.iconst 2, 1) := by decide +kernel
theorem dX12_rolls_28 : decode cX12_rolls 28 = .ok (.iload_n 2, 1) := by decide +kernel
theorem dX12_rolls_29 : decode cX12_rolls 29 = .ok (.bipush 32, 2) := by decide +kernel
theorem dX12_rolls_31 : decode cX12_rolls 31 = .ok (.idiv, 1) := by decide +kernel
theorem dX12_rolls_32 : decode cX12_rolls 32 = .ok (.imul, 1) := by decide +kernel
theorem dX12_rolls_33 : decode cX12_rolls 33 = .ok (.goto 4, 3) := by decide +kernel
theorem dX12_rolls_36 : decode cX12_rolls 36 = .ok (.iconst 0, 1) := by decide +kernel
theorem dX12_rolls_37 : decode cX12_rolls 37 = .ok (.ireturn, 1) := by decide +kernel
theorem dX12_isUnder_0 : decode cX12_isUnder 0 = .ok (.iload_n 1, 1) := by decide +kernel
theorem dX12_isUnder_1 : decode cX12_isUnder 1 = .ok (.ifCond .eq 28, 3) := by decide +kernel
theorem dX12_isUnder_4 : decode cX12_isUnder 4 = .ok (.iload_n 0, 1) := by decide +kernel
theorem dX12_isUnder_5 : decode cX12_isUnder 5 = .ok (.iload_n 1, 1) := by decide +kernel
theorem dX12_isUnder_6 : decode cX12_isUnder 6 = .ok (.if_icmp .eq 23, 3) := by decide +kernel
theorem dX12_isUnder_9 : decode cX12_isUnder 9 = .ok (.iload_n 0, 1) := by decide +kernel
theorem dX12_isUnder_10 : decode cX12_isUnder 10 = .ok (.iconst 3, 1) := by decide +kernel
theorem dX12_isUnder_11 : decode cX12_isUnder 11 = .ok (.if_icmp .ne 8, 3) := by decide +kernel
theorem dX12_isUnder_14 : decode cX12_isUnder 14 = .ok (.iload_n 1, 1) := by decide +kernel
theorem dX12_isUnder_15 : decode cX12_isUnder 15 = .ok (.iconst 1, 1) := by decide +kernel
theorem dX12_isUnder_16 : decode cX12_isUnder 16 = .ok (.if_icmp .eq 13, 3) := by decide +kernel
theorem dX12_isUnder_19 : decode cX12_isUnder 19 = .ok (.iload_n 0, 1) := by decide +kernel
theorem dX12_isUnder_20 : decode cX12_isUnder 20 = .ok (.iconst 4, 1) := by decide +kernel
theorem dX12_isUnder_21 : decode cX12_isUnder 21 = .ok (.if_icmp .ne 12, 3) := by decide +kernel
theorem dX12_isUnder_24 : decode cX12_isUnder 24 = .ok (.iload_n 1, 1) := by decide +kernel
theorem dX12_isUnder_25 : decode cX12_isUnder 25 = .ok (.iconst 2, 1) := by decide +kernel
theorem dX12_isUnder_26 : decode cX12_isUnder 26 = .ok (.if_icmp .ne 7, 3) := by decide +kernel
theorem dX12_isUnder_29 : decode cX12_isUnder 29 = .ok (.iconst 1, 1) := by decide +kernel
theorem dX12_isUnder_30 : decode cX12_isUnder 30 = .ok (.goto 4, 3) := by decide +kernel
theorem dX12_isUnder_33 : decode cX12_isUnder 33 = .ok (.iconst 0, 1) := by decide +kernel
theorem dX12_isUnder_34 : decode cX12_isUnder 34 = .ok (.ireturn, 1) := by decide +kernel
set_option maxRecDepth 20000 in
theorem ggX12_goods_X12_isName : GoodIn wsX12_goods wsX12_isName := goodIn_r _ [10, 11] (by decide +kernel) (by decide +kernel)
set_option maxRecDepth 20000 in
theorem gX12_goods_X12_isName : GoodIn wsX12_goods (va_wsS RX12 110 yX12_isName wsX12_isName) := goodIn_app (goodIn_of _ (by decide +kernel)) ggX12_goods_X12_isName
set_option maxRecDepth 20000 in
theorem ggX12_goods_X12_find : GoodIn wsX12_goods wsX12_find := goodIn_r _ [15, 16, 17, 89, 90, 91, 92, 93, 94, 95, 96, 97, 98, 99, 100, 101, 102, 103, 104, 105, 106, 107, 108, 109, 110, 111, 112, 113, 114, 115, 116, 117, 118, 119, 120] (by decide +kernel) (by decide +kernel)
set_option maxRecDepth 20000 in
theorem gX12_goods_X12_find : GoodIn wsX12_goods (wsV RX12 113 RX12 yX12_find wsX12_find) := goodIn_app (goodIn_of _ (by decide +kernel)) ggX12_goods_X12_find
set_option maxRecDepth 20000 in
theorem ggX12_goods_X12_weighs : GoodIn wsX12_goods wsX12_weighs := goodIn_r _ [21, 3, 22, 2, 89, 90, 91, 92, 93, 94, 95, 96, 97, 98, 99, 100, 101, 102, 103, 104, 105, 106, 107, 108, 109, 110, 111, 112, 113, 114, 115, 116, 117, 118, 119, 120] (by decide +kernel) (by decide +kernel)
set_option maxRecDepth 20000 in
theorem gX12_goods_X12_weighs : GoodIn wsX12_goods (wsV RX12 121 RX12 yX12_weighs wsX12_weighs) := goodIn_app (goodIn_of _ (by decide +kernel)) ggX12_goods_X12_weighs
set_option maxRecDepth 20000 in
theorem ggX12_goods_X12_isUpright : GoodIn wsX12_goods wsX12_isUpright := goodIn_r _ [26, 27, 28, 29, 9, 30, 31, 32, 33, 34, 35, 16, 36, 18, 19, 20, 21, 3, 22, 2, 37, 38, 39, 40, 41, 42, 43, 44, 45, 46, 47, 48, 49, 50, 51, 52, 53, 54, 55, 56, 57, 58, 59, 60, 61, 62, 63, 64, 65, 66, 67, 68, 69, 70, 71, 72, 73, 74, 75, 76, 6, 89, 90, 91, 92, 93, 94, 95, 96, 97, 98, 99, 100, 101, 102, 103, 104, 105, 106, 107, 108, 109, 110, 111, 112, 113, 114, 115, 116, 117, 118, 119, 120] (by decide +kernel) (by decide +kernel)
set_option maxRecDepth 20000 in
theorem gX12_goods_X12_isUpright : GoodIn wsX12_goods (wsV RX12 125 RX12 yX12_isUpright wsX12_isUpright) := goodIn_app (goodIn_of _ (by decide +kernel)) ggX12_goods_X12_isUpright
set_option maxRecDepth 20000 in
theorem ggX12_goods_X12_heelNow : GoodIn wsX12_goods wsX12_heelNow := goodIn_r _ [80, 81, 82, 83, 9, 84, 16, 5, 18, 19, 20, 21, 3, 22, 2, 60, 61, 62, 63, 46, 58, 64, 27, 28, 29, 30, 31, 32, 33, 34, 35, 36, 37, 38, 39, 40, 41, 42, 43, 44, 45, 47, 48, 49, 50, 51, 52, 53, 54, 55, 56, 57, 59, 65, 66, 67, 68, 69, 70, 71, 72, 73, 74, 75, 76, 6, 89, 90, 91, 92, 93, 94, 95, 96, 97, 98, 99, 100, 101, 102, 103, 104, 105, 106, 107, 108, 109, 110, 111, 112, 113, 114, 115, 116, 117, 118, 119, 120] (by decide +kernel) (by decide +kernel)
set_option maxRecDepth 20000 in
theorem gX12_goods_X12_heelNow : GoodIn wsX12_goods (wsV RX12 129 RX12 yX12_heelNow wsX12_heelNow) := goodIn_app (goodIn_of _ (by decide +kernel)) ggX12_goods_X12_heelNow
set_option maxRecDepth 20000 in
theorem ggX12_goods_X12_rolls : GoodIn wsX12_goods wsX12_rolls := goodIn_r _ [88, 2, 89, 90, 91, 92, 93, 94, 95, 96, 97, 98, 99, 100, 101, 102, 103, 104, 105, 106, 107, 108, 109, 110, 111, 112, 113, 114, 115, 116, 117, 118, 119, 120] (by decide +kernel) (by decide +kernel)
set_option maxRecDepth 20000 in
theorem gX12_goods_X12_rolls : GoodIn wsX12_goods (wsV RX12 133 RX12 yX12_rolls wsX12_rolls) := goodIn_app (goodIn_of _ (by decide +kernel)) ggX12_goods_X12_rolls
theorem dX12_goods_0 : decode cX12_goods 0 = .ok (.iload_n 1, 1) := by decide +kernel
theorem dX12_goods_1 : decode cX12_goods 1 = .ok (.invokestatic 110, 3) := by decide +kernel
theorem dX12_goods_4 : decode cX12_goods 4 = .ok (.ifCond .eq 11, 3) := by decide +kernel
theorem dX12_goods_7 : decode cX12_goods 7 = .ok (.aload_n 0, 1) := by decide +kernel
theorem dX12_goods_8 : decode cX12_goods 8 = .ok (.iload_n 1, 1) := by decide +kernel
theorem dX12_goods_9 : decode cX12_goods 9 = .ok (.invokevirtual 113, 3) := by decide +kernel
theorem dX12_goods_12 : decode cX12_goods 12 = .ok (.goto 4, 3) := by decide +kernel
theorem dX12_goods_15 : decode cX12_goods 15 = .ok (.iconst (-1), 1) := by decide +kernel
theorem dX12_goods_16 : decode cX12_goods 16 = .ok (.istore_n 3, 1) := by decide +kernel
theorem dX12_goods_17 : decode cX12_goods 17 = .ok (.iload_n 3, 1) := by decide +kernel
theorem dX12_goods_18 : decode cX12_goods 18 = .ok (.ifCond .ge 6, 3) := by decide +kernel
theorem dX12_goods_21 : decode cX12_goods 21 = .ok (.ldc 124, 2) := by decide +kernel
theorem dX12_goods_23 : decode cX12_goods 23 = .ok (.ireturn, 1) := by decide +kernel
theorem dX12_goods_24 : decode cX12_goods 24 = .ok (.iload_n 2, 1) := by decide +kernel
theorem dX12_goods_25 : decode cX12_goods 25 = .ok (.tableswitch 105 0 6 #[43, 50, 57, 64, 71, 78, 84], 43) := by decide +kernel
theorem dX12_goods_68 : decode cX12_goods 68 = .ok (.aload_n 0, 1) := by decide +kernel
theorem dX12_goods_69 : decode cX12_goods 69 = .ok (.getfield 31, 3) := by decide +kernel
theorem dX12_goods_72 : decode cX12_goods 72 = .ok (.iload_n 3, 1) := by decide +kernel
theorem dX12_goods_73 : decode cX12_goods 73 = .ok (.iaload, 1) := by decide +kernel
theorem dX12_goods_74 : decode cX12_goods 74 = .ok (.ireturn, 1) := by decide +kernel
theorem dX12_goods_75 : decode cX12_goods 75 = .ok (.aload_n 0, 1) := by decide +kernel
theorem dX12_goods_76 : decode cX12_goods 76 = .ok (.getfield 34, 3) := by decide +kernel
theorem dX12_goods_79 : decode cX12_goods 79 = .ok (.iload_n 3, 1) := by decide +kernel
theorem dX12_goods_80 : decode cX12_goods 80 = .ok (.iaload, 1) := by decide +kernel
theorem dX12_goods_81 : decode cX12_goods 81 = .ok (.ireturn, 1) := by decide +kernel
theorem dX12_goods_82 : decode cX12_goods 82 = .ok (.aload_n 0, 1) := by decide +kernel
theorem dX12_goods_83 : decode cX12_goods 83 = .ok (.getfield 37, 3) := by decide +kernel
theorem dX12_goods_86 : decode cX12_goods 86 = .ok (.iload_n 3, 1) := by decide +kernel
theorem dX12_goods_87 : decode cX12_goods 87 = .ok (.iaload, 1) := by decide +kernel
theorem dX12_goods_88 : decode cX12_goods 88 = .ok (.ireturn, 1) := by decide +kernel
theorem dX12_goods_89 : decode cX12_goods 89 = .ok (.aload_n 0, 1) := by decide +kernel
theorem dX12_goods_90 : decode cX12_goods 90 = .ok (.getfield 40, 3) := by decide +kernel
theorem dX12_goods_93 : decode cX12_goods 93 = .ok (.iload_n 3, 1) := by decide +kernel
theorem dX12_goods_94 : decode cX12_goods 94 = .ok (.iaload, 1) := by decide +kernel
theorem dX12_goods_95 : decode cX12_goods 95 = .ok (.ireturn, 1) := by decide +kernel
theorem dX12_goods_96 : decode cX12_goods 96 = .ok (.aload_n 0, 1) := by decide +kernel
theorem dX12_goods_97 : decode cX12_goods 97 = .ok (.getfield 43, 3) := by decide +kernel
theorem dX12_goods_100 : decode cX12_goods 100 = .ok (.iload_n 3, 1) := by decide +kernel
theorem dX12_goods_101 : decode cX12_goods 101 = .ok (.iaload, 1) := by decide +kernel
theorem dX12_goods_102 : decode cX12_goods 102 = .ok (.ireturn, 1) := by decide +kernel
theorem dX12_goods_103 : decode cX12_goods 103 = .ok (.aload_n 0, 1) := by decide +kernel
theorem dX12_goods_104 : decode cX12_goods 104 = .ok (.iload_n 3, 1) := by decide +kernel
theorem dX12_goods_105 : decode cX12_goods 105 = .ok (.invokevirtual 121, 3) := by decide +kernel
theorem dX12_goods_108 : decode cX12_goods 108 = .ok (.ireturn, 1) := by decide +kernel
theorem dX12_goods_109 : decode cX12_goods 109 = .ok (.aload_n 0, 1) := by decide +kernel
theorem dX12_goods_110 : decode cX12_goods 110 = .ok (.invokevirtual 125, 3) := by decide +kernel
theorem dX12_goods_113 : decode cX12_goods 113 = .ok (.ifCond .eq 15, 3) := by decide +kernel
theorem dX12_goods_116 : decode cX12_goods 116 = .ok (.aload_n 0, 1) := by decide +kernel
theorem dX12_goods_117 : decode cX12_goods 117 = .ok (.iload_n 3, 1) := by decide +kernel
theorem dX12_goods_118 : decode cX12_goods 118 = .ok (.aload_n 0, 1) := by decide +kernel
theorem dX12_goods_119 : decode cX12_goods 119 = .ok (.invokevirtual 129, 3) := by decide +kernel
theorem dX12_goods_122 : decode cX12_goods 122 = .ok (.invokevirtual 133, 3) := by decide +kernel
theorem dX12_goods_125 : decode cX12_goods 125 = .ok (.goto 4, 3) := by decide +kernel
theorem dX12_goods_128 : decode cX12_goods 128 = .ok (.iconst 0, 1) := by decide +kernel
theorem dX12_goods_129 : decode cX12_goods 129 = .ok (.ireturn, 1) := by decide +kernel
theorem dX12_goods_130 : decode cX12_goods 130 = .ok (.ldc 124, 2) := by decide +kernel
theorem dX12_goods_132 : decode cX12_goods 132 = .ok (.ireturn, 1) := by decide +kernel
set_option maxRecDepth 20000 in
theorem ggX12_taken_X12_isName : GoodIn wsX12_taken wsX12_isName := goodIn_r _ [6, 7] (by decide +kernel) (by decide +kernel)
set_option maxRecDepth 20000 in
theorem gX12_taken_X12_isName : GoodIn wsX12_taken (va_wsS RX12 110 yX12_isName wsX12_isName) := goodIn_app (goodIn_of _ (by decide +kernel)) ggX12_taken_X12_isName
set_option maxRecDepth 20000 in
theorem ggX12_taken_X12_in : GoodIn wsX12_taken wsX12_in := goodIn_r _ [10] (by decide +kernel) (by decide +kernel)
set_option maxRecDepth 20000 in
theorem gX12_taken_X12_in : GoodIn wsX12_taken (va_wsS RX12 101 yX12_in wsX12_in) := goodIn_app (goodIn_of _ (by decide +kernel)) ggX12_taken_X12_in
set_option maxRecDepth 20000 in
theorem ggX12_taken_X12_find : GoodIn wsX12_taken wsX12_find := goodIn_r _ [14, 15, 16, 20, 21, 22, 23, 24, 25, 26, 27, 28, 29, 30, 31, 32, 33, 34, 35, 36, 37, 38, 39, 40, 41, 42, 43, 44, 45, 46, 47, 48, 49, 50, 51] (by decide +kernel) (by decide +kernel)
set_option maxRecDepth 20000 in
theorem gX12_taken_X12_find : GoodIn wsX12_taken (wsV RX12 113 RX12 yX12_find wsX12_find) := goodIn_app (goodIn_of _ (by decide +kernel)) ggX12_taken_X12_find
set_option maxRecDepth 20000 in
theorem ggX12_taken_X12_isUnder : GoodIn wsX12_taken wsX12_isUnder := goodIn_r _ [19] (by decide +kernel) (by decide +kernel)
set_option maxRecDepth 20000 in
theorem gX12_taken_X12_isUnder : GoodIn wsX12_taken (va_wsS RX12 137 yX12_isUnder wsX12_isUnder) := goodIn_app (goodIn_of _ (by decide +kernel)) ggX12_taken_X12_isUnder
theorem dX12_taken_0 : decode cX12_taken 0 = .ok (.iload_n 1, 1) := by decide +kernel
theorem dX12_taken_1 : decode cX12_taken 1 = .ok (.invokestatic 110, 3) := by decide +kernel
theorem dX12_taken_4 : decode cX12_taken 4 = .ok (.ifCond .eq 12, 3) := by decide +kernel
theorem dX12_taken_7 : decode cX12_taken 7 = .ok (.iload_n 2, 1) := by decide +kernel
theorem dX12_taken_8 : decode cX12_taken 8 = .ok (.iconst 0, 1) := by decide +kernel
theorem dX12_taken_9 : decode cX12_taken 9 = .ok (.iconst 4, 1) := by decide +kernel
theorem dX12_taken_10 : decode cX12_taken 10 = .ok (.invokestatic 101, 3) := by decide +kernel
theorem dX12_taken_13 : decode cX12_taken 13 = .ok (.ifCond .ne 5, 3) := by decide +kernel
theorem dX12_taken_16 : decode cX12_taken 16 = .ok (.iconst (-1), 1) := by decide +kernel
theorem dX12_taken_17 : decode cX12_taken 17 = .ok (.ireturn, 1) := by decide +kernel
theorem dX12_taken_18 : decode cX12_taken 18 = .ok (.aload_n 0, 1) := by decide +kernel
theorem dX12_taken_19 : decode cX12_taken 19 = .ok (.iload_n 1, 1) := by decide +kernel
theorem dX12_taken_20 : decode cX12_taken 20 = .ok (.invokevirtual 113, 3) := by decide +kernel
theorem dX12_taken_23 : decode cX12_taken 23 = .ok (.istore_n 3, 1) := by decide +kernel
theorem dX12_taken_24 : decode cX12_taken 24 = .ok (.iload_n 3, 1) := by decide +kernel
theorem dX12_taken_25 : decode cX12_taken 25 = .ok (.ifCond .ge 6, 3) := by decide +kernel
theorem dX12_taken_28 : decode cX12_taken 28 = .ok (.bipush (-2), 2) := by decide +kernel
theorem dX12_taken_30 : decode cX12_taken 30 = .ok (.ireturn, 1) := by decide +kernel
theorem dX12_taken_31 : decode cX12_taken 31 = .ok (.aload_n 0, 1) := by decide +kernel
theorem dX12_taken_32 : decode cX12_taken 32 = .ok (.getfield 31, 3) := by decide +kernel
theorem dX12_taken_35 : decode cX12_taken 35 = .ok (.iload_n 3, 1) := by decide +kernel
theorem dX12_taken_36 : decode cX12_taken 36 = .ok (.iaload, 1) := by decide +kernel
theorem dX12_taken_37 : decode cX12_taken 37 = .ok (.iload_n 2, 1) := by decide +kernel
theorem dX12_taken_38 : decode cX12_taken 38 = .ok (.invokestatic 137, 3) := by decide +kernel
theorem dX12_taken_41 : decode cX12_taken 41 = .ok (.ifCond .eq 12, 3) := by decide +kernel
theorem dX12_taken_44 : decode cX12_taken 44 = .ok (.aload_n 0, 1) := by decide +kernel
theorem dX12_taken_45 : decode cX12_taken 45 = .ok (.getfield 34, 3) := by decide +kernel
theorem dX12_taken_48 : decode cX12_taken 48 = .ok (.iload_n 3, 1) := by decide +kernel
theorem dX12_taken_49 : decode cX12_taken 49 = .ok (.iaload, 1) := by decide +kernel
theorem dX12_taken_50 : decode cX12_taken 50 = .ok (.goto 5, 3) := by decide +kernel
theorem dX12_taken_53 : decode cX12_taken 53 = .ok (.bipush (-5), 2) := by decide +kernel
theorem dX12_taken_55 : decode cX12_taken 55 = .ok (.ireturn, 1) := by decide +kernel
set_option maxRecDepth 20000 in
theorem ggX12_tank_X12_isTank : GoodIn wsX12_tank wsX12_isTank := goodIn_r _ [8, 9, 10, 7, 11] (by decide +kernel) (by decide +kernel)
set_option maxRecDepth 20000 in
theorem gX12_tank_X12_isTank : GoodIn wsX12_tank (va_wsS RX12 141 yX12_isTank wsX12_isTank) := goodIn_app (goodIn_of _ (by decide +kernel)) ggX12_tank_X12_isTank
set_option maxRecDepth 20000 in
theorem ggX12_tank_X12_isSection : GoodIn wsX12_tank wsX12_isSection := goodIn_r _ [15, 16, 9, 10, 7, 11, 17, 18, 19, 20, 21, 22, 23, 24, 25, 26, 27, 28, 29, 30, 31, 32, 33, 34, 35, 36, 37, 38, 39, 40, 41, 42, 43, 44, 45, 46, 47, 48] (by decide +kernel) (by decide +kernel)
set_option maxRecDepth 20000 in
theorem gX12_tank_X12_isSection : GoodIn wsX12_tank (wsV RX12 105 RX12 yX12_isSection wsX12_isSection) := goodIn_app (goodIn_of _ (by decide +kernel)) ggX12_tank_X12_isSection
set_option maxRecDepth 20000 in
theorem ggX12_tank_X12_in : GoodIn wsX12_tank wsX12_in := goodIn_r _ [11] (by decide +kernel) (by decide +kernel)
set_option maxRecDepth 20000 in
theorem gX12_tank_X12_in : GoodIn wsX12_tank (va_wsS RX12 101 yX12_in wsX12_in) := goodIn_app (goodIn_of _ (by decide +kernel)) ggX12_tank_X12_in
theorem dX12_tank_0 : decode cX12_tank 0 = .ok (.iload_n 1, 1) := by decide +kernel
theorem dX12_tank_1 : decode cX12_tank 1 = .ok (.invokestatic 141, 3) := by decide +kernel
theorem dX12_tank_4 : decode cX12_tank 4 = .ok (.ifCond .eq 33, 3) := by decide +kernel
theorem dX12_tank_7 : decode cX12_tank 7 = .ok (.aload_n 0, 1) := by decide +kernel
theorem dX12_tank_8 : decode cX12_tank 8 = .ok (.iload_n 2, 1) := by decide +kernel
theorem dX12_tank_9 : decode cX12_tank 9 = .ok (.invokevirtual 105, 3) := by decide +kernel
theorem dX12_tank_12 : decode cX12_tank 12 = .ok (.ifCond .eq 25, 3) := by decide +kernel
theorem dX12_tank_15 : decode cX12_tank 15 = .ok (.iload_n 3, 1) := by decide +kernel
theorem dX12_tank_16 : decode cX12_tank 16 = .ok (.iconst 0, 1) := by decide +kernel
theorem dX12_tank_17 : decode cX12_tank 17 = .ok (.bipush 20, 2) := by decide +kernel
theorem dX12_tank_19 : decode cX12_tank 19 = .ok (.invokestatic 101, 3) := by decide +kernel
theorem dX12_tank_22 : decode cX12_tank 22 = .ok (.ifCond .eq 15, 3) := by decide +kernel
theorem dX12_tank_25 : decode cX12_tank 25 = .ok (.iload 4, 2) := by decide +kernel
theorem dX12_tank_27 : decode cX12_tank 27 = .ok (.iconst 0, 1) := by decide +kernel
theorem dX12_tank_28 : decode cX12_tank 28 = .ok (.sipush 999, 3) := by decide +kernel
theorem dX12_tank_31 : decode cX12_tank 31 = .ok (.invokestatic 101, 3) := by decide +kernel
theorem dX12_tank_34 : decode cX12_tank 34 = .ok (.ifCond .ne 5, 3) := by decide +kernel
theorem dX12_tank_37 : decode cX12_tank 37 = .ok (.iconst (-1), 1) := by decide +kernel
theorem dX12_tank_38 : decode cX12_tank 38 = .ok (.ireturn, 1) := by decide +kernel
theorem dX12_tank_39 : decode cX12_tank 39 = .ok (.aload_n 0, 1) := by decide +kernel
theorem dX12_tank_40 : decode cX12_tank 40 = .ok (.getfield 46, 3) := by decide +kernel
theorem dX12_tank_43 : decode cX12_tank 43 = .ok (.iload_n 1, 1) := by decide +kernel
theorem dX12_tank_44 : decode cX12_tank 44 = .ok (.iload_n 2, 1) := by decide +kernel
theorem dX12_tank_45 : decode cX12_tank 45 = .ok (.iastore, 1) := by decide +kernel
theorem dX12_tank_46 : decode cX12_tank 46 = .ok (.aload_n 0, 1) := by decide +kernel
theorem dX12_tank_47 : decode cX12_tank 47 = .ok (.getfield 49, 3) := by decide +kernel
theorem dX12_tank_50 : decode cX12_tank 50 = .ok (.iload_n 1, 1) := by decide +kernel
theorem dX12_tank_51 : decode cX12_tank 51 = .ok (.iload_n 3, 1) := by decide +kernel
theorem dX12_tank_52 : decode cX12_tank 52 = .ok (.iastore, 1) := by decide +kernel
theorem dX12_tank_53 : decode cX12_tank 53 = .ok (.aload_n 0, 1) := by decide +kernel
theorem dX12_tank_54 : decode cX12_tank 54 = .ok (.getfield 52, 3) := by decide +kernel
theorem dX12_tank_57 : decode cX12_tank 57 = .ok (.iload_n 1, 1) := by decide +kernel
theorem dX12_tank_58 : decode cX12_tank 58 = .ok (.iload 4, 2) := by decide +kernel
theorem dX12_tank_60 : decode cX12_tank 60 = .ok (.iastore, 1) := by decide +kernel
theorem dX12_tank_61 : decode cX12_tank 61 = .ok (.aload_n 0, 1) := by decide +kernel
theorem dX12_tank_62 : decode cX12_tank 62 = .ok (.getfield 55, 3) := by decide +kernel
theorem dX12_tank_65 : decode cX12_tank 65 = .ok (.iload_n 1, 1) := by decide +kernel
theorem dX12_tank_66 : decode cX12_tank 66 = .ok (.iconst 0, 1) := by decide +kernel
theorem dX12_tank_67 : decode cX12_tank 67 = .ok (.iastore, 1) := by decide +kernel
theorem dX12_tank_68 : decode cX12_tank 68 = .ok (.iconst 1, 1) := by decide +kernel
theorem dX12_tank_69 : decode cX12_tank 69 = .ok (.ireturn, 1) := by decide +kernel
set_option maxRecDepth 20000 in
theorem ggX12_fill_X12_isTank : GoodIn wsX12_fill wsX12_isTank := goodIn_r _ [7, 8, 9, 6, 10] (by decide +kernel) (by decide +kernel)
set_option maxRecDepth 20000 in
theorem gX12_fill_X12_isTank : GoodIn wsX12_fill (va_wsS RX12 141 yX12_isTank wsX12_isTank) := goodIn_app (goodIn_of _ (by decide +kernel)) ggX12_fill_X12_isTank
theorem dX12_fill_0 : decode cX12_fill 0 = .ok (.iload_n 1, 1) := by decide +kernel
theorem dX12_fill_1 : decode cX12_fill 1 = .ok (.invokestatic 141, 3) := by decide +kernel
theorem dX12_fill_4 : decode cX12_fill 4 = .ok (.ifCond .eq 7, 3) := by decide +kernel
theorem dX12_fill_7 : decode cX12_fill 7 = .ok (.iload_n 2, 1) := by decide +kernel
theorem dX12_fill_8 : decode cX12_fill 8 = .ok (.ifCond .ge 5, 3) := by decide +kernel
theorem dX12_fill_11 : decode cX12_fill 11 = .ok (.iconst (-1), 1) := by decide +kernel
theorem dX12_fill_12 : decode cX12_fill 12 = .ok (.ireturn, 1) := by decide +kernel
theorem dX12_fill_13 : decode cX12_fill 13 = .ok (.aload_n 0, 1) := by decide +kernel
theorem dX12_fill_14 : decode cX12_fill 14 = .ok (.getfield 49, 3) := by decide +kernel
theorem dX12_fill_17 : decode cX12_fill 17 = .ok (.iload_n 1, 1) := by decide +kernel
theorem dX12_fill_18 : decode cX12_fill 18 = .ok (.iaload, 1) := by decide +kernel
theorem dX12_fill_19 : decode cX12_fill 19 = .ok (.ifCond .eq 13, 3) := by decide +kernel
theorem dX12_fill_22 : decode cX12_fill 22 = .ok (.iload_n 2, 1) := by decide +kernel
theorem dX12_fill_23 : decode cX12_fill 23 = .ok (.aload_n 0, 1) := by decide +kernel
theorem dX12_fill_24 : decode cX12_fill 24 = .ok (.getfield 52, 3) := by decide +kernel
theorem dX12_fill_27 : decode cX12_fill 27 = .ok (.iload_n 1, 1) := by decide +kernel
theorem dX12_fill_28 : decode cX12_fill 28 = .ok (.iaload, 1) := by decide +kernel
theorem dX12_fill_29 : decode cX12_fill 29 = .ok (.if_icmp .le 6, 3) := by decide +kernel
theorem dX12_fill_32 : decode cX12_fill 32 = .ok (.bipush (-5), 2) := by decide +kernel
theorem dX12_fill_34 : decode cX12_fill 34 = .ok (.ireturn, 1) := by decide +kernel
theorem dX12_fill_35 : decode cX12_fill 35 = .ok (.aload_n 0, 1) := by decide +kernel
theorem dX12_fill_36 : decode cX12_fill 36 = .ok (.getfield 55, 3) := by decide +kernel
theorem dX12_fill_39 : decode cX12_fill 39 = .ok (.iload_n 1, 1) := by decide +kernel
theorem dX12_fill_40 : decode cX12_fill 40 = .ok (.iaload, 1) := by decide +kernel
theorem dX12_fill_41 : decode cX12_fill 41 = .ok (.istore_n 3, 1) := by decide +kernel
theorem dX12_fill_42 : decode cX12_fill 42 = .ok (.aload_n 0, 1) := by decide +kernel
theorem dX12_fill_43 : decode cX12_fill 43 = .ok (.getfield 55, 3) := by decide +kernel
theorem dX12_fill_46 : decode cX12_fill 46 = .ok (.iload_n 1, 1) := by decide +kernel
theorem dX12_fill_47 : decode cX12_fill 47 = .ok (.iload_n 2, 1) := by decide +kernel
theorem dX12_fill_48 : decode cX12_fill 48 = .ok (.iastore, 1) := by decide +kernel
theorem dX12_fill_49 : decode cX12_fill 49 = .ok (.iload_n 3, 1) := by decide +kernel
theorem dX12_fill_50 : decode cX12_fill 50 = .ok (.ireturn, 1) := by decide +kernel
theorem dX12_isSlack_0 : decode cX12_isSlack 0 = .ok (.aload_n 0, 1) := by decide +kernel
theorem dX12_isSlack_1 : decode cX12_isSlack 1 = .ok (.getfield 49, 3) := by decide +kernel
theorem dX12_isSlack_4 : decode cX12_isSlack 4 = .ok (.iload_n 1, 1) := by decide +kernel
theorem dX12_isSlack_5 : decode cX12_isSlack 5 = .ok (.iaload, 1) := by decide +kernel
theorem dX12_isSlack_6 : decode cX12_isSlack 6 = .ok (.ifCond .le 31, 3) := by decide +kernel
theorem dX12_isSlack_9 : decode cX12_isSlack 9 = .ok (.aload_n 0, 1) := by decide +kernel
theorem dX12_isSlack_10 : decode cX12_isSlack 10 = .ok (.getfield 55, 3) := by decide +kernel
theorem dX12_isSlack_13 : decode cX12_isSlack 13 = .ok (.iload_n 1, 1) := by decide +kernel
theorem dX12_isSlack_14 : decode cX12_isSlack 14 = .ok (.iaload, 1) := by decide +kernel
theorem dX12_isSlack_15 : decode cX12_isSlack 15 = .ok (.ifCond .eq 22, 3) := by decide +kernel
theorem dX12_isSlack_18 : decode cX12_isSlack 18 = .ok (.aload_n 0, 1) := by decide +kernel
theorem dX12_isSlack_19 : decode cX12_isSlack 19 = .ok (.getfield 55, 3) := by decide +kernel
theorem dX12_isSlack_22 : decode cX12_isSlack 22 = .ok (.iload_n 1, 1) := by decide +kernel
theorem dX12_isSlack_23 : decode cX12_isSlack 23 = .ok (.iaload, 1) := by decide +kernel
theorem dX12_isSlack_24 : decode cX12_isSlack 24 = .ok (.aload_n 0, 1) := by decide +kernel
theorem dX12_isSlack_25 : decode cX12_isSlack 25 = .ok (.getfield 52, 3) := by decide +kernel
theorem dX12_isSlack_28 : decode cX12_isSlack 28 = .ok (.iload_n 1, 1) := by decide +kernel
theorem dX12_isSlack_29 : decode cX12_isSlack 29 = .ok (.iaload, 1) := by decide +kernel
theorem dX12_isSlack_30 : decode cX12_isSlack 30 = .ok (.if_icmp .eq 7, 3) := by decide +kernel
theorem dX12_isSlack_33 : decode cX12_isSlack 33 = .ok (.iconst 1, 1) := by decide +kernel
theorem dX12_isSlack_34 : decode cX12_isSlack 34 = .ok (.goto 4, 3) := by decide +kernel
theorem dX12_isSlack_37 : decode cX12_isSlack 37 = .ok (.iconst 0, 1) := by decide +kernel
theorem dX12_isSlack_38 : decode cX12_isSlack 38 = .ok (.ireturn, 1) := by decide +kernel
set_option maxRecDepth 20000 in
theorem ggX12_slacks_X12_isSlack : GoodIn wsX12_slacks wsX12_isSlack := goodIn_r _ [5, 6, 7, 8, 9, 10, 11, 12, 13, 14, 15, 16, 17, 18, 19, 20, 21, 22, 23, 24, 25, 26, 27, 28, 29, 30, 31, 32, 33, 34, 35, 36, 37, 38, 39, 40] (by decide +kernel) (by decide +kernel)
set_option maxRecDepth 20000 in
theorem gX12_slacks_X12_isSlack : GoodIn wsX12_slacks (wsV RX12 144 RX12 yX12_isSlack wsX12_isSlack) := goodIn_app (goodIn_of _ (by decide +kernel)) ggX12_slacks_X12_isSlack
theorem dX12_slacks_0 : decode cX12_slacks 0 = .ok (.iconst 0, 1) := by decide +kernel
theorem dX12_slacks_1 : decode cX12_slacks 1 = .ok (.istore_n 1, 1) := by decide +kernel
theorem dX12_slacks_2 : decode cX12_slacks 2 = .ok (.iconst 0, 1) := by decide +kernel
theorem dX12_slacks_3 : decode cX12_slacks 3 = .ok (.istore_n 2, 1) := by decide +kernel
theorem dX12_slacks_4 : decode cX12_slacks 4 = .ok (.iload_n 2, 1) := by decide +kernel
theorem dX12_slacks_5 : decode cX12_slacks 5 = .ok (.iconst 4, 1) := by decide +kernel
theorem dX12_slacks_6 : decode cX12_slacks 6 = .ok (.if_icmp .ge 20, 3) := by decide +kernel
theorem dX12_slacks_9 : decode cX12_slacks 9 = .ok (.aload_n 0, 1) := by decide +kernel
theorem dX12_slacks_10 : decode cX12_slacks 10 = .ok (.iload_n 2, 1) := by decide +kernel
theorem dX12_slacks_11 : decode cX12_slacks 11 = .ok (.invokevirtual 144, 3) := by decide +kernel
theorem dX12_slacks_14 : decode cX12_slacks 14 = .ok (.ifCond .eq 6, 3) := by decide +kernel
theorem dX12_slacks_17 : decode cX12_slacks 17 = .ok (.iinc 1 1, 3) := by decide +kernel
theorem dX12_slacks_20 : decode cX12_slacks 20 = .ok (.iinc 2 1, 3) := by decide +kernel
theorem dX12_slacks_23 : decode cX12_slacks 23 = .ok (.goto (-19), 3) := by decide +kernel
theorem dX12_slacks_26 : decode cX12_slacks 26 = .ok (.iload_n 1, 1) := by decide +kernel
theorem dX12_slacks_27 : decode cX12_slacks 27 = .ok (.ireturn, 1) := by decide +kernel
theorem dX12_tanksThere_0 : decode cX12_tanksThere 0 = .ok (.iconst 0, 1) := by decide +kernel
theorem dX12_tanksThere_1 : decode cX12_tanksThere 1 = .ok (.istore_n 1, 1) := by decide +kernel
theorem dX12_tanksThere_2 : decode cX12_tanksThere 2 = .ok (.iconst 0, 1) := by decide +kernel
theorem dX12_tanksThere_3 : decode cX12_tanksThere 3 = .ok (.istore_n 2, 1) := by decide +kernel
theorem dX12_tanksThere_4 : decode cX12_tanksThere 4 = .ok (.iload_n 2, 1) := by decide +kernel
theorem dX12_tanksThere_5 : decode cX12_tanksThere 5 = .ok (.iconst 4, 1) := by decide +kernel
theorem dX12_tanksThere_6 : decode cX12_tanksThere 6 = .ok (.if_icmp .ge 21, 3) := by decide +kernel
theorem dX12_tanksThere_9 : decode cX12_tanksThere 9 = .ok (.aload_n 0, 1) := by decide +kernel
theorem dX12_tanksThere_10 : decode cX12_tanksThere 10 = .ok (.getfield 49, 3) := by decide +kernel
theorem dX12_tanksThere_13 : decode cX12_tanksThere 13 = .ok (.iload_n 2, 1) := by decide +kernel
theorem dX12_tanksThere_14 : decode cX12_tanksThere 14 = .ok (.iaload, 1) := by decide +kernel
theorem dX12_tanksThere_15 : decode cX12_tanksThere 15 = .ok (.ifCond .le 6, 3) := by decide +kernel
theorem dX12_tanksThere_18 : decode cX12_tanksThere 18 = .ok (.iinc 1 1, 3) := by decide +kernel
theorem dX12_tanksThere_21 : decode cX12_tanksThere 21 = .ok (.iinc 2 1, 3) := by decide +kernel
theorem dX12_tanksThere_24 : decode cX12_tanksThere 24 = .ok (.goto (-20), 3) := by decide +kernel
theorem dX12_tanksThere_27 : decode cX12_tanksThere 27 = .ok (.iload_n 1, 1) := by decide +kernel
theorem dX12_tanksThere_28 : decode cX12_tanksThere 28 = .ok (.ireturn, 1) := by decide +kernel
set_option maxRecDepth 20000 in
theorem ggX12_allWeight_X12_weighs : GoodIn wsX12_allWeight wsX12_weighs := goodIn_r _ [8, 9, 10, 11, 12, 13, 14, 15, 16, 17, 18, 19, 20, 21, 22, 23, 24, 25, 26, 27, 28, 29, 30, 31, 32, 33, 34, 35, 36, 37, 38, 39, 40, 41, 42, 43] (by decide +kernel) (by decide +kernel)
set_option maxRecDepth 20000 in
theorem gX12_allWeight_X12_weighs : GoodIn wsX12_allWeight (wsV RX12 121 RX12 yX12_weighs wsX12_weighs) := goodIn_app (goodIn_of _ (by decide +kernel)) ggX12_allWeight_X12_weighs
theorem dX12_allWeight_0 : decode cX12_allWeight 0 = .ok (.aload_n 0, 1) := by decide +kernel
theorem dX12_allWeight_1 : decode cX12_allWeight 1 = .ok (.getfield 18, 3) := by decide +kernel
theorem dX12_allWeight_4 : decode cX12_allWeight 4 = .ok (.istore_n 1, 1) := by decide +kernel
theorem dX12_allWeight_5 : decode cX12_allWeight 5 = .ok (.iconst 0, 1) := by decide +kernel
theorem dX12_allWeight_6 : decode cX12_allWeight 6 = .ok (.istore_n 2, 1) := by decide +kernel
theorem dX12_allWeight_7 : decode cX12_allWeight 7 = .ok (.iload_n 2, 1) := by decide +kernel
theorem dX12_allWeight_8 : decode cX12_allWeight 8 = .ok (.aload_n 0, 1) := by decide +kernel
theorem dX12_allWeight_9 : decode cX12_allWeight 9 = .ok (.getfield 98, 3) := by decide +kernel
theorem dX12_allWeight_12 : decode cX12_allWeight 12 = .ok (.if_icmp .ge 17, 3) := by decide +kernel
theorem dX12_allWeight_15 : decode cX12_allWeight 15 = .ok (.iload_n 1, 1) := by decide +kernel
theorem dX12_allWeight_16 : decode cX12_allWeight 16 = .ok (.aload_n 0, 1) := by decide +kernel
theorem dX12_allWeight_17 : decode cX12_allWeight 17 = .ok (.iload_n 2, 1) := by decide +kernel
theorem dX12_allWeight_18 : decode cX12_allWeight 18 = .ok (.invokevirtual 121, 3) := by decide +kernel
theorem dX12_allWeight_21 : decode cX12_allWeight 21 = .ok (.iadd, 1) := by decide +kernel
theorem dX12_allWeight_22 : decode cX12_allWeight 22 = .ok (.istore_n 1, 1) := by decide +kernel
theorem dX12_allWeight_23 : decode cX12_allWeight 23 = .ok (.iinc 2 1, 3) := by decide +kernel
theorem dX12_allWeight_26 : decode cX12_allWeight 26 = .ok (.goto (-19), 3) := by decide +kernel
theorem dX12_allWeight_29 : decode cX12_allWeight 29 = .ok (.iconst 0, 1) := by decide +kernel
theorem dX12_allWeight_30 : decode cX12_allWeight 30 = .ok (.istore_n 2, 1) := by decide +kernel
theorem dX12_allWeight_31 : decode cX12_allWeight 31 = .ok (.iload_n 2, 1) := by decide +kernel
theorem dX12_allWeight_32 : decode cX12_allWeight 32 = .ok (.iconst 4, 1) := by decide +kernel
theorem dX12_allWeight_33 : decode cX12_allWeight 33 = .ok (.if_icmp .ge 18, 3) := by decide +kernel
theorem dX12_allWeight_36 : decode cX12_allWeight 36 = .ok (.iload_n 1, 1) := by decide +kernel
theorem dX12_allWeight_37 : decode cX12_allWeight 37 = .ok (.aload_n 0, 1) := by decide +kernel
theorem dX12_allWeight_38 : decode cX12_allWeight 38 = .ok (.getfield 55, 3) := by decide +kernel
theorem dX12_allWeight_41 : decode cX12_allWeight 41 = .ok (.iload_n 2, 1) := by decide +kernel
theorem dX12_allWeight_42 : decode cX12_allWeight 42 = .ok (.iaload, 1) := by decide +kernel
theorem dX12_allWeight_43 : decode cX12_allWeight 43 = .ok (.iadd, 1) := by decide +kernel
theorem dX12_allWeight_44 : decode cX12_allWeight 44 = .ok (.istore_n 1, 1) := by decide +kernel
theorem dX12_allWeight_45 : decode cX12_allWeight 45 = .ok (.iinc 2 1, 3) := by decide +kernel
theorem dX12_allWeight_48 : decode cX12_allWeight 48 = .ok (.goto (-17), 3) := by decide +kernel
theorem dX12_allWeight_51 : decode cX12_allWeight 51 = .ok (.iload_n 1, 1) := by decide +kernel
theorem dX12_allWeight_52 : decode cX12_allWeight 52 = .ok (.ireturn, 1) := by decide +kernel
set_option maxRecDepth 20000 in
theorem ggX12_along_X12_weighs : GoodIn wsX12_along wsX12_weighs := goodIn_r _ [11, 12, 13, 14, 15, 16, 17, 18, 19, 20, 21, 22, 23, 24, 25, 26, 27, 28, 29, 30, 31, 32, 33, 34, 35, 36, 37, 38, 39, 40, 41, 42, 43, 44, 45, 46] (by decide +kernel) (by decide +kernel)
set_option maxRecDepth 20000 in
theorem gX12_along_X12_weighs : GoodIn wsX12_along (wsV RX12 121 RX12 yX12_weighs wsX12_weighs) := goodIn_app (goodIn_of _ (by decide +kernel)) ggX12_along_X12_weighs
theorem dX12_along_0 : decode cX12_along 0 = .ok (.aload_n 0, 1) := by decide +kernel
theorem dX12_along_1 : decode cX12_along 1 = .ok (.getfield 18, 3) := by decide +kernel
theorem dX12_along_4 : decode cX12_along 4 = .ok (.aload_n 0, 1) := by decide +kernel
theorem dX12_along_5 : decode cX12_along 5 = .ok (.getfield 9, 3) := by decide +kernel
theorem dX12_along_8 : decode cX12_along 8 = .ok (.iconst 1, 1) := by decide +kernel
theorem dX12_along_9 : decode cX12_along 9 = .ok (.isub, 1) := by decide +kernel
theorem dX12_along_10 : decode cX12_along 10 = .ok (.imul, 1) := by decide +kernel
theorem dX12_along_11 : decode cX12_along 11 = .ok (.istore_n 1, 1) := by decide +kernel
theorem dX12_along_12 : decode cX12_along 12 = .ok (.iconst 0, 1) := by decide +kernel
theorem dX12_along_13 : decode cX12_along 13 = .ok (.istore_n 2, 1) := by decide +kernel
theorem dX12_along_14 : decode cX12_along 14 = .ok (.iload_n 2, 1) := by decide +kernel
theorem dX12_along_15 : decode cX12_along 15 = .ok (.aload_n 0, 1) := by decide +kernel
theorem dX12_along_16 : decode cX12_along 16 = .ok (.getfield 98, 3) := by decide +kernel
theorem dX12_along_19 : decode cX12_along 19 = .ok (.if_icmp .ge 26, 3) := by decide +kernel
theorem dX12_along_22 : decode cX12_along 22 = .ok (.iload_n 1, 1) := by decide +kernel
theorem dX12_along_23 : decode cX12_along 23 = .ok (.aload_n 0, 1) := by decide +kernel
theorem dX12_along_24 : decode cX12_along 24 = .ok (.iload_n 2, 1) := by decide +kernel
theorem dX12_along_25 : decode cX12_along 25 = .ok (.invokevirtual 121, 3) := by decide +kernel
theorem dX12_along_28 : decode cX12_along 28 = .ok (.iconst 2, 1) := by decide +kernel
theorem dX12_along_29 : decode cX12_along 29 = .ok (.imul, 1) := by decide +kernel
theorem dX12_along_30 : decode cX12_along 30 = .ok (.aload_n 0, 1) := by decide +kernel
theorem dX12_along_31 : decode cX12_along 31 = .ok (.getfield 37, 3) := by decide +kernel
theorem dX12_along_34 : decode cX12_along 34 = .ok (.iload_n 2, 1) := by decide +kernel
theorem dX12_along_35 : decode cX12_along 35 = .ok (.iaload, 1) := by decide +kernel
theorem dX12_along_36 : decode cX12_along 36 = .ok (.imul, 1) := by decide +kernel
theorem dX12_along_37 : decode cX12_along 37 = .ok (.iadd, 1) := by decide +kernel
theorem dX12_along_38 : decode cX12_along 38 = .ok (.istore_n 1, 1) := by decide +kernel
theorem dX12_along_39 : decode cX12_along 39 = .ok (.iinc 2 1, 3) := by decide +kernel
theorem dX12_along_42 : decode cX12_along 42 = .ok (.goto (-28), 3) := by decide +kernel
theorem dX12_along_45 : decode cX12_along 45 = .ok (.iconst 0, 1) := by decide +kernel
theorem dX12_along_46 : decode cX12_along 46 = .ok (.istore_n 2, 1) := by decide +kernel
theorem dX12_along_47 : decode cX12_along 47 = .ok (.iload_n 2, 1) := by decide +kernel
theorem dX12_along_48 : decode cX12_along 48 = .ok (.iconst 4, 1) := by decide +kernel
theorem dX12_along_49 : decode cX12_along 49 = .ok (.if_icmp .ge 27, 3) := by decide +kernel
theorem dX12_along_52 : decode cX12_along 52 = .ok (.iload_n 1, 1) := by decide +kernel
theorem dX12_along_53 : decode cX12_along 53 = .ok (.aload_n 0, 1) := by decide +kernel
theorem dX12_along_54 : decode cX12_along 54 = .ok (.getfield 55, 3) := by decide +kernel
theorem dX12_along_57 : decode cX12_along 57 = .ok (.iload_n 2, 1) := by decide +kernel
theorem dX12_along_58 : decode cX12_along 58 = .ok (.iaload, 1) := by decide +kernel
theorem dX12_along_59 : decode cX12_along 59 = .ok (.iconst 2, 1) := by decide +kernel
theorem dX12_along_60 : decode cX12_along 60 = .ok (.imul, 1) := by decide +kernel
theorem dX12_along_61 : decode cX12_along 61 = .ok (.aload_n 0, 1) := by decide +kernel
theorem dX12_along_62 : decode cX12_along 62 = .ok (.getfield 46, 3) := by decide +kernel
theorem dX12_along_65 : decode cX12_along 65 = .ok (.iload_n 2, 1) := by decide +kernel
theorem dX12_along_66 : decode cX12_along 66 = .ok (.iaload, 1) := by decide +kernel
theorem dX12_along_67 : decode cX12_along 67 = .ok (.imul, 1) := by decide +kernel
theorem dX12_along_68 : decode cX12_along 68 = .ok (.iadd, 1) := by decide +kernel
theorem dX12_along_69 : decode cX12_along 69 = .ok (.istore_n 1, 1) := by decide +kernel
theorem dX12_along_70 : decode cX12_along 70 = .ok (.iinc 2 1, 3) := by decide +kernel
theorem dX12_along_73 : decode cX12_along 73 = .ok (.goto (-26), 3) := by decide +kernel
theorem dX12_along_76 : decode cX12_along 76 = .ok (.iload_n 1, 1) := by decide +kernel
theorem dX12_along_77 : decode cX12_along 77 = .ok (.ireturn, 1) := by decide +kernel
set_option maxRecDepth 20000 in
theorem ggX12_aside_X12_weighs : GoodIn wsX12_aside wsX12_weighs := goodIn_r _ [7, 8, 9, 10, 11, 12, 13, 14, 15, 16, 17, 18, 19, 20, 21, 22, 23, 24, 25, 26, 27, 28, 29, 30, 31, 32, 33, 34, 35, 36, 37, 38, 39, 40, 41, 42] (by decide +kernel) (by decide +kernel)
set_option maxRecDepth 20000 in
theorem gX12_aside_X12_weighs : GoodIn wsX12_aside (wsV RX12 121 RX12 yX12_weighs wsX12_weighs) := goodIn_app (goodIn_of _ (by decide +kernel)) ggX12_aside_X12_weighs
theorem dX12_aside_0 : decode cX12_aside 0 = .ok (.iconst 0, 1) := by decide +kernel
theorem dX12_aside_1 : decode cX12_aside 1 = .ok (.istore_n 1, 1) := by decide +kernel
theorem dX12_aside_2 : decode cX12_aside 2 = .ok (.iconst 0, 1) := by decide +kernel
theorem dX12_aside_3 : decode cX12_aside 3 = .ok (.istore_n 2, 1) := by decide +kernel
theorem dX12_aside_4 : decode cX12_aside 4 = .ok (.iload_n 2, 1) := by decide +kernel
theorem dX12_aside_5 : decode cX12_aside 5 = .ok (.aload_n 0, 1) := by decide +kernel
theorem dX12_aside_6 : decode cX12_aside 6 = .ok (.getfield 98, 3) := by decide +kernel
theorem dX12_aside_9 : decode cX12_aside 9 = .ok (.if_icmp .ge 24, 3) := by decide +kernel
theorem dX12_aside_12 : decode cX12_aside 12 = .ok (.iload_n 1, 1) := by decide +kernel
theorem dX12_aside_13 : decode cX12_aside 13 = .ok (.aload_n 0, 1) := by decide +kernel
theorem dX12_aside_14 : decode cX12_aside 14 = .ok (.iload_n 2, 1) := by decide +kernel
theorem dX12_aside_15 : decode cX12_aside 15 = .ok (.invokevirtual 121, 3) := by decide +kernel
theorem dX12_aside_18 : decode cX12_aside 18 = .ok (.aload_n 0, 1) := by decide +kernel
theorem dX12_aside_19 : decode cX12_aside 19 = .ok (.getfield 40, 3) := by decide +kernel
theorem dX12_aside_22 : decode cX12_aside 22 = .ok (.iload_n 2, 1) := by decide +kernel
theorem dX12_aside_23 : decode cX12_aside 23 = .ok (.iaload, 1) := by decide +kernel
theorem dX12_aside_24 : decode cX12_aside 24 = .ok (.imul, 1) := by decide +kernel
theorem dX12_aside_25 : decode cX12_aside 25 = .ok (.iadd, 1) := by decide +kernel
theorem dX12_aside_26 : decode cX12_aside 26 = .ok (.istore_n 1, 1) := by decide +kernel
theorem dX12_aside_27 : decode cX12_aside 27 = .ok (.iinc 2 1, 3) := by decide +kernel
theorem dX12_aside_30 : decode cX12_aside 30 = .ok (.goto (-26), 3) := by decide +kernel
theorem dX12_aside_33 : decode cX12_aside 33 = .ok (.iload_n 1, 1) := by decide +kernel
theorem dX12_aside_34 : decode cX12_aside 34 = .ok (.ireturn, 1) := by decide +kernel
set_option maxRecDepth 20000 in
theorem ggX12_aloft_X12_weighs : GoodIn wsX12_aloft wsX12_weighs := goodIn_r _ [8, 9, 10, 11, 12, 13, 14, 15, 16, 17, 18, 19, 20, 21, 22, 23, 24, 25, 26, 27, 28, 29, 30, 31, 32, 33, 34, 35, 36, 37, 38, 39, 40, 41, 42, 43] (by decide +kernel) (by decide +kernel)
set_option maxRecDepth 20000 in
theorem gX12_aloft_X12_weighs : GoodIn wsX12_aloft (wsV RX12 121 RX12 yX12_weighs wsX12_weighs) := goodIn_app (goodIn_of _ (by decide +kernel)) ggX12_aloft_X12_weighs
theorem dX12_aloft_0 : decode cX12_aloft 0 = .ok (.iconst 0, 1) := by decide +kernel
theorem dX12_aloft_1 : decode cX12_aloft 1 = .ok (.istore_n 1, 1) := by decide +kernel
theorem dX12_aloft_2 : decode cX12_aloft 2 = .ok (.iconst 0, 1) := by decide +kernel
theorem dX12_aloft_3 : decode cX12_aloft 3 = .ok (.istore_n 2, 1) := by decide +kernel
theorem dX12_aloft_4 : decode cX12_aloft 4 = .ok (.iload_n 2, 1) := by decide +kernel
theorem dX12_aloft_5 : decode cX12_aloft 5 = .ok (.aload_n 0, 1) := by decide +kernel
theorem dX12_aloft_6 : decode cX12_aloft 6 = .ok (.getfield 98, 3) := by decide +kernel
theorem dX12_aloft_9 : decode cX12_aloft 9 = .ok (.if_icmp .ge 24, 3) := by decide +kernel
theorem dX12_aloft_12 : decode cX12_aloft 12 = .ok (.iload_n 1, 1) := by decide +kernel
theorem dX12_aloft_13 : decode cX12_aloft 13 = .ok (.aload_n 0, 1) := by decide +kernel
theorem dX12_aloft_14 : decode cX12_aloft 14 = .ok (.iload_n 2, 1) := by decide +kernel
theorem dX12_aloft_15 : decode cX12_aloft 15 = .ok (.invokevirtual 121, 3) := by decide +kernel
theorem dX12_aloft_18 : decode cX12_aloft 18 = .ok (.aload_n 0, 1) := by decide +kernel
theorem dX12_aloft_19 : decode cX12_aloft 19 = .ok (.getfield 43, 3) := by decide +kernel
theorem dX12_aloft_22 : decode cX12_aloft 22 = .ok (.iload_n 2, 1) := by decide +kernel
theorem dX12_aloft_23 : decode cX12_aloft 23 = .ok (.iaload, 1) := by decide +kernel
theorem dX12_aloft_24 : decode cX12_aloft 24 = .ok (.imul, 1) := by decide +kernel
theorem dX12_aloft_25 : decode cX12_aloft 25 = .ok (.iadd, 1) := by decide +kernel
theorem dX12_aloft_26 : decode cX12_aloft 26 = .ok (.istore_n 1, 1) := by decide +kernel
theorem dX12_aloft_27 : decode cX12_aloft 27 = .ok (.iinc 2 1, 3) := by decide +kernel
theorem dX12_aloft_30 : decode cX12_aloft 30 = .ok (.goto (-26), 3) := by decide +kernel
theorem dX12_aloft_33 : decode cX12_aloft 33 = .ok (.iconst 0, 1) := by decide +kernel
theorem dX12_aloft_34 : decode cX12_aloft 34 = .ok (.istore_n 2, 1) := by decide +kernel
theorem dX12_aloft_35 : decode cX12_aloft 35 = .ok (.iload_n 2, 1) := by decide +kernel
theorem dX12_aloft_36 : decode cX12_aloft 36 = .ok (.iconst 4, 1) := by decide +kernel
theorem dX12_aloft_37 : decode cX12_aloft 37 = .ok (.if_icmp .ge 20, 3) := by decide +kernel
theorem dX12_aloft_40 : decode cX12_aloft 40 = .ok (.iload_n 1, 1) := by decide +kernel
theorem dX12_aloft_41 : decode cX12_aloft 41 = .ok (.iconst 2, 1) := by decide +kernel
theorem dX12_aloft_42 : decode cX12_aloft 42 = .ok (.aload_n 0, 1) := by decide +kernel
theorem dX12_aloft_43 : decode cX12_aloft 43 = .ok (.getfield 55, 3) := by decide +kernel
theorem dX12_aloft_46 : decode cX12_aloft 46 = .ok (.iload_n 2, 1) := by decide +kernel
theorem dX12_aloft_47 : decode cX12_aloft 47 = .ok (.iaload, 1) := by decide +kernel
theorem dX12_aloft_48 : decode cX12_aloft 48 = .ok (.imul, 1) := by decide +kernel
theorem dX12_aloft_49 : decode cX12_aloft 49 = .ok (.iadd, 1) := by decide +kernel
theorem dX12_aloft_50 : decode cX12_aloft 50 = .ok (.istore_n 1, 1) := by decide +kernel
theorem dX12_aloft_51 : decode cX12_aloft 51 = .ok (.iinc 2 1, 3) := by decide +kernel
theorem dX12_aloft_54 : decode cX12_aloft 54 = .ok (.goto (-19), 3) := by decide +kernel
theorem dX12_aloft_57 : decode cX12_aloft 57 = .ok (.iload_n 1, 1) := by decide +kernel
theorem dX12_aloft_58 : decode cX12_aloft 58 = .ok (.ireturn, 1) := by decide +kernel
theorem dX12_leastRise_0 : decode cX12_leastRise 0 = .ok (.aload_n 0, 1) := by decide +kernel
theorem dX12_leastRise_1 : decode cX12_leastRise 1 = .ok (.getfield 25, 3) := by decide +kernel
theorem dX12_leastRise_4 : decode cX12_leastRise 4 = .ok (.iconst 0, 1) := by decide +kernel
theorem dX12_leastRise_5 : decode cX12_leastRise 5 = .ok (.iaload, 1) := by decide +kernel
theorem dX12_leastRise_6 : decode cX12_leastRise 6 = .ok (.istore_n 1, 1) := by decide +kernel
theorem dX12_leastRise_7 : decode cX12_leastRise 7 = .ok (.iconst 1, 1) := by decide +kernel
theorem dX12_leastRise_8 : decode cX12_leastRise 8 = .ok (.istore_n 2, 1) := by decide +kernel
theorem dX12_leastRise_9 : decode cX12_leastRise 9 = .ok (.iload_n 2, 1) := by decide +kernel
theorem dX12_leastRise_10 : decode cX12_leastRise 10 = .ok (.aload_n 0, 1) := by decide +kernel
theorem dX12_leastRise_11 : decode cX12_leastRise 11 = .ok (.getfield 9, 3) := by decide +kernel
theorem dX12_leastRise_14 : decode cX12_leastRise 14 = .ok (.if_icmp .ge 20, 3) := by decide +kernel
theorem dX12_leastRise_17 : decode cX12_leastRise 17 = .ok (.iload_n 1, 1) := by decide +kernel
theorem dX12_leastRise_18 : decode cX12_leastRise 18 = .ok (.aload_n 0, 1) := by decide +kernel
theorem dX12_leastRise_19 : decode cX12_leastRise 19 = .ok (.getfield 25, 3) := by decide +kernel
theorem dX12_leastRise_22 : decode cX12_leastRise 22 = .ok (.iload_n 2, 1) := by decide +kernel
theorem dX12_leastRise_23 : decode cX12_leastRise 23 = .ok (.iaload, 1) := by decide +kernel
theorem dX12_leastRise_24 : decode cX12_leastRise 24 = .ok (.invokestatic 147, 3) := by decide +kernel
theorem dX12_leastRise_27 : decode cX12_leastRise 27 = .ok (.istore_n 1, 1) := by decide +kernel
theorem dX12_leastRise_28 : decode cX12_leastRise 28 = .ok (.iinc 2 1, 3) := by decide +kernel
theorem dX12_leastRise_31 : decode cX12_leastRise 31 = .ok (.goto (-22), 3) := by decide +kernel
theorem dX12_leastRise_34 : decode cX12_leastRise 34 = .ok (.iload_n 1, 1) := by decide +kernel
theorem dX12_leastRise_35 : decode cX12_leastRise 35 = .ok (.ireturn, 1) := by decide +kernel
set_option maxRecDepth 20000 in
theorem ggX12_told_X12_allWeight : GoodIn wsX12_told wsX12_allWeight := goodIn_r _ [7, 8, 2, 9, 10, 11, 12, 6, 13, 14, 15, 16, 81, 82, 83, 84, 85, 86, 87, 88, 89, 90, 91, 92, 93, 94, 95, 96, 97, 98, 99, 100, 101, 102, 103, 104, 105, 106, 107, 108, 109, 110, 111, 112] (by decide +kernel) (by decide +kernel)
set_option maxRecDepth 20000 in
theorem gX12_told_X12_allWeight : GoodIn wsX12_told (wsV RX12 152 RX12 yX12_allWeight wsX12_allWeight) := goodIn_app (goodIn_of _ (by decide +kernel)) ggX12_told_X12_allWeight
set_option maxRecDepth 20000 in
theorem ggX12_told_X12_along : GoodIn wsX12_told wsX12_along := goodIn_r _ [20, 8, 21, 2, 22, 9, 23, 10, 11, 12, 6, 13, 14, 15, 16, 81, 82, 83, 84, 85, 86, 87, 88, 89, 90, 91, 92, 93, 94, 95, 96, 97, 98, 99, 100, 101, 102, 103, 104, 105, 106, 107, 108, 109, 110, 111, 112] (by decide +kernel) (by decide +kernel)
set_option maxRecDepth 20000 in
theorem gX12_told_X12_along : GoodIn wsX12_told (wsV RX12 155 RX12 yX12_along wsX12_along) := goodIn_app (goodIn_of _ (by decide +kernel)) ggX12_told_X12_along
set_option maxRecDepth 20000 in
theorem ggX12_told_X12_aside : GoodIn wsX12_told wsX12_aside := goodIn_r _ [27, 2, 28, 10, 11, 12, 6, 13, 14, 15, 16, 81, 82, 83, 84, 85, 86, 87, 88, 89, 90, 91, 92, 93, 94, 95, 96, 97, 98, 99, 100, 101, 102, 103, 104, 105, 106, 107, 108, 109, 110, 111, 112] (by decide +kernel) (by decide +kernel)
set_option maxRecDepth 20000 in
theorem gX12_told_X12_aside : GoodIn wsX12_told (wsV RX12 158 RX12 yX12_aside wsX12_aside) := goodIn_app (goodIn_of _ (by decide +kernel)) ggX12_told_X12_aside
set_option maxRecDepth 20000 in
theorem ggX12_told_X12_aloft : GoodIn wsX12_told wsX12_aloft := goodIn_r _ [32, 2, 33, 9, 10, 11, 12, 6, 13, 14, 15, 16, 81, 82, 83, 84, 85, 86, 87, 88, 89, 90, 91, 92, 93, 94, 95, 96, 97, 98, 99, 100, 101, 102, 103, 104, 105, 106, 107, 108, 109, 110, 111, 112] (by decide +kernel) (by decide +kernel)
set_option maxRecDepth 20000 in
theorem gX12_told_X12_aloft : GoodIn wsX12_told (wsV RX12 161 RX12 yX12_aloft wsX12_aloft) := goodIn_app (goodIn_of _ (by decide +kernel)) ggX12_told_X12_aloft
set_option maxRecDepth 20000 in
theorem ggX12_told_X12_line : GoodIn wsX12_told wsX12_line := goodIn_r _ [37, 3, 4, 5, 6, 7, 8, 2, 9, 10, 11, 12, 13, 14, 15, 16, 38, 39, 40, 41, 42, 43, 44, 45, 46, 21, 47, 48, 49, 50, 51, 52, 53, 54, 55, 56, 57, 58, 59, 81, 82, 83, 84, 85, 86, 87, 88, 89, 90, 91, 92, 93, 94, 95, 96, 97, 98, 99, 100, 101, 102, 103, 104, 105, 106, 107, 108, 109, 110, 111, 112] (by decide +kernel) (by decide +kernel)
set_option maxRecDepth 20000 in
theorem gX12_told_X12_line : GoodIn wsX12_told (wsV RX12 164 RX12 yX12_line wsX12_line) := goodIn_app (goodIn_of _ (by decide +kernel)) ggX12_told_X12_line
set_option maxRecDepth 20000 in
theorem ggX12_told_X12_righting : GoodIn wsX12_told wsX12_righting := goodIn_r _ [63, 21, 58, 64, 34, 35, 36, 6, 37, 3, 4, 5, 7, 8, 2, 9, 10, 11, 12, 13, 14, 15, 16, 38, 39, 40, 41, 42, 43, 44, 45, 46, 47, 48, 49, 50, 51, 52, 53, 54, 55, 56, 57, 59, 65, 66, 67, 68, 69, 70, 71, 72, 29, 30, 31, 32, 33, 81, 82, 83, 84, 85, 86, 87, 88, 89, 90, 91, 92, 93, 94, 95, 96, 97, 98, 99, 100, 101, 102, 103, 104, 105, 106, 107, 108, 109, 110, 111, 112] (by decide +kernel) (by decide +kernel)
set_option maxRecDepth 20000 in
theorem gX12_told_X12_righting : GoodIn wsX12_told (wsV RX12 167 RX12 yX12_righting wsX12_righting) := goodIn_app (goodIn_of _ (by decide +kernel)) ggX12_told_X12_righting
set_option maxRecDepth 20000 in
theorem ggX12_told_X12_slacks : GoodIn wsX12_told wsX12_slacks := goodIn_r _ [76, 68, 69, 70, 6, 71, 64, 9, 72, 81, 82, 83, 84, 85, 86, 87, 88, 89, 90, 91, 92, 93, 94, 95, 96, 97, 98, 99, 100, 101, 102, 103, 104, 105, 106, 107, 108, 109, 110, 111, 112] (by decide +kernel) (by decide +kernel)
set_option maxRecDepth 20000 in
theorem gX12_told_X12_slacks : GoodIn wsX12_told (wsV RX12 170 RX12 yX12_slacks wsX12_slacks) := goodIn_app (goodIn_of _ (by decide +kernel)) ggX12_told_X12_slacks
set_option maxRecDepth 20000 in
theorem ggX12_told_X12_leastRise : GoodIn wsX12_told wsX12_leastRise := goodIn_r _ [80, 59, 21, 51, 52, 53, 54, 81, 82, 83, 84, 85, 86, 87, 88, 89, 90, 91, 92, 93, 94, 95, 96, 97, 98, 99, 100, 101, 102, 103, 104, 105, 106, 107, 108, 109, 110, 111, 112] (by decide +kernel) (by decide +kernel)
set_option maxRecDepth 20000 in
theorem gX12_told_X12_leastRise : GoodIn wsX12_told (wsV RX12 173 RX12 yX12_leastRise wsX12_leastRise) := goodIn_app (goodIn_of _ (by decide +kernel)) ggX12_told_X12_leastRise
theorem dX12_told_0 : decode cX12_told 0 = .ok (.iload_n 1, 1) := by decide +kernel
theorem dX12_told_1 : decode cX12_told 1 = .ok (.tableswitch 101 0 7 #[47, 52, 57, 62, 67, 86, 91, 96], 47) := by decide +kernel
theorem dX12_told_48 : decode cX12_told 48 = .ok (.aload_n 0, 1) := by decide +kernel
theorem dX12_told_49 : decode cX12_told 49 = .ok (.invokevirtual 152, 3) := by decide +kernel
theorem dX12_told_52 : decode cX12_told 52 = .ok (.ireturn, 1) := by decide +kernel
theorem dX12_told_53 : decode cX12_told 53 = .ok (.aload_n 0, 1) := by decide +kernel
theorem dX12_told_54 : decode cX12_told 54 = .ok (.invokevirtual 155, 3) := by decide +kernel
theorem dX12_told_57 : decode cX12_told 57 = .ok (.ireturn, 1) := by decide +kernel
theorem dX12_told_58 : decode cX12_told 58 = .ok (.aload_n 0, 1) := by decide +kernel
theorem dX12_told_59 : decode cX12_told 59 = .ok (.invokevirtual 158, 3) := by decide +kernel
theorem dX12_told_62 : decode cX12_told 62 = .ok (.ireturn, 1) := by decide +kernel
theorem dX12_told_63 : decode cX12_told 63 = .ok (.aload_n 0, 1) := by decide +kernel
theorem dX12_told_64 : decode cX12_told 64 = .ok (.invokevirtual 161, 3) := by decide +kernel
theorem dX12_told_67 : decode cX12_told 67 = .ok (.ireturn, 1) := by decide +kernel
theorem dX12_told_68 : decode cX12_told 68 = .ok (.aload_n 0, 1) := by decide +kernel
theorem dX12_told_69 : decode cX12_told 69 = .ok (.invokevirtual 164, 3) := by decide +kernel
theorem dX12_told_72 : decode cX12_told 72 = .ok (.bipush (-2), 2) := by decide +kernel
theorem dX12_told_74 : decode cX12_told 74 = .ok (.if_icmp .ne 8, 3) := by decide +kernel
theorem dX12_told_77 : decode cX12_told 77 = .ok (.ldc 124, 2) := by decide +kernel
theorem dX12_told_79 : decode cX12_told 79 = .ok (.goto 7, 3) := by decide +kernel
theorem dX12_told_82 : decode cX12_told 82 = .ok (.aload_n 0, 1) := by decide +kernel
theorem dX12_told_83 : decode cX12_told 83 = .ok (.invokevirtual 167, 3) := by decide +kernel
theorem dX12_told_86 : decode cX12_told 86 = .ok (.ireturn, 1) := by decide +kernel
theorem dX12_told_87 : decode cX12_told 87 = .ok (.aload_n 0, 1) := by decide +kernel
theorem dX12_told_88 : decode cX12_told 88 = .ok (.getfield 98, 3) := by decide +kernel
theorem dX12_told_91 : decode cX12_told 91 = .ok (.ireturn, 1) := by decide +kernel
theorem dX12_told_92 : decode cX12_told 92 = .ok (.aload_n 0, 1) := by decide +kernel
theorem dX12_told_93 : decode cX12_told 93 = .ok (.invokevirtual 170, 3) := by decide +kernel
theorem dX12_told_96 : decode cX12_told 96 = .ok (.ireturn, 1) := by decide +kernel
theorem dX12_told_97 : decode cX12_told 97 = .ok (.aload_n 0, 1) := by decide +kernel
theorem dX12_told_98 : decode cX12_told 98 = .ok (.invokevirtual 173, 3) := by decide +kernel
theorem dX12_told_101 : decode cX12_told 101 = .ok (.ireturn, 1) := by decide +kernel
theorem dX12_told_102 : decode cX12_told 102 = .ok (.ldc 124, 2) := by decide +kernel
theorem dX12_told_104 : decode cX12_told 104 = .ok (.ireturn, 1) := by decide +kernel
theorem dX12_waterOf_0 : decode cX12_waterOf 0 = .ok (.iconst 0, 1) := by decide +kernel
theorem dX12_waterOf_1 : decode cX12_waterOf 1 = .ok (.bipush 64, 2) := by decide +kernel
theorem dX12_waterOf_3 : decode cX12_waterOf 3 = .ok (.aload_n 0, 1) := by decide +kernel
theorem dX12_waterOf_4 : decode cX12_waterOf 4 = .ok (.getfield 15, 3) := by decide +kernel
theorem dX12_waterOf_7 : decode cX12_waterOf 7 = .ok (.imul, 1) := by decide +kernel
theorem dX12_waterOf_8 : decode cX12_waterOf 8 = .ok (.iload_n 2, 1) := by decide +kernel
theorem dX12_waterOf_9 : decode cX12_waterOf 9 = .ok (.invokestatic 147, 3) := by decide +kernel
theorem dX12_waterOf_12 : decode cX12_waterOf 12 = .ok (.invokestatic 176, 3) := by decide +kernel
theorem dX12_waterOf_15 : decode cX12_waterOf 15 = .ok (.istore_n 3, 1) := by decide +kernel
theorem dX12_waterOf_16 : decode cX12_waterOf 16 = .ok (.aload_n 0, 1) := by decide +kernel
theorem dX12_waterOf_17 : decode cX12_waterOf 17 = .ok (.getfield 21, 3) := by decide +kernel
theorem dX12_waterOf_20 : decode cX12_waterOf 20 = .ok (.iload_n 1, 1) := by decide +kernel
theorem dX12_waterOf_21 : decode cX12_waterOf 21 = .ok (.iaload, 1) := by decide +kernel
theorem dX12_waterOf_22 : decode cX12_waterOf 22 = .ok (.iconst 0, 1) := by decide +kernel
theorem dX12_waterOf_23 : decode cX12_waterOf 23 = .ok (.iload_n 3, 1) := by decide +kernel
theorem dX12_waterOf_24 : decode cX12_waterOf 24 = .ok (.bipush 64, 2) := by decide +kernel
theorem dX12_waterOf_26 : decode cX12_waterOf 26 = .ok (.aload_n 0, 1) := by decide +kernel
theorem dX12_waterOf_27 : decode cX12_waterOf 27 = .ok (.getfield 25, 3) := by decide +kernel
theorem dX12_waterOf_30 : decode cX12_waterOf 30 = .ok (.iload_n 1, 1) := by decide +kernel
theorem dX12_waterOf_31 : decode cX12_waterOf 31 = .ok (.iaload, 1) := by decide +kernel
theorem dX12_waterOf_32 : decode cX12_waterOf 32 = .ok (.imul, 1) := by decide +kernel
theorem dX12_waterOf_33 : decode cX12_waterOf 33 = .ok (.isub, 1) := by decide +kernel
theorem dX12_waterOf_34 : decode cX12_waterOf 34 = .ok (.invokestatic 176, 3) := by decide +kernel
theorem dX12_waterOf_37 : decode cX12_waterOf 37 = .ok (.imul, 1) := by decide +kernel
theorem dX12_waterOf_38 : decode cX12_waterOf 38 = .ok (.ireturn, 1) := by decide +kernel
set_option maxRecDepth 20000 in
theorem ggX12_waterOfAll_X12_waterOf : GoodIn wsX12_waterOfAll wsX12_waterOf := goodIn_r _ [6, 7, 8, 9, 10, 11, 12, 13, 14, 15, 16, 17, 18, 19, 20, 21, 22, 23, 24, 25, 26, 27, 28, 29, 30, 31, 32, 33, 34, 35, 36, 37, 38, 39, 40, 41, 42, 43, 44, 45, 46, 47, 48] (by decide +kernel) (by decide +kernel)
set_option maxRecDepth 20000 in
theorem gX12_waterOfAll_X12_waterOf : GoodIn wsX12_waterOfAll (wsV RX12 179 RX12 yX12_waterOf wsX12_waterOf) := goodIn_app (goodIn_of _ (by decide +kernel)) ggX12_waterOfAll_X12_waterOf
theorem dX12_waterOfAll_0 : decode cX12_waterOfAll 0 = .ok (.iconst 0, 1) := by decide +kernel
theorem dX12_waterOfAll_1 : decode cX12_waterOfAll 1 = .ok (.istore_n 2, 1) := by decide +kernel
theorem dX12_waterOfAll_2 : decode cX12_waterOfAll 2 = .ok (.iconst 0, 1) := by decide +kernel
theorem dX12_waterOfAll_3 : decode cX12_waterOfAll 3 = .ok (.istore_n 3, 1) := by decide +kernel
theorem dX12_waterOfAll_4 : decode cX12_waterOfAll 4 = .ok (.iload_n 3, 1) := by decide +kernel
theorem dX12_waterOfAll_5 : decode cX12_waterOfAll 5 = .ok (.aload_n 0, 1) := by decide +kernel
theorem dX12_waterOfAll_6 : decode cX12_waterOfAll 6 = .ok (.getfield 9, 3) := by decide +kernel
theorem dX12_waterOfAll_9 : decode cX12_waterOfAll 9 = .ok (.if_icmp .ge 18, 3) := by decide +kernel
theorem dX12_waterOfAll_12 : decode cX12_waterOfAll 12 = .ok (.iload_n 2, 1) := by decide +kernel
theorem dX12_waterOfAll_13 : decode cX12_waterOfAll 13 = .ok (.aload_n 0, 1) := by decide +kernel
theorem dX12_waterOfAll_14 : decode cX12_waterOfAll 14 = .ok (.iload_n 3, 1) := by decide +kernel
theorem dX12_waterOfAll_15 : decode cX12_waterOfAll 15 = .ok (.iload_n 1, 1) := by decide +kernel
theorem dX12_waterOfAll_16 : decode cX12_waterOfAll 16 = .ok (.invokevirtual 179, 3) := by decide +kernel
theorem dX12_waterOfAll_19 : decode cX12_waterOfAll 19 = .ok (.iadd, 1) := by decide +kernel
theorem dX12_waterOfAll_20 : decode cX12_waterOfAll 20 = .ok (.istore_n 2, 1) := by decide +kernel
theorem dX12_waterOfAll_21 : decode cX12_waterOfAll 21 = .ok (.iinc 3 1, 3) := by decide +kernel
theorem dX12_waterOfAll_24 : decode cX12_waterOfAll 24 = .ok (.goto (-20), 3) := by decide +kernel
theorem dX12_waterOfAll_27 : decode cX12_waterOfAll 27 = .ok (.iload_n 2, 1) := by decide +kernel
theorem dX12_waterOfAll_28 : decode cX12_waterOfAll 28 = .ok (.ireturn, 1) := by decide +kernel
set_option maxRecDepth 20000 in
theorem ggX12_water_X12_isSection : GoodIn wsX12_water wsX12_isSection := goodIn_r _ [6, 7, 8, 9, 5, 10, 29, 30, 31, 32, 33, 34, 35, 36, 37, 38, 39, 40, 41, 42, 43, 44, 45, 46, 47, 48, 49, 50, 51, 52, 53, 54, 55, 56, 57, 58, 59, 60] (by decide +kernel) (by decide +kernel)
set_option maxRecDepth 20000 in
theorem gX12_water_X12_isSection : GoodIn wsX12_water (wsV RX12 105 RX12 yX12_isSection wsX12_isSection) := goodIn_app (goodIn_of _ (by decide +kernel)) ggX12_water_X12_isSection
set_option maxRecDepth 20000 in
theorem ggX12_water_X12_in : GoodIn wsX12_water wsX12_in := goodIn_r _ [10] (by decide +kernel) (by decide +kernel)
set_option maxRecDepth 20000 in
theorem gX12_water_X12_in : GoodIn wsX12_water (va_wsS RX12 101 yX12_in wsX12_in) := goodIn_app (goodIn_of _ (by decide +kernel)) ggX12_water_X12_in
set_option maxRecDepth 20000 in
theorem ggX12_water_X12_waterOfAll : GoodIn wsX12_water wsX12_waterOfAll := goodIn_r _ [14, 7, 15, 16, 17, 5, 18, 19, 20, 21, 22, 23, 24, 25, 26, 27, 28, 29, 30, 31, 32, 33, 34, 35, 36, 37, 38, 39, 40, 41, 42, 43, 44, 45, 46, 47, 48, 49, 50, 51, 52, 53, 54, 55, 56, 57, 58, 59, 60] (by decide +kernel) (by decide +kernel)
set_option maxRecDepth 20000 in
theorem gX12_water_X12_waterOfAll : GoodIn wsX12_water (wsV RX12 182 RX12 yX12_waterOfAll wsX12_waterOfAll) := goodIn_app (goodIn_of _ (by decide +kernel)) ggX12_water_X12_waterOfAll
set_option maxRecDepth 20000 in
theorem ggX12_water_X12_waterOf : GoodIn wsX12_water wsX12_waterOf := goodIn_r _ [18, 19, 20, 21, 22, 23, 24, 25, 26, 27, 28, 29, 30, 31, 32, 33, 34, 35, 36, 37, 38, 39, 40, 41, 42, 43, 44, 45, 46, 47, 48, 49, 50, 51, 52, 53, 54, 55, 56, 57, 58, 59, 60] (by decide +kernel) (by decide +kernel)
set_option maxRecDepth 20000 in
theorem gX12_water_X12_waterOf : GoodIn wsX12_water (wsV RX12 179 RX12 yX12_waterOf wsX12_waterOf) := goodIn_app (goodIn_of _ (by decide +kernel)) ggX12_water_X12_waterOf
theorem dX12_water_0 : decode cX12_water 0 = .ok (.iload_n 1, 1) := by decide +kernel
theorem dX12_water_1 : decode cX12_water 1 = .ok (.iconst (-1), 1) := by decide +kernel
theorem dX12_water_2 : decode cX12_water 2 = .ok (.if_icmp .eq 11, 3) := by decide +kernel
theorem dX12_water_5 : decode cX12_water 5 = .ok (.aload_n 0, 1) := by decide +kernel
theorem dX12_water_6 : decode cX12_water 6 = .ok (.iload_n 1, 1) := by decide +kernel
theorem dX12_water_7 : decode cX12_water 7 = .ok (.invokevirtual 105, 3) := by decide +kernel
theorem dX12_water_10 : decode cX12_water 10 = .ok (.ifCond .eq 16, 3) := by decide +kernel
theorem dX12_water_13 : decode cX12_water 13 = .ok (.iload_n 2, 1) := by decide +kernel
theorem dX12_water_14 : decode cX12_water 14 = .ok (.sipush (-9999), 3) := by decide +kernel
theorem dX12_water_17 : decode cX12_water 17 = .ok (.sipush 9999, 3) := by decide +kernel
theorem dX12_water_20 : decode cX12_water 20 = .ok (.invokestatic 101, 3) := by decide +kernel
theorem dX12_water_23 : decode cX12_water 23 = .ok (.ifCond .ne 6, 3) := by decide +kernel
theorem dX12_water_26 : decode cX12_water 26 = .ok (.ldc 124, 2) := by decide +kernel
theorem dX12_water_28 : decode cX12_water 28 = .ok (.ireturn, 1) := by decide +kernel
theorem dX12_water_29 : decode cX12_water 29 = .ok (.iload_n 1, 1) := by decide +kernel
theorem dX12_water_30 : decode cX12_water 30 = .ok (.iconst (-1), 1) := by decide +kernel
theorem dX12_water_31 : decode cX12_water 31 = .ok (.if_icmp .ne 11, 3) := by decide +kernel
theorem dX12_water_34 : decode cX12_water 34 = .ok (.aload_n 0, 1) := by decide +kernel
theorem dX12_water_35 : decode cX12_water 35 = .ok (.iload_n 2, 1) := by decide +kernel
theorem dX12_water_36 : decode cX12_water 36 = .ok (.invokevirtual 182, 3) := by decide +kernel
theorem dX12_water_39 : decode cX12_water 39 = .ok (.goto 9, 3) := by decide +kernel
theorem dX12_water_42 : decode cX12_water 42 = .ok (.aload_n 0, 1) := by decide +kernel
theorem dX12_water_43 : decode cX12_water 43 = .ok (.iload_n 1, 1) := by decide +kernel
theorem dX12_water_44 : decode cX12_water 44 = .ok (.iload_n 2, 1) := by decide +kernel
theorem dX12_water_45 : decode cX12_water 45 = .ok (.invokevirtual 179, 3) := by decide +kernel
theorem dX12_water_48 : decode cX12_water 48 = .ok (.ireturn, 1) := by decide +kernel
set_option maxRecDepth 20000 in
theorem ggX12_lineFor_X12_waterOfAll : GoodIn wsX12_lineFor wsX12_waterOfAll := goodIn_r _ [6, 7, 8, 9, 10, 5, 11, 1, 12, 13, 14, 15, 16, 17, 18, 19, 20, 21, 22, 23, 24, 25, 26, 27, 28, 29, 30, 31, 32, 33, 34, 35, 36, 37, 38, 39, 40, 41, 42, 43, 44, 45, 46, 47, 48, 49, 50, 51, 52] (by decide +kernel) (by decide +kernel)
set_option maxRecDepth 20000 in
theorem gX12_lineFor_X12_waterOfAll : GoodIn wsX12_lineFor (wsV RX12 182 RX12 yX12_waterOfAll wsX12_waterOfAll) := goodIn_app (goodIn_of _ (by decide +kernel)) ggX12_lineFor_X12_waterOfAll
theorem dX12_lineFor_0 : decode cX12_lineFor 0 = .ok (.aload_n 0, 1) := by decide +kernel
theorem dX12_lineFor_1 : decode cX12_lineFor 1 = .ok (.bipush 64, 2) := by decide +kernel
theorem dX12_lineFor_3 : decode cX12_lineFor 3 = .ok (.aload_n 0, 1) := by decide +kernel
theorem dX12_lineFor_4 : decode cX12_lineFor 4 = .ok (.getfield 15, 3) := by decide +kernel
theorem dX12_lineFor_7 : decode cX12_lineFor 7 = .ok (.imul, 1) := by decide +kernel
theorem dX12_lineFor_8 : decode cX12_lineFor 8 = .ok (.invokevirtual 182, 3) := by decide +kernel
theorem dX12_lineFor_11 : decode cX12_lineFor 11 = .ok (.bipush 64, 2) := by decide +kernel
theorem dX12_lineFor_13 : decode cX12_lineFor 13 = .ok (.iload_n 1, 1) := by decide +kernel
theorem dX12_lineFor_14 : decode cX12_lineFor 14 = .ok (.imul, 1) := by decide +kernel
theorem dX12_lineFor_15 : decode cX12_lineFor 15 = .ok (.if_icmp .ge 6, 3) := by decide +kernel
theorem dX12_lineFor_18 : decode cX12_lineFor 18 = .ok (.bipush (-2), 2) := by decide +kernel
theorem dX12_lineFor_20 : decode cX12_lineFor 20 = .ok (.ireturn, 1) := by decide +kernel
theorem dX12_lineFor_21 : decode cX12_lineFor 21 = .ok (.iconst 0, 1) := by decide +kernel
theorem dX12_lineFor_22 : decode cX12_lineFor 22 = .ok (.istore_n 2, 1) := by decide +kernel
theorem dX12_lineFor_23 : decode cX12_lineFor 23 = .ok (.bipush 64, 2) := by decide +kernel
theorem dX12_lineFor_25 : decode cX12_lineFor 25 = .ok (.aload_n 0, 1) := by decide +kernel
theorem dX12_lineFor_26 : decode cX12_lineFor 26 = .ok (.getfield 15, 3) := by decide +kernel
theorem dX12_lineFor_29 : decode cX12_lineFor 29 = .ok (.imul, 1) := by decide +kernel
theorem dX12_lineFor_30 : decode cX12_lineFor 30 = .ok (.istore_n 3, 1) := by decide +kernel
theorem dX12_lineFor_31 : decode cX12_lineFor 31 = .ok (.iload_n 2, 1) := by decide +kernel
theorem dX12_lineFor_32 : decode cX12_lineFor 32 = .ok (.iload_n 3, 1) := by decide +kernel
theorem dX12_lineFor_33 : decode cX12_lineFor 33 = .ok (.if_icmp .ge 37, 3) := by decide +kernel
theorem dX12_lineFor_36 : decode cX12_lineFor 36 = .ok (.iload_n 2, 1) := by decide +kernel
theorem dX12_lineFor_37 : decode cX12_lineFor 37 = .ok (.iload_n 3, 1) := by decide +kernel
theorem dX12_lineFor_38 : decode cX12_lineFor 38 = .ok (.iadd, 1) := by decide +kernel
theorem dX12_lineFor_39 : decode cX12_lineFor 39 = .ok (.iconst 2, 1) := by decide +kernel
theorem dX12_lineFor_40 : decode cX12_lineFor 40 = .ok (.idiv, 1) := by decide +kernel
theorem dX12_lineFor_41 : decode cX12_lineFor 41 = .ok (.istore 4, 2) := by decide +kernel
theorem dX12_lineFor_43 : decode cX12_lineFor 43 = .ok (.aload_n 0, 1) := by decide +kernel
theorem dX12_lineFor_44 : decode cX12_lineFor 44 = .ok (.iload 4, 2) := by decide +kernel
theorem dX12_lineFor_46 : decode cX12_lineFor 46 = .ok (.invokevirtual 182, 3) := by decide +kernel
theorem dX12_lineFor_49 : decode cX12_lineFor 49 = .ok (.bipush 64, 2) := by decide +kernel
theorem dX12_lineFor_51 : decode cX12_lineFor 51 = .ok (.iload_n 1, 1) := by decide +kernel
theorem dX12_lineFor_52 : decode cX12_lineFor 52 = .ok (.imul, 1) := by decide +kernel
theorem dX12_lineFor_53 : decode cX12_lineFor 53 = .ok (.if_icmp .lt 9, 3) := by decide +kernel
theorem dX12_lineFor_56 : decode cX12_lineFor 56 = .ok (.iload 4, 2) := by decide +kernel
theorem dX12_lineFor_58 : decode cX12_lineFor 58 = .ok (.istore_n 3, 1) := by decide +kernel
theorem dX12_lineFor_59 : decode cX12_lineFor 59 = .ok (.goto 8, 3) := by decide +kernel
theorem dX12_lineFor_62 : decode cX12_lineFor 62 = .ok (.iload 4, 2) := by decide +kernel
theorem dX12_lineFor_64 : decode cX12_lineFor 64 = .ok (.iconst 1, 1) := by decide +kernel
theorem dX12_lineFor_65 : decode cX12_lineFor 65 = .ok (.iadd, 1) := by decide +kernel
theorem dX12_lineFor_66 : decode cX12_lineFor 66 = .ok (.istore_n 2, 1) := by decide +kernel
theorem dX12_lineFor_67 : decode cX12_lineFor 67 = .ok (.goto (-36), 3) := by decide +kernel
theorem dX12_lineFor_70 : decode cX12_lineFor 70 = .ok (.iload_n 2, 1) := by decide +kernel
theorem dX12_lineFor_71 : decode cX12_lineFor 71 = .ok (.ireturn, 1) := by decide +kernel
set_option maxRecDepth 20000 in
theorem ggX12_line_X12_allWeight : GoodIn wsX12_line wsX12_allWeight := goodIn_r _ [5, 6, 7, 8, 9, 10, 11, 4, 12, 13, 14, 15, 39, 40, 41, 42, 43, 44, 45, 46, 47, 48, 49, 50, 51, 52, 53, 54, 55, 56, 57, 58, 59, 60, 61, 62, 63, 64, 65, 66, 67, 68, 69, 70] (by decide +kernel) (by decide +kernel)
set_option maxRecDepth 20000 in
theorem gX12_line_X12_allWeight : GoodIn wsX12_line (wsV RX12 152 RX12 yX12_allWeight wsX12_allWeight) := goodIn_app (goodIn_of _ (by decide +kernel)) ggX12_line_X12_allWeight
set_option maxRecDepth 20000 in
theorem ggX12_line_X12_lineFor : GoodIn wsX12_line wsX12_lineFor := goodIn_r _ [19, 20, 21, 22, 23, 4, 24, 25, 26, 27, 28, 29, 30, 31, 32, 33, 34, 35, 36, 37, 38, 39, 40, 41, 42, 43, 44, 45, 46, 47, 48, 49, 50, 51, 52, 53, 54, 55, 56, 57, 58, 59, 60, 61, 62, 63, 64, 65, 66, 67, 68, 69, 70] (by decide +kernel) (by decide +kernel)
set_option maxRecDepth 20000 in
theorem gX12_line_X12_lineFor : GoodIn wsX12_line (wsV RX12 185 RX12 yX12_lineFor wsX12_lineFor) := goodIn_app (goodIn_of _ (by decide +kernel)) ggX12_line_X12_lineFor
theorem dX12_line_0 : decode cX12_line 0 = .ok (.aload_n 0, 1) := by decide +kernel
theorem dX12_line_1 : decode cX12_line 1 = .ok (.aload_n 0, 1) := by decide +kernel
theorem dX12_line_2 : decode cX12_line 2 = .ok (.invokevirtual 152, 3) := by decide +kernel
theorem dX12_line_5 : decode cX12_line 5 = .ok (.invokevirtual 185, 3) := by decide +kernel
theorem dX12_line_8 : decode cX12_line 8 = .ok (.ireturn, 1) := by decide +kernel
set_option maxRecDepth 20000 in
theorem ggX12_waterBy_X12_waterOf : GoodIn wsX12_waterBy wsX12_waterOf := goodIn_r _ [6, 7, 8, 9, 10, 11, 12, 13, 14, 15, 16, 17, 18, 19, 20, 21, 22, 23, 24, 25, 26, 27, 28, 29, 30, 31, 32, 33, 34, 35, 36, 37, 38, 39, 40, 41, 42, 43, 44, 45, 46, 47, 48] (by decide +kernel) (by decide +kernel)
set_option maxRecDepth 20000 in
theorem gX12_waterBy_X12_waterOf : GoodIn wsX12_waterBy (wsV RX12 179 RX12 yX12_waterOf wsX12_waterOf) := goodIn_app (goodIn_of _ (by decide +kernel)) ggX12_waterBy_X12_waterOf
theorem dX12_waterBy_0 : decode cX12_waterBy 0 = .ok (.iconst 0, 1) := by decide +kernel
theorem dX12_waterBy_1 : decode cX12_waterBy 1 = .ok (.istore_n 3, 1) := by decide +kernel
theorem dX12_waterBy_2 : decode cX12_waterBy 2 = .ok (.iconst 0, 1) := by decide +kernel
theorem dX12_waterBy_3 : decode cX12_waterBy 3 = .ok (.istore 4, 2) := by decide +kernel
theorem dX12_waterBy_5 : decode cX12_waterBy 5 = .ok (.iload 4, 2) := by decide +kernel
theorem dX12_waterBy_7 : decode cX12_waterBy 7 = .ok (.aload_n 0, 1) := by decide +kernel
theorem dX12_waterBy_8 : decode cX12_waterBy 8 = .ok (.getfield 9, 3) := by decide +kernel
theorem dX12_waterBy_11 : decode cX12_waterBy 11 = .ok (.if_icmp .ge 33, 3) := by decide +kernel
theorem dX12_waterBy_14 : decode cX12_waterBy 14 = .ok (.iload_n 3, 1) := by decide +kernel
theorem dX12_waterBy_15 : decode cX12_waterBy 15 = .ok (.aload_n 0, 1) := by decide +kernel
theorem dX12_waterBy_16 : decode cX12_waterBy 16 = .ok (.iload 4, 2) := by decide +kernel
theorem dX12_waterBy_18 : decode cX12_waterBy 18 = .ok (.iload_n 2, 1) := by decide +kernel
theorem dX12_waterBy_19 : decode cX12_waterBy 19 = .ok (.iload_n 1, 1) := by decide +kernel
theorem dX12_waterBy_20 : decode cX12_waterBy 20 = .ok (.iconst 2, 1) := by decide +kernel
theorem dX12_waterBy_21 : decode cX12_waterBy 21 = .ok (.iload 4, 2) := by decide +kernel
theorem dX12_waterBy_23 : decode cX12_waterBy 23 = .ok (.imul, 1) := by decide +kernel
theorem dX12_waterBy_24 : decode cX12_waterBy 24 = .ok (.aload_n 0, 1) := by decide +kernel
theorem dX12_waterBy_25 : decode cX12_waterBy 25 = .ok (.getfield 9, 3) := by decide +kernel
theorem dX12_waterBy_28 : decode cX12_waterBy 28 = .ok (.isub, 1) := by decide +kernel
theorem dX12_waterBy_29 : decode cX12_waterBy 29 = .ok (.iconst 1, 1) := by decide +kernel
theorem dX12_waterBy_30 : decode cX12_waterBy 30 = .ok (.iadd, 1) := by decide +kernel
theorem dX12_waterBy_31 : decode cX12_waterBy 31 = .ok (.imul, 1) := by decide +kernel
theorem dX12_waterBy_32 : decode cX12_waterBy 32 = .ok (.iadd, 1) := by decide +kernel
theorem dX12_waterBy_33 : decode cX12_waterBy 33 = .ok (.invokevirtual 179, 3) := by decide +kernel
theorem dX12_waterBy_36 : decode cX12_waterBy 36 = .ok (.iadd, 1) := by decide +kernel
theorem dX12_waterBy_37 : decode cX12_waterBy 37 = .ok (.istore_n 3, 1) := by decide +kernel
theorem dX12_waterBy_38 : decode cX12_waterBy 38 = .ok (.iinc 4 1, 3) := by decide +kernel
theorem dX12_waterBy_41 : decode cX12_waterBy 41 = .ok (.goto (-36), 3) := by decide +kernel
theorem dX12_waterBy_44 : decode cX12_waterBy 44 = .ok (.iload_n 3, 1) := by decide +kernel
theorem dX12_waterBy_45 : decode cX12_waterBy 45 = .ok (.ireturn, 1) := by decide +kernel
set_option maxRecDepth 20000 in
theorem ggX12_restOf_X12_allWeight : GoodIn wsX12_restOf wsX12_allWeight := goodIn_r _ [11, 12, 13, 14, 15, 16, 17, 10, 18, 19, 20, 21, 38, 39, 40, 41, 42, 43, 44, 45, 46, 47, 48, 49, 50, 51, 52, 53, 54, 55, 56, 57, 58, 59, 60, 61, 62, 63, 64, 65, 66, 67, 68, 69] (by decide +kernel) (by decide +kernel)
set_option maxRecDepth 20000 in
theorem gX12_restOf_X12_allWeight : GoodIn wsX12_restOf (wsV RX12 152 RX12 yX12_allWeight wsX12_allWeight) := goodIn_app (goodIn_of _ (by decide +kernel)) ggX12_restOf_X12_allWeight
set_option maxRecDepth 20000 in
theorem ggX12_restOf_X12_waterBy : GoodIn wsX12_restOf wsX12_waterBy := goodIn_r _ [25, 2, 26, 27, 28, 10, 29, 1, 30, 31, 5, 32, 33, 34, 35, 36, 37, 38, 39, 40, 41, 42, 43, 44, 45, 46, 47, 48, 49, 50, 51, 52, 53, 54, 55, 56, 57, 58, 59, 60, 61, 62, 63, 64, 65, 66, 67, 68, 69] (by decide +kernel) (by decide +kernel)
set_option maxRecDepth 20000 in
theorem gX12_restOf_X12_waterBy : GoodIn wsX12_restOf (wsV RX12 191 RX12 yX12_waterBy wsX12_waterBy) := goodIn_app (goodIn_of _ (by decide +kernel)) ggX12_restOf_X12_waterBy
theorem dX12_restOf_0 : decode cX12_restOf 0 = .ok (.bipush 64, 2) := by decide +kernel
theorem dX12_restOf_2 : decode cX12_restOf 2 = .ok (.aload_n 0, 1) := by decide +kernel
theorem dX12_restOf_3 : decode cX12_restOf 3 = .ok (.invokevirtual 152, 3) := by decide +kernel
theorem dX12_restOf_6 : decode cX12_restOf 6 = .ok (.imul, 1) := by decide +kernel
theorem dX12_restOf_7 : decode cX12_restOf 7 = .ok (.istore_n 2, 1) := by decide +kernel
theorem dX12_restOf_8 : decode cX12_restOf 8 = .ok (.bipush 64, 2) := by decide +kernel
theorem dX12_restOf_10 : decode cX12_restOf 10 = .ok (.aload_n 0, 1) := by decide +kernel
theorem dX12_restOf_11 : decode cX12_restOf 11 = .ok (.getfield 15, 3) := by decide +kernel
theorem dX12_restOf_14 : decode cX12_restOf 14 = .ok (.imul, 1) := by decide +kernel
theorem dX12_restOf_15 : decode cX12_restOf 15 = .ok (.aload_n 0, 1) := by decide +kernel
theorem dX12_restOf_16 : decode cX12_restOf 16 = .ok (.getfield 9, 3) := by decide +kernel
theorem dX12_restOf_19 : decode cX12_restOf 19 = .ok (.iconst 1, 1) := by decide +kernel
theorem dX12_restOf_20 : decode cX12_restOf 20 = .ok (.isub, 1) := by decide +kernel
theorem dX12_restOf_21 : decode cX12_restOf 21 = .ok (.iload_n 1, 1) := by decide +kernel
theorem dX12_restOf_22 : decode cX12_restOf 22 = .ok (.invokestatic 188, 3) := by decide +kernel
theorem dX12_restOf_25 : decode cX12_restOf 25 = .ok (.imul, 1) := by decide +kernel
theorem dX12_restOf_26 : decode cX12_restOf 26 = .ok (.iadd, 1) := by decide +kernel
theorem dX12_restOf_27 : decode cX12_restOf 27 = .ok (.istore_n 3, 1) := by decide +kernel
theorem dX12_restOf_28 : decode cX12_restOf 28 = .ok (.aload_n 0, 1) := by decide +kernel
theorem dX12_restOf_29 : decode cX12_restOf 29 = .ok (.iload_n 1, 1) := by decide +kernel
theorem dX12_restOf_30 : decode cX12_restOf 30 = .ok (.iload_n 3, 1) := by decide +kernel
theorem dX12_restOf_31 : decode cX12_restOf 31 = .ok (.invokevirtual 191, 3) := by decide +kernel
theorem dX12_restOf_34 : decode cX12_restOf 34 = .ok (.iload_n 2, 1) := by decide +kernel
theorem dX12_restOf_35 : decode cX12_restOf 35 = .ok (.if_icmp .ge 6, 3) := by decide +kernel
theorem dX12_restOf_38 : decode cX12_restOf 38 = .ok (.bipush (-2), 2) := by decide +kernel
theorem dX12_restOf_40 : decode cX12_restOf 40 = .ok (.ireturn, 1) := by decide +kernel
theorem dX12_restOf_41 : decode cX12_restOf 41 = .ok (.iconst 0, 1) := by decide +kernel
theorem dX12_restOf_42 : decode cX12_restOf 42 = .ok (.istore 4, 2) := by decide +kernel
theorem dX12_restOf_44 : decode cX12_restOf 44 = .ok (.iload 4, 2) := by decide +kernel
theorem dX12_restOf_46 : decode cX12_restOf 46 = .ok (.iload_n 3, 1) := by decide +kernel
theorem dX12_restOf_47 : decode cX12_restOf 47 = .ok (.if_icmp .ge 37, 3) := by decide +kernel
theorem dX12_restOf_50 : decode cX12_restOf 50 = .ok (.iload 4, 2) := by decide +kernel
theorem dX12_restOf_52 : decode cX12_restOf 52 = .ok (.iload_n 3, 1) := by decide +kernel
theorem dX12_restOf_53 : decode cX12_restOf 53 = .ok (.iadd, 1) := by decide +kernel
theorem dX12_restOf_54 : decode cX12_restOf 54 = .ok (.iconst 2, 1) := by decide +kernel
theorem dX12_restOf_55 : decode cX12_restOf 55 = .ok (.idiv, 1) := by decide +kernel
theorem dX12_restOf_56 : decode cX12_restOf 56 = .ok (.istore 5, 2) := by decide +kernel
theorem dX12_restOf_58 : decode cX12_restOf 58 = .ok (.aload_n 0, 1) := by decide +kernel
theorem dX12_restOf_59 : decode cX12_restOf 59 = .ok (.iload_n 1, 1) := by decide +kernel
theorem dX12_restOf_60 : decode cX12_restOf 60 = .ok (.iload 5, 2) := by decide +kernel
theorem dX12_restOf_62 : decode cX12_restOf 62 = .ok (.invokevirtual 191, 3) := by decide +kernel
theorem dX12_restOf_65 : decode cX12_restOf 65 = .ok (.iload_n 2, 1) := by decide +kernel
theorem dX12_restOf_66 : decode cX12_restOf 66 = .ok (.if_icmp .lt 9, 3) := by decide +kernel
theorem dX12_restOf_69 : decode cX12_restOf 69 = .ok (.iload 5, 2) := by decide +kernel
theorem dX12_restOf_71 : decode cX12_restOf 71 = .ok (.istore_n 3, 1) := by decide +kernel
theorem dX12_restOf_72 : decode cX12_restOf 72 = .ok (.goto 9, 3) := by decide +kernel
theorem dX12_restOf_75 : decode cX12_restOf 75 = .ok (.iload 5, 2) := by decide +kernel
theorem dX12_restOf_77 : decode cX12_restOf 77 = .ok (.iconst 1, 1) := by decide +kernel
theorem dX12_restOf_78 : decode cX12_restOf 78 = .ok (.iadd, 1) := by decide +kernel
theorem dX12_restOf_79 : decode cX12_restOf 79 = .ok (.istore 4, 2) := by decide +kernel
theorem dX12_restOf_81 : decode cX12_restOf 81 = .ok (.goto (-37), 3) := by decide +kernel
theorem dX12_restOf_84 : decode cX12_restOf 84 = .ok (.iload 4, 2) := by decide +kernel
theorem dX12_restOf_86 : decode cX12_restOf 86 = .ok (.ireturn, 1) := by decide +kernel
set_option maxRecDepth 20000 in
theorem ggX12_offBy_X12_waterOf : GoodIn wsX12_offBy wsX12_waterOf := goodIn_r _ [6, 7, 8, 9, 10, 11, 12, 13, 14, 15, 16, 33, 34, 35, 36, 37, 38, 39, 40, 41, 42, 43, 44, 45, 46, 47, 48, 49, 50, 51, 52, 53, 54, 55, 56, 57, 58, 59, 60, 61, 62, 63, 64] (by decide +kernel) (by decide +kernel)
set_option maxRecDepth 20000 in
theorem gX12_offBy_X12_waterOf : GoodIn wsX12_offBy (wsV RX12 179 RX12 yX12_waterOf wsX12_waterOf) := goodIn_app (goodIn_of _ (by decide +kernel)) ggX12_offBy_X12_waterOf
set_option maxRecDepth 20000 in
theorem ggX12_offBy_X12_along : GoodIn wsX12_offBy wsX12_along := goodIn_r _ [20, 21, 1, 22, 23, 24, 25, 26, 27, 28, 5, 29, 30, 31, 32, 33, 34, 35, 36, 37, 38, 39, 40, 41, 42, 43, 44, 45, 46, 47, 48, 49, 50, 51, 52, 53, 54, 55, 56, 57, 58, 59, 60, 61, 62, 63, 64] (by decide +kernel) (by decide +kernel)
set_option maxRecDepth 20000 in
theorem gX12_offBy_X12_along : GoodIn wsX12_offBy (wsV RX12 155 RX12 yX12_along wsX12_along) := goodIn_app (goodIn_of _ (by decide +kernel)) ggX12_offBy_X12_along
theorem dX12_offBy_0 : decode cX12_offBy 0 = .ok (.iconst 0, 1) := by decide +kernel
theorem dX12_offBy_1 : decode cX12_offBy 1 = .ok (.istore_n 3, 1) := by decide +kernel
theorem dX12_offBy_2 : decode cX12_offBy 2 = .ok (.iconst 0, 1) := by decide +kernel
theorem dX12_offBy_3 : decode cX12_offBy 3 = .ok (.istore 4, 2) := by decide +kernel
theorem dX12_offBy_5 : decode cX12_offBy 5 = .ok (.iload 4, 2) := by decide +kernel
theorem dX12_offBy_7 : decode cX12_offBy 7 = .ok (.aload_n 0, 1) := by decide +kernel
theorem dX12_offBy_8 : decode cX12_offBy 8 = .ok (.getfield 9, 3) := by decide +kernel
theorem dX12_offBy_11 : decode cX12_offBy 11 = .ok (.if_icmp .ge 38, 3) := by decide +kernel
theorem dX12_offBy_14 : decode cX12_offBy 14 = .ok (.iload_n 3, 1) := by decide +kernel
theorem dX12_offBy_15 : decode cX12_offBy 15 = .ok (.iconst 2, 1) := by decide +kernel
theorem dX12_offBy_16 : decode cX12_offBy 16 = .ok (.iload 4, 2) := by decide +kernel
theorem dX12_offBy_18 : decode cX12_offBy 18 = .ok (.imul, 1) := by decide +kernel
theorem dX12_offBy_19 : decode cX12_offBy 19 = .ok (.aload_n 0, 1) := by decide +kernel
theorem dX12_offBy_20 : decode cX12_offBy 20 = .ok (.iload 4, 2) := by decide +kernel
theorem dX12_offBy_22 : decode cX12_offBy 22 = .ok (.iload_n 2, 1) := by decide +kernel
theorem dX12_offBy_23 : decode cX12_offBy 23 = .ok (.iload_n 1, 1) := by decide +kernel
theorem dX12_offBy_24 : decode cX12_offBy 24 = .ok (.iconst 2, 1) := by decide +kernel
theorem dX12_offBy_25 : decode cX12_offBy 25 = .ok (.iload 4, 2) := by decide +kernel
theorem dX12_offBy_27 : decode cX12_offBy 27 = .ok (.imul, 1) := by decide +kernel
theorem dX12_offBy_28 : decode cX12_offBy 28 = .ok (.aload_n 0, 1) := by decide +kernel
theorem dX12_offBy_29 : decode cX12_offBy 29 = .ok (.getfield 9, 3) := by decide +kernel
theorem dX12_offBy_32 : decode cX12_offBy 32 = .ok (.isub, 1) := by decide +kernel
theorem dX12_offBy_33 : decode cX12_offBy 33 = .ok (.iconst 1, 1) := by decide +kernel
theorem dX12_offBy_34 : decode cX12_offBy 34 = .ok (.iadd, 1) := by decide +kernel
theorem dX12_offBy_35 : decode cX12_offBy 35 = .ok (.imul, 1) := by decide +kernel
theorem dX12_offBy_36 : decode cX12_offBy 36 = .ok (.iadd, 1) := by decide +kernel
theorem dX12_offBy_37 : decode cX12_offBy 37 = .ok (.invokevirtual 179, 3) := by decide +kernel
theorem dX12_offBy_40 : decode cX12_offBy 40 = .ok (.imul, 1) := by decide +kernel
theorem dX12_offBy_41 : decode cX12_offBy 41 = .ok (.iadd, 1) := by decide +kernel
theorem dX12_offBy_42 : decode cX12_offBy 42 = .ok (.istore_n 3, 1) := by decide +kernel
theorem dX12_offBy_43 : decode cX12_offBy 43 = .ok (.iinc 4 1, 3) := by decide +kernel
theorem dX12_offBy_46 : decode cX12_offBy 46 = .ok (.goto (-41), 3) := by decide +kernel
theorem dX12_offBy_49 : decode cX12_offBy 49 = .ok (.iload_n 3, 1) := by decide +kernel
theorem dX12_offBy_50 : decode cX12_offBy 50 = .ok (.bipush 64, 2) := by decide +kernel
theorem dX12_offBy_52 : decode cX12_offBy 52 = .ok (.aload_n 0, 1) := by decide +kernel
theorem dX12_offBy_53 : decode cX12_offBy 53 = .ok (.invokevirtual 155, 3) := by decide +kernel
theorem dX12_offBy_56 : decode cX12_offBy 56 = .ok (.imul, 1) := by decide +kernel
theorem dX12_offBy_57 : decode cX12_offBy 57 = .ok (.isub, 1) := by decide +kernel
theorem dX12_offBy_58 : decode cX12_offBy 58 = .ok (.ireturn, 1) := by decide +kernel
theorem dX12_isNearer_0 : decode cX12_isNearer 0 = .ok (.iload_n 0, 1) := by decide +kernel
theorem dX12_isNearer_1 : decode cX12_isNearer 1 = .ok (.invokestatic 188, 3) := by decide +kernel
theorem dX12_isNearer_4 : decode cX12_isNearer 4 = .ok (.iload_n 2, 1) := by decide +kernel
theorem dX12_isNearer_5 : decode cX12_isNearer 5 = .ok (.invokestatic 188, 3) := by decide +kernel
theorem dX12_isNearer_8 : decode cX12_isNearer 8 = .ok (.if_icmp .eq 20, 3) := by decide +kernel
theorem dX12_isNearer_11 : decode cX12_isNearer 11 = .ok (.iload_n 0, 1) := by decide +kernel
theorem dX12_isNearer_12 : decode cX12_isNearer 12 = .ok (.invokestatic 188, 3) := by decide +kernel
theorem dX12_isNearer_15 : decode cX12_isNearer 15 = .ok (.iload_n 2, 1) := by decide +kernel
theorem dX12_isNearer_16 : decode cX12_isNearer 16 = .ok (.invokestatic 188, 3) := by decide +kernel
theorem dX12_isNearer_19 : decode cX12_isNearer 19 = .ok (.if_icmp .ge 7, 3) := by decide +kernel
theorem dX12_isNearer_22 : decode cX12_isNearer 22 = .ok (.iconst 1, 1) := by decide +kernel
theorem dX12_isNearer_23 : decode cX12_isNearer 23 = .ok (.goto 4, 3) := by decide +kernel
theorem dX12_isNearer_26 : decode cX12_isNearer 26 = .ok (.iconst 0, 1) := by decide +kernel
theorem dX12_isNearer_27 : decode cX12_isNearer 27 = .ok (.ireturn, 1) := by decide +kernel
theorem dX12_isNearer_28 : decode cX12_isNearer 28 = .ok (.iload_n 1, 1) := by decide +kernel
theorem dX12_isNearer_29 : decode cX12_isNearer 29 = .ok (.invokestatic 188, 3) := by decide +kernel
theorem dX12_isNearer_32 : decode cX12_isNearer 32 = .ok (.iload_n 3, 1) := by decide +kernel
theorem dX12_isNearer_33 : decode cX12_isNearer 33 = .ok (.invokestatic 188, 3) := by decide +kernel
theorem dX12_isNearer_36 : decode cX12_isNearer 36 = .ok (.if_icmp .eq 22, 3) := by decide +kernel
theorem dX12_isNearer_39 : decode cX12_isNearer 39 = .ok (.iload_n 1, 1) := by decide +kernel
theorem dX12_isNearer_40 : decode cX12_isNearer 40 = .ok (.invokestatic 188, 3) := by decide +kernel
theorem dX12_isNearer_43 : decode cX12_isNearer 43 = .ok (.iload_n 3, 1) := by decide +kernel
theorem dX12_isNearer_44 : decode cX12_isNearer 44 = .ok (.invokestatic 188, 3) := by decide +kernel
theorem dX12_isNearer_47 : decode cX12_isNearer 47 = .ok (.if_icmp .ge 7, 3) := by decide +kernel
theorem dX12_isNearer_50 : decode cX12_isNearer 50 = .ok (.iconst 1, 1) := by decide +kernel
theorem dX12_isNearer_51 : decode cX12_isNearer 51 = .ok (.goto 17, 3) := by decide +kernel
theorem dX12_isNearer_54 : decode cX12_isNearer 54 = .ok (.iconst 0, 1) := by decide +kernel
theorem dX12_isNearer_55 : decode cX12_isNearer 55 = .ok (.goto 13, 3) := by decide +kernel
theorem dX12_isNearer_58 : decode cX12_isNearer 58 = .ok (.iload_n 1, 1) := by decide +kernel
theorem dX12_isNearer_59 : decode cX12_isNearer 59 = .ok (.iload_n 3, 1) := by decide +kernel
theorem dX12_isNearer_60 : decode cX12_isNearer 60 = .ok (.if_icmp .ge 7, 3) := by decide +kernel
theorem dX12_isNearer_63 : decode cX12_isNearer 63 = .ok (.iconst 1, 1) := by decide +kernel
theorem dX12_isNearer_64 : decode cX12_isNearer 64 = .ok (.goto 4, 3) := by decide +kernel
theorem dX12_isNearer_67 : decode cX12_isNearer 67 = .ok (.iconst 0, 1) := by decide +kernel
theorem dX12_isNearer_68 : decode cX12_isNearer 68 = .ok (.ireturn, 1) := by decide +kernel
set_option maxRecDepth 20000 in
theorem ggX12_trim_X12_in : GoodIn wsX12_trim wsX12_in := goodIn_r _ [5] (by decide +kernel) (by decide +kernel)
set_option maxRecDepth 20000 in
theorem gX12_trim_X12_in : GoodIn wsX12_trim (va_wsS RX12 101 yX12_in wsX12_in) := goodIn_app (goodIn_of _ (by decide +kernel)) ggX12_trim_X12_in
set_option maxRecDepth 20000 in
theorem ggX12_trim_X12_restOf : GoodIn wsX12_trim wsX12_restOf := goodIn_r _ [9, 10, 11, 12, 13, 14, 15, 16, 17, 18, 4, 19, 20, 21, 22, 23, 24, 25, 26, 27, 28, 29, 30, 31, 32, 33, 34, 35, 36, 37, 38, 39, 40, 41, 42, 43, 44, 45, 59, 60, 61, 62, 63, 64, 65, 66, 67, 68, 69, 70, 71, 72, 73, 74, 75, 76, 77, 78, 79, 80, 81, 82, 83, 84, 85, 86, 87, 88, 89, 90] (by decide +kernel) (by decide +kernel)
set_option maxRecDepth 20000 in
theorem gX12_trim_X12_restOf : GoodIn wsX12_trim (wsV RX12 194 RX12 yX12_restOf wsX12_restOf) := goodIn_app (goodIn_of _ (by decide +kernel)) ggX12_trim_X12_restOf
set_option maxRecDepth 20000 in
theorem ggX12_trim_X12_offBy : GoodIn wsX12_trim wsX12_offBy := goodIn_r _ [49, 11, 34, 35, 36, 4, 37, 10, 38, 39, 14, 40, 41, 42, 43, 44, 45, 50, 51, 52, 53, 20, 21, 54, 22, 55, 23, 24, 25, 26, 27, 28, 29, 59, 60, 61, 62, 63, 64, 65, 66, 67, 68, 69, 70, 71, 72, 73, 74, 75, 76, 77, 78, 79, 80, 81, 82, 83, 84, 85, 86, 87, 88, 89, 90] (by decide +kernel) (by decide +kernel)
set_option maxRecDepth 20000 in
theorem gX12_trim_X12_offBy : GoodIn wsX12_trim (wsV RX12 197 RX12 yX12_offBy wsX12_offBy) := goodIn_app (goodIn_of _ (by decide +kernel)) ggX12_trim_X12_offBy
set_option maxRecDepth 20000 in
theorem ggX12_trim_X12_isNearer : GoodIn wsX12_trim wsX12_isNearer := goodIn_r _ [58, 12, 13, 14, 15] (by decide +kernel) (by decide +kernel)
set_option maxRecDepth 20000 in
theorem gX12_trim_X12_isNearer : GoodIn wsX12_trim (va_wsS RX12 200 yX12_isNearer wsX12_isNearer) := goodIn_app (goodIn_of _ (by decide +kernel)) ggX12_trim_X12_isNearer
theorem dX12_trim_0 : decode cX12_trim 0 = .ok (.iload_n 1, 1) := by decide +kernel
theorem dX12_trim_1 : decode cX12_trim 1 = .ok (.iconst 0, 1) := by decide +kernel
theorem dX12_trim_2 : decode cX12_trim 2 = .ok (.iconst 2, 1) := by decide +kernel
theorem dX12_trim_3 : decode cX12_trim 3 = .ok (.invokestatic 101, 3) := by decide +kernel
theorem dX12_trim_6 : decode cX12_trim 6 = .ok (.ifCond .ne 6, 3) := by decide +kernel
theorem dX12_trim_9 : decode cX12_trim 9 = .ok (.ldc 124, 2) := by decide +kernel
theorem dX12_trim_11 : decode cX12_trim 11 = .ok (.ireturn, 1) := by decide +kernel
theorem dX12_trim_12 : decode cX12_trim 12 = .ok (.ldc 124, 2) := by decide +kernel
theorem dX12_trim_14 : decode cX12_trim 14 = .ok (.istore_n 2, 1) := by decide +kernel
theorem dX12_trim_15 : decode cX12_trim 15 = .ok (.iconst 0, 1) := by decide +kernel
theorem dX12_trim_16 : decode cX12_trim 16 = .ok (.istore_n 3, 1) := by decide +kernel
theorem dX12_trim_17 : decode cX12_trim 17 = .ok (.iconst 0, 1) := by decide +kernel
theorem dX12_trim_18 : decode cX12_trim 18 = .ok (.istore 4, 2) := by decide +kernel
theorem dX12_trim_20 : decode cX12_trim 20 = .ok (.bipush (-20), 2) := by decide +kernel
theorem dX12_trim_22 : decode cX12_trim 22 = .ok (.istore 5, 2) := by decide +kernel
theorem dX12_trim_24 : decode cX12_trim 24 = .ok (.iload 5, 2) := by decide +kernel
theorem dX12_trim_26 : decode cX12_trim 26 = .ok (.bipush 20, 2) := by decide +kernel
theorem dX12_trim_28 : decode cX12_trim 28 = .ok (.if_icmp .gt 69, 3) := by decide +kernel
theorem dX12_trim_31 : decode cX12_trim 31 = .ok (.aload_n 0, 1) := by decide +kernel
theorem dX12_trim_32 : decode cX12_trim 32 = .ok (.iload 5, 2) := by decide +kernel
theorem dX12_trim_34 : decode cX12_trim 34 = .ok (.invokevirtual 194, 3) := by decide +kernel
theorem dX12_trim_37 : decode cX12_trim 37 = .ok (.istore 6, 2) := by decide +kernel
theorem dX12_trim_39 : decode cX12_trim 39 = .ok (.iload 6, 2) := by decide +kernel
theorem dX12_trim_41 : decode cX12_trim 41 = .ok (.bipush (-2), 2) := by decide +kernel
theorem dX12_trim_43 : decode cX12_trim 43 = .ok (.if_icmp .ne 6, 3) := by decide +kernel
theorem dX12_trim_46 : decode cX12_trim 46 = .ok (.goto 45, 3) := by decide +kernel
theorem dX12_trim_49 : decode cX12_trim 49 = .ok (.aload_n 0, 1) := by decide +kernel
theorem dX12_trim_50 : decode cX12_trim 50 = .ok (.iload 5, 2) := by decide +kernel
theorem dX12_trim_52 : decode cX12_trim 52 = .ok (.iload 6, 2) := by decide +kernel
theorem dX12_trim_54 : decode cX12_trim 54 = .ok (.invokevirtual 197, 3) := by decide +kernel
theorem dX12_trim_57 : decode cX12_trim 57 = .ok (.istore 7, 2) := by decide +kernel
theorem dX12_trim_59 : decode cX12_trim 59 = .ok (.iload_n 2, 1) := by decide +kernel
theorem dX12_trim_60 : decode cX12_trim 60 = .ok (.ldc 124, 2) := by decide +kernel
theorem dX12_trim_62 : decode cX12_trim 62 = .ok (.if_icmp .eq 19, 3) := by decide +kernel
theorem dX12_trim_65 : decode cX12_trim 65 = .ok (.iload 7, 2) := by decide +kernel
theorem dX12_trim_67 : decode cX12_trim 67 = .ok (.iload 5, 2) := by decide +kernel
theorem dX12_trim_69 : decode cX12_trim 69 = .ok (.iload 4, 2) := by decide +kernel
theorem dX12_trim_71 : decode cX12_trim 71 = .ok (.iload_n 2, 1) := by decide +kernel
theorem dX12_trim_72 : decode cX12_trim 72 = .ok (.invokestatic 200, 3) := by decide +kernel
theorem dX12_trim_75 : decode cX12_trim 75 = .ok (.ifCond .ne 6, 3) := by decide +kernel
theorem dX12_trim_78 : decode cX12_trim 78 = .ok (.goto 13, 3) := by decide +kernel
theorem dX12_trim_81 : decode cX12_trim 81 = .ok (.iload 5, 2) := by decide +kernel
theorem dX12_trim_83 : decode cX12_trim 83 = .ok (.istore_n 2, 1) := by decide +kernel
theorem dX12_trim_84 : decode cX12_trim 84 = .ok (.iload 6, 2) := by decide +kernel
theorem dX12_trim_86 : decode cX12_trim 86 = .ok (.istore_n 3, 1) := by decide +kernel
theorem dX12_trim_87 : decode cX12_trim 87 = .ok (.iload 7, 2) := by decide +kernel
theorem dX12_trim_89 : decode cX12_trim 89 = .ok (.istore 4, 2) := by decide +kernel
theorem dX12_trim_91 : decode cX12_trim 91 = .ok (.iinc 5 1, 3) := by decide +kernel
theorem dX12_trim_94 : decode cX12_trim 94 = .ok (.goto (-70), 3) := by decide +kernel
theorem dX12_trim_97 : decode cX12_trim 97 = .ok (.iload_n 2, 1) := by decide +kernel
theorem dX12_trim_98 : decode cX12_trim 98 = .ok (.ldc 124, 2) := by decide +kernel
theorem dX12_trim_100 : decode cX12_trim 100 = .ok (.if_icmp .eq 7, 3) := by decide +kernel
theorem dX12_trim_103 : decode cX12_trim 103 = .ok (.iload_n 1, 1) := by decide +kernel
theorem dX12_trim_104 : decode cX12_trim 104 = .ok (.ifCond .ne 7, 3) := by decide +kernel
theorem dX12_trim_107 : decode cX12_trim 107 = .ok (.iload_n 2, 1) := by decide +kernel
theorem dX12_trim_108 : decode cX12_trim 108 = .ok (.goto 14, 3) := by decide +kernel
theorem dX12_trim_111 : decode cX12_trim 111 = .ok (.iload_n 1, 1) := by decide +kernel
theorem dX12_trim_112 : decode cX12_trim 112 = .ok (.iconst 1, 1) := by decide +kernel
theorem dX12_trim_113 : decode cX12_trim 113 = .ok (.if_icmp .ne 7, 3) := by decide +kernel
theorem dX12_trim_116 : decode cX12_trim 116 = .ok (.iload_n 3, 1) := by decide +kernel
theorem dX12_trim_117 : decode cX12_trim 117 = .ok (.goto 5, 3) := by decide +kernel
theorem dX12_trim_120 : decode cX12_trim 120 = .ok (.iload 4, 2) := by decide +kernel
theorem dX12_trim_122 : decode cX12_trim 122 = .ok (.ireturn, 1) := by decide +kernel
set_option maxRecDepth 20000 in
theorem ggX12_off_X12_in : GoodIn wsX12_off wsX12_in := goodIn_r _ [5] (by decide +kernel) (by decide +kernel)
set_option maxRecDepth 20000 in
theorem gX12_off_X12_in : GoodIn wsX12_off (va_wsS RX12 101 yX12_in wsX12_in) := goodIn_app (goodIn_of _ (by decide +kernel)) ggX12_off_X12_in
set_option maxRecDepth 20000 in
theorem ggX12_off_X12_restOf : GoodIn wsX12_off wsX12_restOf := goodIn_r _ [9, 10, 11, 12, 13, 14, 15, 16, 17, 18, 4, 19, 20, 21, 22, 23, 24, 25, 26, 27, 28, 29, 30, 31, 32, 33, 34, 35, 36, 37, 38, 39, 40, 41, 42, 43, 44, 45, 56, 57, 58, 59, 60, 61, 62, 63, 64, 65, 66, 67, 68, 69, 70, 71, 72, 73, 74, 75, 76, 77, 78, 79, 80, 81, 82, 83, 84, 85, 86, 87] (by decide +kernel) (by decide +kernel)
set_option maxRecDepth 20000 in
theorem gX12_off_X12_restOf : GoodIn wsX12_off (wsV RX12 194 RX12 yX12_restOf wsX12_restOf) := goodIn_app (goodIn_of _ (by decide +kernel)) ggX12_off_X12_restOf
set_option maxRecDepth 20000 in
theorem ggX12_off_X12_offBy : GoodIn wsX12_off wsX12_offBy := goodIn_r _ [49, 11, 34, 35, 36, 4, 37, 10, 38, 39, 14, 40, 41, 42, 43, 44, 45, 50, 51, 52, 53, 20, 21, 54, 22, 55, 23, 24, 25, 26, 27, 28, 29, 56, 57, 58, 59, 60, 61, 62, 63, 64, 65, 66, 67, 68, 69, 70, 71, 72, 73, 74, 75, 76, 77, 78, 79, 80, 81, 82, 83, 84, 85, 86, 87] (by decide +kernel) (by decide +kernel)
set_option maxRecDepth 20000 in
theorem gX12_off_X12_offBy : GoodIn wsX12_off (wsV RX12 197 RX12 yX12_offBy wsX12_offBy) := goodIn_app (goodIn_of _ (by decide +kernel)) ggX12_off_X12_offBy
theorem dX12_off_0 : decode cX12_off 0 = .ok (.iload_n 1, 1) := by decide +kernel
theorem dX12_off_1 : decode cX12_off 1 = .ok (.bipush (-20), 2) := by decide +kernel
theorem dX12_off_3 : decode cX12_off 3 = .ok (.bipush 20, 2) := by decide +kernel
theorem dX12_off_5 : decode cX12_off 5 = .ok (.invokestatic 101, 3) := by decide +kernel
theorem dX12_off_8 : decode cX12_off 8 = .ok (.ifCond .ne 6, 3) := by decide +kernel
theorem dX12_off_11 : decode cX12_off 11 = .ok (.ldc 124, 2) := by decide +kernel
theorem dX12_off_13 : decode cX12_off 13 = .ok (.ireturn, 1) := by decide +kernel
theorem dX12_off_14 : decode cX12_off 14 = .ok (.aload_n 0, 1) := by decide +kernel
theorem dX12_off_15 : decode cX12_off 15 = .ok (.iload_n 1, 1) := by decide +kernel
theorem dX12_off_16 : decode cX12_off 16 = .ok (.invokevirtual 194, 3) := by decide +kernel
theorem dX12_off_19 : decode cX12_off 19 = .ok (.istore_n 2, 1) := by decide +kernel
theorem dX12_off_20 : decode cX12_off 20 = .ok (.iload_n 2, 1) := by decide +kernel
theorem dX12_off_21 : decode cX12_off 21 = .ok (.bipush (-2), 2) := by decide +kernel
theorem dX12_off_23 : decode cX12_off 23 = .ok (.if_icmp .ne 8, 3) := by decide +kernel
theorem dX12_off_26 : decode cX12_off 26 = .ok (.ldc 124, 2) := by decide +kernel
theorem dX12_off_28 : decode cX12_off 28 = .ok (.goto 9, 3) := by decide +kernel
theorem dX12_off_31 : decode cX12_off 31 = .ok (.aload_n 0, 1) := by decide +kernel
theorem dX12_off_32 : decode cX12_off 32 = .ok (.iload_n 1, 1) := by decide +kernel
theorem dX12_off_33 : decode cX12_off 33 = .ok (.iload_n 2, 1) := by decide +kernel
theorem dX12_off_34 : decode cX12_off 34 = .ok (.invokevirtual 197, 3) := by decide +kernel
theorem dX12_off_37 : decode cX12_off 37 = .ok (.ireturn, 1) := by decide +kernel
theorem dX12_cube_0 : decode cX12_cube 0 = .ok (.iload_n 0, 1) := by decide +kernel
theorem dX12_cube_1 : decode cX12_cube 1 = .ok (.iload_n 0, 1) := by decide +kernel
theorem dX12_cube_2 : decode cX12_cube 2 = .ok (.imul, 1) := by decide +kernel
theorem dX12_cube_3 : decode cX12_cube 3 = .ok (.iload_n 0, 1) := by decide +kernel
theorem dX12_cube_4 : decode cX12_cube 4 = .ok (.imul, 1) := by decide +kernel
theorem dX12_cube_5 : decode cX12_cube 5 = .ok (.bipush 12, 2) := by decide +kernel
theorem dX12_cube_7 : decode cX12_cube 7 = .ok (.idiv, 1) := by decide +kernel
theorem dX12_cube_8 : decode cX12_cube 8 = .ok (.ireturn, 1) := by decide +kernel
set_option maxRecDepth 20000 in
theorem ggX12_righting_X12_line : GoodIn wsX12_righting wsX12_line := goodIn_r _ [8, 9, 10, 11, 7, 12, 13, 14, 15, 16, 17, 18, 19, 20, 21, 22, 23, 24, 25, 26, 27, 28, 29, 30, 31, 1, 32, 33, 34, 35, 36, 37, 38, 39, 40, 41, 42, 2, 43, 57, 58, 59, 60, 61, 62, 63, 64, 65, 66, 67, 68, 69, 70, 71, 72, 73, 74, 75, 76, 77, 78, 79, 80, 81, 82, 83, 84, 85, 86, 87, 88] (by decide +kernel) (by decide +kernel)
set_option maxRecDepth 20000 in
theorem gX12_righting_X12_line : GoodIn wsX12_righting (wsV RX12 164 RX12 yX12_line wsX12_line) := goodIn_app (goodIn_of _ (by decide +kernel)) ggX12_righting_X12_line
set_option maxRecDepth 20000 in
theorem ggX12_righting_X12_waterOf : GoodIn wsX12_righting wsX12_waterOf := goodIn_r _ [35, 27, 36, 37, 38, 39, 40, 41, 42, 2, 43, 57, 58, 59, 60, 61, 62, 63, 64, 65, 66, 67, 68, 69, 70, 71, 72, 73, 74, 75, 76, 77, 78, 79, 80, 81, 82, 83, 84, 85, 86, 87, 88] (by decide +kernel) (by decide +kernel)
set_option maxRecDepth 20000 in
theorem gX12_righting_X12_waterOf : GoodIn wsX12_righting (wsV RX12 179 RX12 yX12_waterOf wsX12_waterOf) := goodIn_app (goodIn_of _ (by decide +kernel)) ggX12_righting_X12_waterOf
set_option maxRecDepth 20000 in
theorem ggX12_righting_X12_cube : GoodIn wsX12_righting wsX12_cube := goodIn_r _ [46] (by decide +kernel) (by decide +kernel)
set_option maxRecDepth 20000 in
theorem gX12_righting_X12_cube : GoodIn wsX12_righting (va_wsS RX12 204 yX12_cube wsX12_cube) := goodIn_app (goodIn_of _ (by decide +kernel)) ggX12_righting_X12_cube
set_option maxRecDepth 20000 in
theorem ggX12_righting_X12_isSlack : GoodIn wsX12_righting wsX12_isSlack := goodIn_r _ [50, 3, 15, 51, 57, 58, 59, 60, 61, 62, 63, 64, 65, 66, 67, 68, 69, 70, 71, 72, 73, 74, 75, 76, 77, 78, 79, 80, 81, 82, 83, 84, 85, 86, 87, 88] (by decide +kernel) (by decide +kernel)
set_option maxRecDepth 20000 in
theorem gX12_righting_X12_isSlack : GoodIn wsX12_righting (wsV RX12 144 RX12 yX12_isSlack wsX12_isSlack) := goodIn_app (goodIn_of _ (by decide +kernel)) ggX12_righting_X12_isSlack
set_option maxRecDepth 20000 in
theorem ggX12_righting_X12_aloft : GoodIn wsX12_righting wsX12_aloft := goodIn_r _ [55, 14, 56, 15, 16, 17, 18, 7, 19, 20, 21, 22, 57, 58, 59, 60, 61, 62, 63, 64, 65, 66, 67, 68, 69, 70, 71, 72, 73, 74, 75, 76, 77, 78, 79, 80, 81, 82, 83, 84, 85, 86, 87, 88] (by decide +kernel) (by decide +kernel)
set_option maxRecDepth 20000 in
theorem gX12_righting_X12_aloft : GoodIn wsX12_righting (wsV RX12 161 RX12 yX12_aloft wsX12_aloft) := goodIn_app (goodIn_of _ (by decide +kernel)) ggX12_righting_X12_aloft
theorem dX12_righting_0 : decode cX12_righting 0 = .ok (.aload_n 0, 1) := by decide +kernel
theorem dX12_righting_1 : decode cX12_righting 1 = .ok (.invokevirtual 164, 3) := by decide +kernel
theorem dX12_righting_4 : decode cX12_righting 4 = .ok (.istore_n 1, 1) := by decide +kernel
theorem dX12_righting_5 : decode cX12_righting 5 = .ok (.iconst 0, 1) := by decide +kernel
theorem dX12_righting_6 : decode cX12_righting 6 = .ok (.istore_n 2, 1) := by decide +kernel
theorem dX12_righting_7 : decode cX12_righting 7 = .ok (.iconst 0, 1) := by decide +kernel
theorem dX12_righting_8 : decode cX12_righting 8 = .ok (.istore_n 3, 1) := by decide +kernel
theorem dX12_righting_9 : decode cX12_righting 9 = .ok (.iload_n 3, 1) := by decide +kernel
theorem dX12_righting_10 : decode cX12_righting 10 = .ok (.aload_n 0, 1) := by decide +kernel
theorem dX12_righting_11 : decode cX12_righting 11 = .ok (.getfield 9, 3) := by decide +kernel
theorem dX12_righting_14 : decode cX12_righting 14 = .ok (.if_icmp .ge 30, 3) := by decide +kernel
theorem dX12_righting_17 : decode cX12_righting 17 = .ok (.aload_n 0, 1) := by decide +kernel
theorem dX12_righting_18 : decode cX12_righting 18 = .ok (.iload_n 3, 1) := by decide +kernel
theorem dX12_righting_19 : decode cX12_righting 19 = .ok (.iload_n 1, 1) := by decide +kernel
theorem dX12_righting_20 : decode cX12_righting 20 = .ok (.invokevirtual 179, 3) := by decide +kernel
theorem dX12_righting_23 : decode cX12_righting 23 = .ok (.ifCond .le 15, 3) := by decide +kernel
theorem dX12_righting_26 : decode cX12_righting 26 = .ok (.iload_n 2, 1) := by decide +kernel
theorem dX12_righting_27 : decode cX12_righting 27 = .ok (.aload_n 0, 1) := by decide +kernel
theorem dX12_righting_28 : decode cX12_righting 28 = .ok (.getfield 21, 3) := by decide +kernel
theorem dX12_righting_31 : decode cX12_righting 31 = .ok (.iload_n 3, 1) := by decide +kernel
theorem dX12_righting_32 : decode cX12_righting 32 = .ok (.iaload, 1) := by decide +kernel
theorem dX12_righting_33 : decode cX12_righting 33 = .ok (.invokestatic 204, 3) := by decide +kernel
theorem dX12_righting_36 : decode cX12_righting 36 = .ok (.iadd, 1) := by decide +kernel
theorem dX12_righting_37 : decode cX12_righting 37 = .ok (.istore_n 2, 1) := by decide +kernel
theorem dX12_righting_38 : decode cX12_righting 38 = .ok (.iinc 3 1, 3) := by decide +kernel
theorem dX12_righting_41 : decode cX12_righting 41 = .ok (.goto (-32), 3) := by decide +kernel
theorem dX12_righting_44 : decode cX12_righting 44 = .ok (.iconst 0, 1) := by decide +kernel
theorem dX12_righting_45 : decode cX12_righting 45 = .ok (.istore_n 3, 1) := by decide +kernel
theorem dX12_righting_46 : decode cX12_righting 46 = .ok (.iload_n 3, 1) := by decide +kernel
theorem dX12_righting_47 : decode cX12_righting 47 = .ok (.iconst 4, 1) := by decide +kernel
theorem dX12_righting_48 : decode cX12_righting 48 = .ok (.if_icmp .ge 29, 3) := by decide +kernel
theorem dX12_righting_51 : decode cX12_righting 51 = .ok (.aload_n 0, 1) := by decide +kernel
theorem dX12_righting_52 : decode cX12_righting 52 = .ok (.iload_n 3, 1) := by decide +kernel
theorem dX12_righting_53 : decode cX12_righting 53 = .ok (.invokevirtual 144, 3) := by decide +kernel
theorem dX12_righting_56 : decode cX12_righting 56 = .ok (.ifCond .eq 15, 3) := by decide +kernel
theorem dX12_righting_59 : decode cX12_righting 59 = .ok (.iload_n 2, 1) := by decide +kernel
theorem dX12_righting_60 : decode cX12_righting 60 = .ok (.aload_n 0, 1) := by decide +kernel
theorem dX12_righting_61 : decode cX12_righting 61 = .ok (.getfield 49, 3) := by decide +kernel
theorem dX12_righting_64 : decode cX12_righting 64 = .ok (.iload_n 3, 1) := by decide +kernel
theorem dX12_righting_65 : decode cX12_righting 65 = .ok (.iaload, 1) := by decide +kernel
theorem dX12_righting_66 : decode cX12_righting 66 = .ok (.invokestatic 204, 3) := by decide +kernel
theorem dX12_righting_69 : decode cX12_righting 69 = .ok (.isub, 1) := by decide +kernel
theorem dX12_righting_70 : decode cX12_righting 70 = .ok (.istore_n 2, 1) := by decide +kernel
theorem dX12_righting_71 : decode cX12_righting 71 = .ok (.iinc 3 1, 3) := by decide +kernel
theorem dX12_righting_74 : decode cX12_righting 74 = .ok (.goto (-28), 3) := by decide +kernel
theorem dX12_righting_77 : decode cX12_righting 77 = .ok (.iload_n 2, 1) := by decide +kernel
theorem dX12_righting_78 : decode cX12_righting 78 = .ok (.aload_n 0, 1) := by decide +kernel
theorem dX12_righting_79 : decode cX12_righting 79 = .ok (.invokevirtual 161, 3) := by decide +kernel
theorem dX12_righting_82 : decode cX12_righting 82 = .ok (.bipush 16, 2) := by decide +kernel
theorem dX12_righting_84 : decode cX12_righting 84 = .ok (.idiv, 1) := by decide +kernel
theorem dX12_righting_85 : decode cX12_righting 85 = .ok (.isub, 1) := by decide +kernel
theorem dX12_righting_86 : decode cX12_righting 86 = .ok (.ireturn, 1) := by decide +kernel
set_option maxRecDepth 20000 in
theorem ggX12_isUpright_X12_line : GoodIn wsX12_isUpright wsX12_line := goodIn_r _ [5, 6, 7, 8, 4, 9, 10, 11, 12, 13, 14, 15, 16, 17, 18, 19, 20, 21, 22, 23, 24, 25, 26, 27, 28, 29, 30, 31, 32, 33, 34, 35, 36, 37, 38, 39, 40, 41, 42, 61, 62, 63, 64, 65, 66, 67, 68, 69, 70, 71, 72, 73, 74, 75, 76, 77, 78, 79, 80, 81, 82, 83, 84, 85, 86, 87, 88, 89, 90, 91, 92] (by decide +kernel) (by decide +kernel)
set_option maxRecDepth 20000 in
theorem gX12_isUpright_X12_line : GoodIn wsX12_isUpright (wsV RX12 164 RX12 yX12_line wsX12_line) := goodIn_app (goodIn_of _ (by decide +kernel)) ggX12_isUpright_X12_line
set_option maxRecDepth 20000 in
theorem ggX12_isUpright_X12_righting : GoodIn wsX12_isUpright wsX12_righting := goodIn_r _ [46, 29, 41, 47, 1, 2, 3, 4, 5, 6, 7, 8, 9, 10, 11, 12, 13, 14, 15, 16, 17, 18, 19, 20, 21, 22, 23, 24, 25, 26, 27, 28, 30, 31, 32, 33, 34, 35, 36, 37, 38, 39, 40, 42, 48, 49, 50, 51, 52, 53, 54, 55, 56, 57, 58, 59, 60, 61, 62, 63, 64, 65, 66, 67, 68, 69, 70, 71, 72, 73, 74, 75, 76, 77, 78, 79, 80, 81, 82, 83, 84, 85, 86, 87, 88, 89, 90, 91, 92] (by decide +kernel) (by decide +kernel)
set_option maxRecDepth 20000 in
theorem gX12_isUpright_X12_righting : GoodIn wsX12_isUpright (wsV RX12 167 RX12 yX12_righting wsX12_righting) := goodIn_app (goodIn_of _ (by decide +kernel)) ggX12_isUpright_X12_righting
theorem dX12_isUpright_0 : decode cX12_isUpright 0 = .ok (.aload_n 0, 1) := by decide +kernel
theorem dX12_isUpright_1 : decode cX12_isUpright 1 = .ok (.invokevirtual 164, 3) := by decide +kernel
theorem dX12_isUpright_4 : decode cX12_isUpright 4 = .ok (.bipush (-2), 2) := by decide +kernel
theorem dX12_isUpright_6 : decode cX12_isUpright 6 = .ok (.if_icmp .eq 14, 3) := by decide +kernel
theorem dX12_isUpright_9 : decode cX12_isUpright 9 = .ok (.aload_n 0, 1) := by decide +kernel
theorem dX12_isUpright_10 : decode cX12_isUpright 10 = .ok (.invokevirtual 167, 3) := by decide +kernel
theorem dX12_isUpright_13 : decode cX12_isUpright 13 = .ok (.ifCond .le 7, 3) := by decide +kernel
theorem dX12_isUpright_16 : decode cX12_isUpright 16 = .ok (.iconst 1, 1) := by decide +kernel
theorem dX12_isUpright_17 : decode cX12_isUpright 17 = .ok (.goto 4, 3) := by decide +kernel
theorem dX12_isUpright_20 : decode cX12_isUpright 20 = .ok (.iconst 0, 1) := by decide +kernel
theorem dX12_isUpright_21 : decode cX12_isUpright 21 = .ok (.ireturn, 1) := by decide +kernel
set_option maxRecDepth 20000 in
theorem ggX12_heelNow_X12_aside : GoodIn wsX12_heelNow wsX12_aside := goodIn_r _ [5, 6, 7, 8, 9, 10, 4, 11, 12, 13, 14, 66, 67, 68, 69, 70, 71, 72, 73, 74, 75, 76, 77, 78, 79, 80, 81, 82, 83, 84, 85, 86, 87, 88, 89, 90, 91, 92, 93, 94, 95, 96, 97] (by decide +kernel) (by decide +kernel)
set_option maxRecDepth 20000 in
theorem gX12_heelNow_X12_aside : GoodIn wsX12_heelNow (wsV RX12 158 RX12 yX12_aside wsX12_aside) := goodIn_app (goodIn_of _ (by decide +kernel)) ggX12_heelNow_X12_aside
set_option maxRecDepth 20000 in
theorem ggX12_heelNow_X12_righting : GoodIn wsX12_heelNow wsX12_righting := goodIn_r _ [18, 19, 20, 21, 22, 23, 24, 4, 25, 26, 27, 28, 29, 30, 6, 31, 8, 9, 10, 11, 12, 13, 14, 32, 33, 34, 35, 36, 37, 38, 39, 40, 41, 42, 43, 44, 45, 46, 47, 48, 49, 50, 51, 52, 53, 54, 55, 56, 57, 58, 59, 60, 61, 62, 63, 64, 65, 66, 67, 68, 69, 70, 71, 72, 73, 74, 75, 76, 77, 78, 79, 80, 81, 82, 83, 84, 85, 86, 87, 88, 89, 90, 91, 92, 93, 94, 95, 96, 97] (by decide +kernel) (by decide +kernel)
set_option maxRecDepth 20000 in
theorem gX12_heelNow_X12_righting : GoodIn wsX12_heelNow (wsV RX12 167 RX12 yX12_righting wsX12_righting) := goodIn_app (goodIn_of _ (by decide +kernel)) ggX12_heelNow_X12_righting
theorem dX12_heelNow_0 : decode cX12_heelNow 0 = .ok (.bipush 64, 2) := by decide +kernel
theorem dX12_heelNow_2 : decode cX12_heelNow 2 = .ok (.aload_n 0, 1) := by decide +kernel
theorem dX12_heelNow_3 : decode cX12_heelNow 3 = .ok (.invokevirtual 158, 3) := by decide +kernel
theorem dX12_heelNow_6 : decode cX12_heelNow 6 = .ok (.imul, 1) := by decide +kernel
theorem dX12_heelNow_7 : decode cX12_heelNow 7 = .ok (.aload_n 0, 1) := by decide +kernel
theorem dX12_heelNow_8 : decode cX12_heelNow 8 = .ok (.invokevirtual 167, 3) := by decide +kernel
theorem dX12_heelNow_11 : decode cX12_heelNow 11 = .ok (.idiv, 1) := by decide +kernel
theorem dX12_heelNow_12 : decode cX12_heelNow 12 = .ok (.ireturn, 1) := by decide +kernel
set_option maxRecDepth 20000 in
theorem ggX12_heelBehind_X12_weighs : GoodIn wsX12_heelBehind wsX12_weighs := goodIn_r _ [14, 15, 16, 17, 66, 67, 68, 69, 70, 71, 72, 73, 74, 75, 76, 77, 78, 79, 80, 81, 82, 83, 84, 85, 86, 87, 88, 89, 90, 91, 92, 93, 94, 95, 96, 97] (by decide +kernel) (by decide +kernel)
set_option maxRecDepth 20000 in
theorem gX12_heelBehind_X12_weighs : GoodIn wsX12_heelBehind (wsV RX12 121 RX12 yX12_weighs wsX12_weighs) := goodIn_app (goodIn_of _ (by decide +kernel)) ggX12_heelBehind_X12_weighs
set_option maxRecDepth 20000 in
theorem ggX12_heelBehind_X12_rolls : GoodIn wsX12_heelBehind wsX12_rolls := goodIn_r _ [21, 17, 66, 67, 68, 69, 70, 71, 72, 73, 74, 75, 76, 77, 78, 79, 80, 81, 82, 83, 84, 85, 86, 87, 88, 89, 90, 91, 92, 93, 94, 95, 96, 97] (by decide +kernel) (by decide +kernel)
set_option maxRecDepth 20000 in
theorem gX12_heelBehind_X12_rolls : GoodIn wsX12_heelBehind (wsV RX12 133 RX12 yX12_rolls wsX12_rolls) := goodIn_app (goodIn_of _ (by decide +kernel)) ggX12_heelBehind_X12_rolls
set_option maxRecDepth 20000 in
theorem ggX12_heelBehind_X12_righting : GoodIn wsX12_heelBehind wsX12_righting := goodIn_r _ [25, 26, 27, 28, 29, 30, 31, 13, 32, 33, 34, 35, 36, 37, 1, 38, 10, 11, 12, 14, 15, 16, 17, 39, 40, 41, 42, 43, 44, 45, 46, 47, 48, 49, 50, 51, 3, 4, 5, 6, 7, 8, 9, 52, 53, 54, 55, 56, 57, 58, 59, 60, 61, 62, 63, 64, 65, 66, 67, 68, 69, 70, 71, 72, 73, 74, 75, 76, 77, 78, 79, 80, 81, 82, 83, 84, 85, 86, 87, 88, 89, 90, 91, 92, 93, 94, 95, 96, 97] (by decide +kernel) (by decide +kernel)
set_option maxRecDepth 20000 in
theorem gX12_heelBehind_X12_righting : GoodIn wsX12_heelBehind (wsV RX12 167 RX12 yX12_righting wsX12_righting) := goodIn_app (goodIn_of _ (by decide +kernel)) ggX12_heelBehind_X12_righting
theorem dX12_heelBehind_0 : decode cX12_heelBehind 0 = .ok (.iconst 0, 1) := by decide +kernel
theorem dX12_heelBehind_1 : decode cX12_heelBehind 1 = .ok (.istore_n 2, 1) := by decide +kernel
theorem dX12_heelBehind_2 : decode cX12_heelBehind 2 = .ok (.iconst 0, 1) := by decide +kernel
theorem dX12_heelBehind_3 : decode cX12_heelBehind 3 = .ok (.istore_n 3, 1) := by decide +kernel
theorem dX12_heelBehind_4 : decode cX12_heelBehind 4 = .ok (.iload_n 3, 1) := by decide +kernel
theorem dX12_heelBehind_5 : decode cX12_heelBehind 5 = .ok (.aload_n 0, 1) := by decide +kernel
theorem dX12_heelBehind_6 : decode cX12_heelBehind 6 = .ok (.getfield 98, 3) := by decide +kernel
theorem dX12_heelBehind_9 : decode cX12_heelBehind 9 = .ok (.if_icmp .ge 41, 3) := by decide +kernel
theorem dX12_heelBehind_12 : decode cX12_heelBehind 12 = .ok (.iload_n 2, 1) := by decide +kernel
theorem dX12_heelBehind_13 : decode cX12_heelBehind 13 = .ok (.aload_n 0, 1) := by decide +kernel
theorem dX12_heelBehind_14 : decode cX12_heelBehind 14 = .ok (.iload_n 3, 1) := by decide +kernel
theorem dX12_heelBehind_15 : decode cX12_heelBehind 15 = .ok (.invokevirtual 121, 3) := by decide +kernel
theorem dX12_heelBehind_18 : decode cX12_heelBehind 18 = .ok (.bipush (-20), 2) := by decide +kernel
theorem dX12_heelBehind_20 : decode cX12_heelBehind 20 = .ok (.bipush 20, 2) := by decide +kernel
theorem dX12_heelBehind_22 : decode cX12_heelBehind 22 = .ok (.aload_n 0, 1) := by decide +kernel
theorem dX12_heelBehind_23 : decode cX12_heelBehind 23 = .ok (.getfield 40, 3) := by decide +kernel
theorem dX12_heelBehind_26 : decode cX12_heelBehind 26 = .ok (.iload_n 3, 1) := by decide +kernel
theorem dX12_heelBehind_27 : decode cX12_heelBehind 27 = .ok (.iaload, 1) := by decide +kernel
theorem dX12_heelBehind_28 : decode cX12_heelBehind 28 = .ok (.aload_n 0, 1) := by decide +kernel
theorem dX12_heelBehind_29 : decode cX12_heelBehind 29 = .ok (.iload_n 3, 1) := by decide +kernel
theorem dX12_heelBehind_30 : decode cX12_heelBehind 30 = .ok (.iload_n 1, 1) := by decide +kernel
theorem dX12_heelBehind_31 : decode cX12_heelBehind 31 = .ok (.invokevirtual 133, 3) := by decide +kernel
theorem dX12_heelBehind_34 : decode cX12_heelBehind 34 = .ok (.iadd, 1) := by decide +kernel
theorem dX12_heelBehind_35 : decode cX12_heelBehind 35 = .ok (.invokestatic 147, 3) := by decide +kernel
theorem dX12_heelBehind_38 : decode cX12_heelBehind 38 = .ok (.invokestatic 176, 3) := by decide +kernel
theorem dX12_heelBehind_41 : decode cX12_heelBehind 41 = .ok (.imul, 1) := by decide +kernel
theorem dX12_heelBehind_42 : decode cX12_heelBehind 42 = .ok (.iadd, 1) := by decide +kernel
theorem dX12_heelBehind_43 : decode cX12_heelBehind 43 = .ok (.istore_n 2, 1) := by decide +kernel
theorem dX12_heelBehind_44 : decode cX12_heelBehind 44 = .ok (.iinc 3 1, 3) := by decide +kernel
theorem dX12_heelBehind_47 : decode cX12_heelBehind 47 = .ok (.goto (-43), 3) := by decide +kernel
theorem dX12_heelBehind_50 : decode cX12_heelBehind 50 = .ok (.bipush 64, 2) := by decide +kernel
theorem dX12_heelBehind_52 : decode cX12_heelBehind 52 = .ok (.iload_n 2, 1) := by decide +kernel
theorem dX12_heelBehind_53 : decode cX12_heelBehind 53 = .ok (.imul, 1) := by decide +kernel
theorem dX12_heelBehind_54 : decode cX12_heelBehind 54 = .ok (.aload_n 0, 1) := by decide +kernel
theorem dX12_heelBehind_55 : decode cX12_heelBehind 55 = .ok (.invokevirtual 167, 3) := by decide +kernel
theorem dX12_heelBehind_58 : decode cX12_heelBehind 58 = .ok (.idiv, 1) := by decide +kernel
theorem dX12_heelBehind_59 : decode cX12_heelBehind 59 = .ok (.ireturn, 1) := by decide +kernel
set_option maxRecDepth 20000 in
theorem ggX12_heel_X12_in : GoodIn wsX12_heel wsX12_in := goodIn_r _ [5] (by decide +kernel) (by decide +kernel)
set_option maxRecDepth 20000 in
theorem gX12_heel_X12_in : GoodIn wsX12_heel (va_wsS RX12 101 yX12_in wsX12_in) := goodIn_app (goodIn_of _ (by decide +kernel)) ggX12_heel_X12_in
set_option maxRecDepth 20000 in
theorem ggX12_heel_X12_isUpright : GoodIn wsX12_heel wsX12_isUpright := goodIn_r _ [9, 10, 11, 12, 4, 13, 14, 15, 16, 17, 18, 19, 20, 21, 22, 23, 24, 25, 26, 27, 28, 29, 30, 31, 32, 33, 34, 35, 36, 37, 38, 39, 40, 41, 42, 43, 44, 45, 46, 47, 48, 49, 50, 51, 52, 53, 54, 55, 56, 57, 58, 59, 60, 61, 62, 63, 64, 65, 66, 67, 68, 86, 87, 88, 89, 90, 91, 92, 93, 94, 95, 96, 97, 98, 99, 100, 101, 102, 103, 104, 105, 106, 107, 108, 109, 110, 111, 112, 113, 114, 115, 116, 117] (by decide +kernel) (by decide +kernel)
set_option maxRecDepth 20000 in
theorem gX12_heel_X12_isUpright : GoodIn wsX12_heel (wsV RX12 125 RX12 yX12_isUpright wsX12_isUpright) := goodIn_app (goodIn_of _ (by decide +kernel)) ggX12_heel_X12_isUpright
set_option maxRecDepth 20000 in
theorem ggX12_heel_X12_heelNow : GoodIn wsX12_heel wsX12_heelNow := goodIn_r _ [72, 73, 74, 75, 4, 76, 19, 77, 21, 22, 23, 24, 25, 26, 27, 51, 52, 53, 54, 37, 49, 55, 10, 11, 12, 13, 14, 15, 16, 17, 18, 20, 28, 29, 30, 31, 32, 33, 34, 35, 36, 38, 39, 40, 41, 42, 43, 44, 45, 46, 47, 48, 50, 56, 57, 58, 59, 60, 61, 62, 63, 64, 65, 66, 67, 68, 86, 87, 88, 89, 90, 91, 92, 93, 94, 95, 96, 97, 98, 99, 100, 101, 102, 103, 104, 105, 106, 107, 108, 109, 110, 111, 112, 113, 114, 115, 116, 117] (by decide +kernel) (by decide +kernel)
set_option maxRecDepth 20000 in
theorem gX12_heel_X12_heelNow : GoodIn wsX12_heel (wsV RX12 129 RX12 yX12_heelNow wsX12_heelNow) := goodIn_app (goodIn_of _ (by decide +kernel)) ggX12_heel_X12_heelNow
set_option maxRecDepth 20000 in
theorem ggX12_heel_X12_heelBehind : GoodIn wsX12_heel wsX12_heelBehind := goodIn_r _ [81, 19, 77, 42, 43, 44, 45, 46, 47, 48, 21, 22, 23, 4, 24, 25, 26, 27, 82, 83, 84, 85, 51, 52, 53, 54, 37, 49, 55, 10, 11, 12, 13, 14, 15, 16, 17, 18, 20, 28, 29, 30, 31, 32, 33, 34, 35, 36, 38, 39, 40, 41, 50, 56, 57, 58, 59, 60, 61, 62, 63, 64, 65, 66, 67, 68, 86, 87, 88, 89, 90, 91, 92, 93, 94, 95, 96, 97, 98, 99, 100, 101, 102, 103, 104, 105, 106, 107, 108, 109, 110, 111, 112, 113, 114, 115, 116, 117] (by decide +kernel) (by decide +kernel)
set_option maxRecDepth 20000 in
theorem gX12_heel_X12_heelBehind : GoodIn wsX12_heel (wsV RX12 207 RX12 yX12_heelBehind wsX12_heelBehind) := goodIn_app (goodIn_of _ (by decide +kernel)) ggX12_heel_X12_heelBehind
theorem dX12_heel_0 : decode cX12_heel 0 = .ok (.iload_n 1, 1) := by decide +kernel
theorem dX12_heel_1 : decode cX12_heel 1 = .ok (.iconst 0, 1) := by decide +kernel
theorem dX12_heel_2 : decode cX12_heel 2 = .ok (.bipush 20, 2) := by decide +kernel
theorem dX12_heel_4 : decode cX12_heel 4 = .ok (.invokestatic 101, 3) := by decide +kernel
theorem dX12_heel_7 : decode cX12_heel 7 = .ok (.ifCond .eq 10, 3) := by decide +kernel
theorem dX12_heel_10 : decode cX12_heel 10 = .ok (.aload_n 0, 1) := by decide +kernel
theorem dX12_heel_11 : decode cX12_heel 11 = .ok (.invokevirtual 125, 3) := by decide +kernel
theorem dX12_heel_14 : decode cX12_heel 14 = .ok (.ifCond .ne 6, 3) := by decide +kernel
theorem dX12_heel_17 : decode cX12_heel 17 = .ok (.ldc 124, 2) := by decide +kernel
theorem dX12_heel_19 : decode cX12_heel 19 = .ok (.ireturn, 1) := by decide +kernel
theorem dX12_heel_20 : decode cX12_heel 20 = .ok (.aload_n 0, 1) := by decide +kernel
theorem dX12_heel_21 : decode cX12_heel 21 = .ok (.invokevirtual 129, 3) := by decide +kernel
theorem dX12_heel_24 : decode cX12_heel 24 = .ok (.istore_n 2, 1) := by decide +kernel
theorem dX12_heel_25 : decode cX12_heel 25 = .ok (.iconst 0, 1) := by decide +kernel
theorem dX12_heel_26 : decode cX12_heel 26 = .ok (.istore_n 3, 1) := by decide +kernel
theorem dX12_heel_27 : decode cX12_heel 27 = .ok (.iload_n 3, 1) := by decide +kernel
theorem dX12_heel_28 : decode cX12_heel 28 = .ok (.iload_n 1, 1) := by decide +kernel
theorem dX12_heel_29 : decode cX12_heel 29 = .ok (.if_icmp .ge 15, 3) := by decide +kernel
theorem dX12_heel_32 : decode cX12_heel 32 = .ok (.aload_n 0, 1) := by decide +kernel
theorem dX12_heel_33 : decode cX12_heel 33 = .ok (.iload_n 2, 1) := by decide +kernel
theorem dX12_heel_34 : decode cX12_heel 34 = .ok (.invokevirtual 207, 3) := by decide +kernel
theorem dX12_heel_37 : decode cX12_heel 37 = .ok (.istore_n 2, 1) := by decide +kernel
theorem dX12_heel_38 : decode cX12_heel 38 = .ok (.iinc 3 1, 3) := by decide +kernel
theorem dX12_heel_41 : decode cX12_heel 41 = .ok (.goto (-14), 3) := by decide +kernel
theorem dX12_heel_44 : decode cX12_heel 44 = .ok (.iload_n 2, 1) := by decide +kernel
theorem dX12_heel_45 : decode cX12_heel 45 = .ok (.ireturn, 1) := by decide +kernel
set_option maxRecDepth 20000 in
theorem ggX12_steady_X12_isUpright : GoodIn wsX12_steady wsX12_isUpright := goodIn_r _ [5, 6, 7, 8, 4, 9, 10, 11, 12, 13, 14, 15, 16, 17, 18, 19, 20, 21, 22, 23, 24, 25, 26, 27, 28, 29, 30, 31, 32, 33, 34, 35, 36, 37, 38, 39, 40, 41, 42, 43, 44, 45, 46, 47, 48, 49, 50, 51, 52, 53, 54, 55, 56, 57, 58, 59, 60, 61, 62, 63, 64, 82, 83, 84, 85, 86, 87, 88, 89, 90, 91, 92, 93, 94, 95, 96, 97, 98, 99, 100, 101, 102, 103, 104, 105, 106, 107, 108, 109, 110, 111, 112, 113] (by decide +kernel) (by decide +kernel)
set_option maxRecDepth 20000 in
theorem gX12_steady_X12_isUpright : GoodIn wsX12_steady (wsV RX12 125 RX12 yX12_isUpright wsX12_isUpright) := goodIn_app (goodIn_of _ (by decide +kernel)) ggX12_steady_X12_isUpright
set_option maxRecDepth 20000 in
theorem ggX12_steady_X12_heelNow : GoodIn wsX12_steady wsX12_heelNow := goodIn_r _ [68, 69, 70, 71, 4, 72, 15, 73, 17, 18, 19, 20, 21, 22, 23, 47, 48, 49, 50, 33, 45, 51, 6, 7, 8, 9, 10, 11, 12, 13, 14, 16, 24, 25, 26, 27, 28, 29, 30, 31, 32, 34, 35, 36, 37, 38, 39, 40, 41, 42, 43, 44, 46, 52, 53, 54, 55, 56, 57, 58, 59, 60, 61, 62, 63, 64, 82, 83, 84, 85, 86, 87, 88, 89, 90, 91, 92, 93, 94, 95, 96, 97, 98, 99, 100, 101, 102, 103, 104, 105, 106, 107, 108, 109, 110, 111, 112, 113] (by decide +kernel) (by decide +kernel)
set_option maxRecDepth 20000 in
theorem gX12_steady_X12_heelNow : GoodIn wsX12_steady (wsV RX12 129 RX12 yX12_heelNow wsX12_heelNow) := goodIn_app (goodIn_of _ (by decide +kernel)) ggX12_steady_X12_heelNow
set_option maxRecDepth 20000 in
theorem ggX12_steady_X12_heelBehind : GoodIn wsX12_steady wsX12_heelBehind := goodIn_r _ [77, 15, 73, 38, 39, 40, 41, 42, 43, 44, 17, 18, 19, 4, 20, 21, 22, 23, 78, 79, 80, 81, 47, 48, 49, 50, 33, 45, 51, 6, 7, 8, 9, 10, 11, 12, 13, 14, 16, 24, 25, 26, 27, 28, 29, 30, 31, 32, 34, 35, 36, 37, 46, 52, 53, 54, 55, 56, 57, 58, 59, 60, 61, 62, 63, 64, 82, 83, 84, 85, 86, 87, 88, 89, 90, 91, 92, 93, 94, 95, 96, 97, 98, 99, 100, 101, 102, 103, 104, 105, 106, 107, 108, 109, 110, 111, 112, 113] (by decide +kernel) (by decide +kernel)
set_option maxRecDepth 20000 in
theorem gX12_steady_X12_heelBehind : GoodIn wsX12_steady (wsV RX12 207 RX12 yX12_heelBehind wsX12_heelBehind) := goodIn_app (goodIn_of _ (by decide +kernel)) ggX12_steady_X12_heelBehind
theorem dX12_steady_0 : decode cX12_steady 0 = .ok (.aload_n 0, 1) := by decide +kernel
theorem dX12_steady_1 : decode cX12_steady 1 = .ok (.invokevirtual 125, 3) := by decide +kernel
theorem dX12_steady_4 : decode cX12_steady 4 = .ok (.ifCond .ne 6, 3) := by decide +kernel
theorem dX12_steady_7 : decode cX12_steady 7 = .ok (.bipush (-2), 2) := by decide +kernel
theorem dX12_steady_9 : decode cX12_steady 9 = .ok (.ireturn, 1) := by decide +kernel
theorem dX12_steady_10 : decode cX12_steady 10 = .ok (.aload_n 0, 1) := by decide +kernel
theorem dX12_steady_11 : decode cX12_steady 11 = .ok (.invokevirtual 129, 3) := by decide +kernel
theorem dX12_steady_14 : decode cX12_steady 14 = .ok (.istore_n 1, 1) := by decide +kernel
theorem dX12_steady_15 : decode cX12_steady 15 = .ok (.iconst 0, 1) := by decide +kernel
theorem dX12_steady_16 : decode cX12_steady 16 = .ok (.istore_n 2, 1) := by decide +kernel
theorem dX12_steady_17 : decode cX12_steady 17 = .ok (.iload_n 2, 1) := by decide +kernel
theorem dX12_steady_18 : decode cX12_steady 18 = .ok (.bipush 20, 2) := by decide +kernel
theorem dX12_steady_20 : decode cX12_steady 20 = .ok (.if_icmp .gt 24, 3) := by decide +kernel
theorem dX12_steady_23 : decode cX12_steady 23 = .ok (.aload_n 0, 1) := by decide +kernel
theorem dX12_steady_24 : decode cX12_steady 24 = .ok (.iload_n 1, 1) := by decide +kernel
theorem dX12_steady_25 : decode cX12_steady 25 = .ok (.invokevirtual 207, 3) := by decide +kernel
theorem dX12_steady_28 : decode cX12_steady 28 = .ok (.istore_n 3, 1) := by decide +kernel
theorem dX12_steady_29 : decode cX12_steady 29 = .ok (.iload_n 3, 1) := by decide +kernel
theorem dX12_steady_30 : decode cX12_steady 30 = .ok (.iload_n 1, 1) := by decide +kernel
theorem dX12_steady_31 : decode cX12_steady 31 = .ok (.if_icmp .ne 5, 3) := by decide +kernel
theorem dX12_steady_34 : decode cX12_steady 34 = .ok (.iload_n 2, 1) := by decide +kernel
theorem dX12_steady_35 : decode cX12_steady 35 = .ok (.ireturn, 1) := by decide +kernel
theorem dX12_steady_36 : decode cX12_steady 36 = .ok (.iload_n 3, 1) := by decide +kernel
theorem dX12_steady_37 : decode cX12_steady 37 = .ok (.istore_n 1, 1) := by decide +kernel
theorem dX12_steady_38 : decode cX12_steady 38 = .ok (.iinc 2 1, 3) := by decide +kernel
theorem dX12_steady_41 : decode cX12_steady 41 = .ok (.goto (-24), 3) := by decide +kernel
theorem dX12_steady_44 : decode cX12_steady 44 = .ok (.bipush (-2), 2) := by decide +kernel
theorem dX12_steady_46 : decode cX12_steady 46 = .ok (.ireturn, 1) := by decide +kernel
set_option maxRecDepth 20000 in
theorem ggX12_grounded_X12_in : GoodIn wsX12_grounded wsX12_in := goodIn_r _ [4] (by decide +kernel) (by decide +kernel)
set_option maxRecDepth 20000 in
theorem gX12_grounded_X12_in : GoodIn wsX12_grounded (va_wsS RX12 101 yX12_in wsX12_in) := goodIn_app (goodIn_of _ (by decide +kernel)) ggX12_grounded_X12_in
set_option maxRecDepth 20000 in
theorem ggX12_grounded_X12_line : GoodIn wsX12_grounded wsX12_line := goodIn_r _ [8, 9, 10, 11, 3, 12, 13, 14, 15, 16, 17, 18, 19, 20, 21, 22, 23, 24, 25, 26, 27, 28, 29, 30, 31, 32, 33, 34, 35, 36, 37, 38, 39, 40, 41, 42, 43, 44, 45, 50, 51, 52, 53, 54, 55, 56, 57, 58, 59, 60, 61, 62, 63, 64, 65, 66, 67, 68, 69, 70, 71, 72, 73, 74, 75, 76, 77, 78, 79, 80, 81] (by decide +kernel) (by decide +kernel)
set_option maxRecDepth 20000 in
theorem gX12_grounded_X12_line : GoodIn wsX12_grounded (wsV RX12 164 RX12 yX12_line wsX12_line) := goodIn_app (goodIn_of _ (by decide +kernel)) ggX12_grounded_X12_line
set_option maxRecDepth 20000 in
theorem ggX12_grounded_X12_leastRise : GoodIn wsX12_grounded wsX12_leastRise := goodIn_r _ [49, 45, 32, 37, 38, 39, 40, 50, 51, 52, 53, 54, 55, 56, 57, 58, 59, 60, 61, 62, 63, 64, 65, 66, 67, 68, 69, 70, 71, 72, 73, 74, 75, 76, 77, 78, 79, 80, 81] (by decide +kernel) (by decide +kernel)
set_option maxRecDepth 20000 in
theorem gX12_grounded_X12_leastRise : GoodIn wsX12_grounded (wsV RX12 173 RX12 yX12_leastRise wsX12_leastRise) := goodIn_app (goodIn_of _ (by decide +kernel)) ggX12_grounded_X12_leastRise
theorem dX12_grounded_0 : decode cX12_grounded 0 = .ok (.iload_n 1, 1) := by decide +kernel
theorem dX12_grounded_1 : decode cX12_grounded 1 = .ok (.iconst 0, 1) := by decide +kernel
theorem dX12_grounded_2 : decode cX12_grounded 2 = .ok (.sipush 9999, 3) := by decide +kernel
theorem dX12_grounded_5 : decode cX12_grounded 5 = .ok (.invokestatic 101, 3) := by decide +kernel
theorem dX12_grounded_8 : decode cX12_grounded 8 = .ok (.ifCond .ne 5, 3) := by decide +kernel
theorem dX12_grounded_11 : decode cX12_grounded 11 = .ok (.iconst (-1), 1) := by decide +kernel
theorem dX12_grounded_12 : decode cX12_grounded 12 = .ok (.ireturn, 1) := by decide +kernel
theorem dX12_grounded_13 : decode cX12_grounded 13 = .ok (.aload_n 0, 1) := by decide +kernel
theorem dX12_grounded_14 : decode cX12_grounded 14 = .ok (.invokevirtual 164, 3) := by decide +kernel
theorem dX12_grounded_17 : decode cX12_grounded 17 = .ok (.istore_n 2, 1) := by decide +kernel
theorem dX12_grounded_18 : decode cX12_grounded 18 = .ok (.iload_n 2, 1) := by decide +kernel
theorem dX12_grounded_19 : decode cX12_grounded 19 = .ok (.bipush (-2), 2) := by decide +kernel
theorem dX12_grounded_21 : decode cX12_grounded 21 = .ok (.if_icmp .ne 6, 3) := by decide +kernel
theorem dX12_grounded_24 : decode cX12_grounded 24 = .ok (.bipush (-5), 2) := by decide +kernel
theorem dX12_grounded_26 : decode cX12_grounded 26 = .ok (.ireturn, 1) := by decide +kernel
theorem dX12_grounded_27 : decode cX12_grounded 27 = .ok (.iload_n 2, 1) := by decide +kernel
theorem dX12_grounded_28 : decode cX12_grounded 28 = .ok (.bipush 64, 2) := by decide +kernel
theorem dX12_grounded_30 : decode cX12_grounded 30 = .ok (.aload_n 0, 1) := by decide +kernel
theorem dX12_grounded_31 : decode cX12_grounded 31 = .ok (.invokevirtual 173, 3) := by decide +kernel
theorem dX12_grounded_34 : decode cX12_grounded 34 = .ok (.imul, 1) := by decide +kernel
theorem dX12_grounded_35 : decode cX12_grounded 35 = .ok (.isub, 1) := by decide +kernel
theorem dX12_grounded_36 : decode cX12_grounded 36 = .ok (.iload_n 1, 1) := by decide +kernel
theorem dX12_grounded_37 : decode cX12_grounded 37 = .ok (.if_icmp .le 7, 3) := by decide +kernel
theorem dX12_grounded_40 : decode cX12_grounded 40 = .ok (.iconst 1, 1) := by decide +kernel
theorem dX12_grounded_41 : decode cX12_grounded 41 = .ok (.goto 4, 3) := by decide +kernel
theorem dX12_grounded_44 : decode cX12_grounded 44 = .ok (.iconst 0, 1) := by decide +kernel
theorem dX12_grounded_45 : decode cX12_grounded 45 = .ok (.ireturn, 1) := by decide +kernel
set_option maxRecDepth 20000 in
theorem ggX12_lighten_X12_in : GoodIn wsX12_lighten wsX12_in := goodIn_r _ [8] (by decide +kernel) (by decide +kernel)
set_option maxRecDepth 20000 in
theorem gX12_lighten_X12_in : GoodIn wsX12_lighten (va_wsS RX12 101 yX12_in wsX12_in) := goodIn_app (goodIn_of _ (by decide +kernel)) ggX12_lighten_X12_in
set_option maxRecDepth 20000 in
theorem ggX12_lighten_X12_allWeight : GoodIn wsX12_lighten wsX12_allWeight := goodIn_r _ [12, 13, 14, 15, 16, 17, 18, 7, 19, 20, 21, 22, 42, 43, 44, 45, 46, 47, 48, 49, 50, 51, 52, 53, 54, 55, 56, 57, 58, 59, 60, 61, 62, 63, 64, 65, 66, 67, 68, 69, 70, 71, 72, 73] (by decide +kernel) (by decide +kernel)
set_option maxRecDepth 20000 in
theorem gX12_lighten_X12_allWeight : GoodIn wsX12_lighten (wsV RX12 152 RX12 yX12_allWeight wsX12_allWeight) := goodIn_app (goodIn_of _ (by decide +kernel)) ggX12_lighten_X12_allWeight
set_option maxRecDepth 20000 in
theorem ggX12_lighten_X12_leastRise : GoodIn wsX12_lighten wsX12_leastRise := goodIn_r _ [26, 27, 28, 29, 30, 3, 31, 42, 43, 44, 45, 46, 47, 48, 49, 50, 51, 52, 53, 54, 55, 56, 57, 58, 59, 60, 61, 62, 63, 64, 65, 66, 67, 68, 69, 70, 71, 72, 73] (by decide +kernel) (by decide +kernel)
set_option maxRecDepth 20000 in
theorem gX12_lighten_X12_leastRise : GoodIn wsX12_lighten (wsV RX12 173 RX12 yX12_leastRise wsX12_leastRise) := goodIn_app (goodIn_of _ (by decide +kernel)) ggX12_lighten_X12_leastRise
set_option maxRecDepth 20000 in
theorem ggX12_lighten_X12_waterOfAll : GoodIn wsX12_lighten wsX12_waterOfAll := goodIn_r _ [35, 28, 36, 37, 38, 7, 39, 40, 29, 30, 3, 31, 1, 2, 4, 41, 27, 42, 43, 44, 45, 46, 47, 48, 49, 50, 51, 52, 53, 54, 55, 56, 57, 58, 59, 60, 61, 62, 63, 64, 65, 66, 67, 68, 69, 70, 71, 72, 73] (by decide +kernel) (by decide +kernel)
set_option maxRecDepth 20000 in
theorem gX12_lighten_X12_waterOfAll : GoodIn wsX12_lighten (wsV RX12 182 RX12 yX12_waterOfAll wsX12_waterOfAll) := goodIn_app (goodIn_of _ (by decide +kernel)) ggX12_lighten_X12_waterOfAll
