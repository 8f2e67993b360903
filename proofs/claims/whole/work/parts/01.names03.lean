theorem dX7_find_20 : decode cX7_find 20 = .ok (.istore 4, 2) := by decide +kernel
theorem dX7_find_22 : decode cX7_find 22 = .ok (.iconst 0, 1) := by decide +kernel
theorem dX7_find_23 : decode cX7_find 23 = .ok (.istore 5, 2) := by decide +kernel
theorem dX7_find_25 : decode cX7_find 25 = .ok (.iload 5, 2) := by decide +kernel
theorem dX7_find_27 : decode cX7_find 27 = .ok (.aload_n 1, 1) := by decide +kernel
theorem dX7_find_28 : decode cX7_find 28 = .ok (.getfield 30, 3) := by decide +kernel
theorem dX7_find_31 : decode cX7_find 31 = .ok (.getfield 34, 3) := by decide +kernel
theorem dX7_find_34 : decode cX7_find 34 = .ok (.if_icmp .ge 76, 3) := by decide +kernel
theorem dX7_find_37 : decode cX7_find 37 = .ok (.iload 5, 2) := by decide +kernel
theorem dX7_find_39 : decode cX7_find 39 = .ok (.iconst 1, 1) := by decide +kernel
theorem dX7_find_40 : decode cX7_find 40 = .ok (.iadd, 1) := by decide +kernel
theorem dX7_find_41 : decode cX7_find 41 = .ok (.istore 6, 2) := by decide +kernel
theorem dX7_find_43 : decode cX7_find 43 = .ok (.iload 6, 2) := by decide +kernel
theorem dX7_find_45 : decode cX7_find 45 = .ok (.aload_n 1, 1) := by decide +kernel
theorem dX7_find_46 : decode cX7_find 46 = .ok (.getfield 30, 3) := by decide +kernel
theorem dX7_find_49 : decode cX7_find 49 = .ok (.getfield 34, 3) := by decide +kernel
theorem dX7_find_52 : decode cX7_find 52 = .ok (.if_icmp .ge 52, 3) := by decide +kernel
theorem dX7_find_55 : decode cX7_find 55 = .ok (.iload_n 2, 1) := by decide +kernel
theorem dX7_find_56 : decode cX7_find 56 = .ok (.bipush 64, 2) := by decide +kernel
theorem dX7_find_58 : decode cX7_find 58 = .ok (.aload_n 0, 1) := by decide +kernel
theorem dX7_find_59 : decode cX7_find 59 = .ok (.aload_n 1, 1) := by decide +kernel
theorem dX7_find_60 : decode cX7_find 60 = .ok (.iload 5, 2) := by decide +kernel
theorem dX7_find_62 : decode cX7_find 62 = .ok (.iload 6, 2) := by decide +kernel
theorem dX7_find_64 : decode cX7_find 64 = .ok (.invokevirtual 39, 3) := by decide +kernel
theorem dX7_find_67 : decode cX7_find 67 = .ok (.imul, 1) := by decide +kernel
theorem dX7_find_68 : decode cX7_find 68 = .ok (.isub, 1) := by decide +kernel
theorem dX7_find_69 : decode cX7_find 69 = .ok (.invokestatic 25, 3) := by decide +kernel
theorem dX7_find_72 : decode cX7_find 72 = .ok (.istore 7, 2) := by decide +kernel
theorem dX7_find_74 : decode cX7_find 74 = .ok (.iload 7, 2) := by decide +kernel
theorem dX7_find_76 : decode cX7_find 76 = .ok (.iload_n 3, 1) := by decide +kernel
theorem dX7_find_77 : decode cX7_find 77 = .ok (.if_icmp .ge 21, 3) := by decide +kernel
theorem dX7_find_80 : decode cX7_find 80 = .ok (.iload 7, 2) := by decide +kernel
theorem dX7_find_82 : decode cX7_find 82 = .ok (.istore_n 3, 1) := by decide +kernel
theorem dX7_find_83 : decode cX7_find 83 = .ok (.aload_n 0, 1) := by decide +kernel
theorem dX7_find_84 : decode cX7_find 84 = .ok (.iload 5, 2) := by decide +kernel
theorem dX7_find_86 : decode cX7_find 86 = .ok (.putfield 9, 3) := by decide +kernel
theorem dX7_find_89 : decode cX7_find 89 = .ok (.aload_n 0, 1) := by decide +kernel
theorem dX7_find_90 : decode cX7_find 90 = .ok (.iload 6, 2) := by decide +kernel
theorem dX7_find_92 : decode cX7_find 92 = .ok (.putfield 15, 3) := by decide +kernel
theorem dX7_find_95 : decode cX7_find 95 = .ok (.iconst 1, 1) := by decide +kernel
theorem dX7_find_96 : decode cX7_find 96 = .ok (.istore 4, 2) := by decide +kernel
theorem dX7_find_98 : decode cX7_find 98 = .ok (.iinc 6 1, 3) := by decide +kernel
theorem dX7_find_101 : decode cX7_find 101 = .ok (.goto (-58), 3) := by decide +kernel
theorem dX7_find_104 : decode cX7_find 104 = .ok (.iinc 5 1, 3) := by decide +kernel
theorem dX7_find_107 : decode cX7_find 107 = .ok (.goto (-82), 3) := by decide +kernel
theorem dX7_find_110 : decode cX7_find 110 = .ok (.iload 4, 2) := by decide +kernel
theorem dX7_find_112 : decode cX7_find 112 = .ok (.ireturn, 1) := by decide +kernel
set_option maxRecDepth 20000 in
theorem ggX7_alongGained_X0_weighsAt : GoodIn wsX7_alongGained wsX0_weighsAt := goodIn_r _ [7, 8, 9, 10, 11, 12, 13, 6, 14, 15, 16, 17, 18, 19, 20, 21, 22, 23, 24, 25, 26, 27, 28, 29, 30, 31, 32] (by decide +kernel) (by decide +kernel)
set_option maxRecDepth 20000 in
theorem gX7_alongGained_X0_weighsAt : GoodIn wsX7_alongGained (wsV RX7 47 RX0 yX0_weighsAt wsX0_weighsAt) := goodIn_app (goodIn_of _ (by decide +kernel)) ggX7_alongGained_X0_weighsAt
theorem dX7_alongGained_0 : decode cX7_alongGained 0 = .ok (.aload_n 1, 1) := by decide +kernel
theorem dX7_alongGained_1 : decode cX7_alongGained 1 = .ok (.getfield 30, 3) := by decide +kernel
theorem dX7_alongGained_4 : decode cX7_alongGained 4 = .ok (.getfield 43, 3) := by decide +kernel
theorem dX7_alongGained_7 : decode cX7_alongGained 7 = .ok (.iload_n 3, 1) := by decide +kernel
theorem dX7_alongGained_8 : decode cX7_alongGained 8 = .ok (.iaload, 1) := by decide +kernel
theorem dX7_alongGained_9 : decode cX7_alongGained 9 = .ok (.aload_n 1, 1) := by decide +kernel
theorem dX7_alongGained_10 : decode cX7_alongGained 10 = .ok (.getfield 30, 3) := by decide +kernel
theorem dX7_alongGained_13 : decode cX7_alongGained 13 = .ok (.getfield 43, 3) := by decide +kernel
theorem dX7_alongGained_16 : decode cX7_alongGained 16 = .ok (.iload_n 2, 1) := by decide +kernel
theorem dX7_alongGained_17 : decode cX7_alongGained 17 = .ok (.iaload, 1) := by decide +kernel
theorem dX7_alongGained_18 : decode cX7_alongGained 18 = .ok (.isub, 1) := by decide +kernel
theorem dX7_alongGained_19 : decode cX7_alongGained 19 = .ok (.istore 4, 2) := by decide +kernel
theorem dX7_alongGained_21 : decode cX7_alongGained 21 = .ok (.iconst 2, 1) := by decide +kernel
theorem dX7_alongGained_22 : decode cX7_alongGained 22 = .ok (.iload 4, 2) := by decide +kernel
theorem dX7_alongGained_24 : decode cX7_alongGained 24 = .ok (.imul, 1) := by decide +kernel
theorem dX7_alongGained_25 : decode cX7_alongGained 25 = .ok (.aload_n 1, 1) := by decide +kernel
theorem dX7_alongGained_26 : decode cX7_alongGained 26 = .ok (.iload_n 2, 1) := by decide +kernel
theorem dX7_alongGained_27 : decode cX7_alongGained 27 = .ok (.invokevirtual 47, 3) := by decide +kernel
theorem dX7_alongGained_30 : decode cX7_alongGained 30 = .ok (.aload_n 1, 1) := by decide +kernel
theorem dX7_alongGained_31 : decode cX7_alongGained 31 = .ok (.iload_n 3, 1) := by decide +kernel
theorem dX7_alongGained_32 : decode cX7_alongGained 32 = .ok (.invokevirtual 47, 3) := by decide +kernel
theorem dX7_alongGained_35 : decode cX7_alongGained 35 = .ok (.isub, 1) := by decide +kernel
theorem dX7_alongGained_36 : decode cX7_alongGained 36 = .ok (.imul, 1) := by decide +kernel
theorem dX7_alongGained_37 : decode cX7_alongGained 37 = .ok (.ireturn, 1) := by decide +kernel
theorem dX8_init_0 : decode cX8_init 0 = .ok (.aload_n 0, 1) := by decide +kernel
theorem dX8_init_1 : decode cX8_init 1 = .ok (.invokespecial 3, 3) := by decide +kernel
theorem dX8_init_4 : decode cX8_init 4 = .ok (.aload_n 0, 1) := by decide +kernel
theorem dX8_init_5 : decode cX8_init 5 = .ok (.iconst 4, 1) := by decide +kernel
theorem dX8_init_6 : decode cX8_init 6 = .ok (.newarray .int, 2) := by decide +kernel
theorem dX8_init_8 : decode cX8_init 8 = .ok (.putfield 9, 3) := by decide +kernel
theorem dX8_init_11 : decode cX8_init 11 = .ok (.aload_n 0, 1) := by decide +kernel
theorem dX8_init_12 : decode cX8_init 12 = .ok (.iconst 4, 1) := by decide +kernel
theorem dX8_init_13 : decode cX8_init 13 = .ok (.newarray .int, 2) := by decide +kernel
theorem dX8_init_15 : decode cX8_init 15 = .ok (.putfield 15, 3) := by decide +kernel
theorem dX8_init_18 : decode cX8_init 18 = .ok (.aload_n 0, 1) := by decide +kernel
theorem dX8_init_19 : decode cX8_init 19 = .ok (.iconst 4, 1) := by decide +kernel
theorem dX8_init_20 : decode cX8_init 20 = .ok (.newarray .int, 2) := by decide +kernel
theorem dX8_init_22 : decode cX8_init 22 = .ok (.putfield 18, 3) := by decide +kernel
theorem dX8_init_25 : decode cX8_init 25 = .ok (.aload_n 0, 1) := by decide +kernel
theorem dX8_init_26 : decode cX8_init 26 = .ok (.iconst 4, 1) := by decide +kernel
theorem dX8_init_27 : decode cX8_init 27 = .ok (.newarray .int, 2) := by decide +kernel
theorem dX8_init_29 : decode cX8_init 29 = .ok (.putfield 21, 3) := by decide +kernel
theorem dX8_init_32 : decode cX8_init 32 = .ok (.return_, 1) := by decide +kernel
set_option maxRecDepth 20000 in
theorem ggX8_empty_J7_fill_53178 : GoodIn wsX8_empty wsJ7_fill_53178 := goodIn_r _ [8] (by decide +kernel) (by decide +kernel)
set_option maxRecDepth 20000 in
theorem gX8_empty_J7_fill_53178 : GoodIn wsX8_empty (va_wsS RX8 24 yJ7_fill_53178 wsJ7_fill_53178) := goodIn_app (goodIn_of _ (by decide +kernel)) ggX8_empty_J7_fill_53178
theorem dX8_empty_0 : decode cX8_empty 0 = .ok (.aload_n 0, 1) := by decide +kernel
theorem dX8_empty_1 : decode cX8_empty 1 = .ok (.getfield 9, 3) := by decide +kernel
theorem dX8_empty_4 : decode cX8_empty 4 = .ok (.iconst 0, 1) := by decide +kernel
theorem dX8_empty_5 : decode cX8_empty 5 = .ok (.invokestatic 24, 3) := by decide +kernel
theorem dX8_empty_8 : decode cX8_empty 8 = .ok (.aload_n 0, 1) := by decide +kernel
theorem dX8_empty_9 : decode cX8_empty 9 = .ok (.getfield 15, 3) := by decide +kernel
theorem dX8_empty_12 : decode cX8_empty 12 = .ok (.iconst 0, 1) := by decide +kernel
theorem dX8_empty_13 : decode cX8_empty 13 = .ok (.invokestatic 24, 3) := by decide +kernel
theorem dX8_empty_16 : decode cX8_empty 16 = .ok (.aload_n 0, 1) := by decide +kernel
theorem dX8_empty_17 : decode cX8_empty 17 = .ok (.getfield 18, 3) := by decide +kernel
theorem dX8_empty_20 : decode cX8_empty 20 = .ok (.iconst 0, 1) := by decide +kernel
theorem dX8_empty_21 : decode cX8_empty 21 = .ok (.invokestatic 24, 3) := by decide +kernel
theorem dX8_empty_24 : decode cX8_empty 24 = .ok (.aload_n 0, 1) := by decide +kernel
theorem dX8_empty_25 : decode cX8_empty 25 = .ok (.getfield 21, 3) := by decide +kernel
theorem dX8_empty_28 : decode cX8_empty 28 = .ok (.iconst 0, 1) := by decide +kernel
theorem dX8_empty_29 : decode cX8_empty 29 = .ok (.invokestatic 24, 3) := by decide +kernel
theorem dX8_empty_32 : decode cX8_empty 32 = .ok (.return_, 1) := by decide +kernel
theorem dX8_copyFrom_0 : decode cX8_copyFrom 0 = .ok (.aload_n 1, 1) := by decide +kernel
theorem dX8_copyFrom_1 : decode cX8_copyFrom 1 = .ok (.getfield 9, 3) := by decide +kernel
theorem dX8_copyFrom_4 : decode cX8_copyFrom 4 = .ok (.iconst 0, 1) := by decide +kernel
theorem dX8_copyFrom_5 : decode cX8_copyFrom 5 = .ok (.aload_n 0, 1) := by decide +kernel
theorem dX8_copyFrom_6 : decode cX8_copyFrom 6 = .ok (.getfield 9, 3) := by decide +kernel
theorem dX8_copyFrom_9 : decode cX8_copyFrom 9 = .ok (.iconst 0, 1) := by decide +kernel
theorem dX8_copyFrom_10 : decode cX8_copyFrom 10 = .ok (.iconst 4, 1) := by decide +kernel
theorem dX8_copyFrom_11 : decode cX8_copyFrom 11 = .ok (.invokestatic 30, 3) := by decide +kernel
theorem dX8_copyFrom_14 : decode cX8_copyFrom 14 = .ok (.aload_n 1, 1) := by decide +kernel
theorem dX8_copyFrom_15 : decode cX8_copyFrom 15 = .ok (.getfield 15, 3) := by decide +kernel
theorem dX8_copyFrom_18 : decode cX8_copyFrom 18 = .ok (.iconst 0, 1) := by decide +kernel
theorem dX8_copyFrom_19 : decode cX8_copyFrom 19 = .ok (.aload_n 0, 1) := by decide +kernel
theorem dX8_copyFrom_20 : decode cX8_copyFrom 20 = .ok (.getfield 15, 3) := by decide +kernel
theorem dX8_copyFrom_23 : decode cX8_copyFrom 23 = .ok (.iconst 0, 1) := by decide +kernel
theorem dX8_copyFrom_24 : decode cX8_copyFrom 24 = .ok (.iconst 4, 1) := by decide +kernel
theorem dX8_copyFrom_25 : decode cX8_copyFrom 25 = .ok (.invokestatic 30, 3) := by decide +kernel
theorem dX8_copyFrom_28 : decode cX8_copyFrom 28 = .ok (.aload_n 1, 1) := by decide +kernel
theorem dX8_copyFrom_29 : decode cX8_copyFrom 29 = .ok (.getfield 18, 3) := by decide +kernel
theorem dX8_copyFrom_32 : decode cX8_copyFrom 32 = .ok (.iconst 0, 1) := by decide +kernel
theorem dX8_copyFrom_33 : decode cX8_copyFrom 33 = .ok (.aload_n 0, 1) := by decide +kernel
theorem dX8_copyFrom_34 : decode cX8_copyFrom 34 = .ok (.getfield 18, 3) := by decide +kernel
theorem dX8_copyFrom_37 : decode cX8_copyFrom 37 = .ok (.iconst 0, 1) := by decide +kernel
theorem dX8_copyFrom_38 : decode cX8_copyFrom 38 = .ok (.iconst 4, 1) := by decide +kernel
theorem dX8_copyFrom_39 : decode cX8_copyFrom 39 = .ok (.invokestatic 30, 3) := by decide +kernel
theorem dX8_copyFrom_42 : decode cX8_copyFrom 42 = .ok (.aload_n 1, 1) := by decide +kernel
theorem dX8_copyFrom_43 : decode cX8_copyFrom 43 = .ok (.getfield 21, 3) := by decide +kernel
theorem dX8_copyFrom_46 : decode cX8_copyFrom 46 = .ok (.iconst 0, 1) := by decide +kernel
theorem dX8_copyFrom_47 : decode cX8_copyFrom 47 = .ok (.aload_n 0, 1) := by decide +kernel
theorem dX8_copyFrom_48 : decode cX8_copyFrom 48 = .ok (.getfield 21, 3) := by decide +kernel
theorem dX8_copyFrom_51 : decode cX8_copyFrom 51 = .ok (.iconst 0, 1) := by decide +kernel
theorem dX8_copyFrom_52 : decode cX8_copyFrom 52 = .ok (.iconst 4, 1) := by decide +kernel
theorem dX8_copyFrom_53 : decode cX8_copyFrom 53 = .ok (.invokestatic 30, 3) := by decide +kernel
theorem dX8_copyFrom_56 : decode cX8_copyFrom 56 = .ok (.return_, 1) := by decide +kernel
theorem dX8_isThere_0 : decode cX8_isThere 0 = .ok (.aload_n 0, 1) := by decide +kernel
theorem dX8_isThere_1 : decode cX8_isThere 1 = .ok (.getfield 15, 3) := by decide +kernel
theorem dX8_isThere_4 : decode cX8_isThere 4 = .ok (.iload_n 1, 1) := by decide +kernel
theorem dX8_isThere_5 : decode cX8_isThere 5 = .ok (.iaload, 1) := by decide +kernel
theorem dX8_isThere_6 : decode cX8_isThere 6 = .ok (.ifCond .le 7, 3) := by decide +kernel
theorem dX8_isThere_9 : decode cX8_isThere 9 = .ok (.iconst 1, 1) := by decide +kernel
theorem dX8_isThere_10 : decode cX8_isThere 10 = .ok (.goto 4, 3) := by decide +kernel
theorem dX8_isThere_13 : decode cX8_isThere 13 = .ok (.iconst 0, 1) := by decide +kernel
theorem dX8_isThere_14 : decode cX8_isThere 14 = .ok (.ireturn, 1) := by decide +kernel
theorem dX8_isSlack_0 : decode cX8_isSlack 0 = .ok (.aload_n 0, 1) := by decide +kernel
theorem dX8_isSlack_1 : decode cX8_isSlack 1 = .ok (.getfield 21, 3) := by decide +kernel
theorem dX8_isSlack_4 : decode cX8_isSlack 4 = .ok (.iload_n 1, 1) := by decide +kernel
theorem dX8_isSlack_5 : decode cX8_isSlack 5 = .ok (.iaload, 1) := by decide +kernel
theorem dX8_isSlack_6 : decode cX8_isSlack 6 = .ok (.ifCond .eq 22, 3) := by decide +kernel
theorem dX8_isSlack_9 : decode cX8_isSlack 9 = .ok (.aload_n 0, 1) := by decide +kernel
theorem dX8_isSlack_10 : decode cX8_isSlack 10 = .ok (.getfield 21, 3) := by decide +kernel
theorem dX8_isSlack_13 : decode cX8_isSlack 13 = .ok (.iload_n 1, 1) := by decide +kernel
theorem dX8_isSlack_14 : decode cX8_isSlack 14 = .ok (.iaload, 1) := by decide +kernel
theorem dX8_isSlack_15 : decode cX8_isSlack 15 = .ok (.aload_n 0, 1) := by decide +kernel
theorem dX8_isSlack_16 : decode cX8_isSlack 16 = .ok (.getfield 18, 3) := by decide +kernel
theorem dX8_isSlack_19 : decode cX8_isSlack 19 = .ok (.iload_n 1, 1) := by decide +kernel
theorem dX8_isSlack_20 : decode cX8_isSlack 20 = .ok (.iaload, 1) := by decide +kernel
theorem dX8_isSlack_21 : decode cX8_isSlack 21 = .ok (.if_icmp .eq 7, 3) := by decide +kernel
theorem dX8_isSlack_24 : decode cX8_isSlack 24 = .ok (.iconst 1, 1) := by decide +kernel
theorem dX8_isSlack_25 : decode cX8_isSlack 25 = .ok (.goto 4, 3) := by decide +kernel
theorem dX8_isSlack_28 : decode cX8_isSlack 28 = .ok (.iconst 0, 1) := by decide +kernel
theorem dX8_isSlack_29 : decode cX8_isSlack 29 = .ok (.ireturn, 1) := by decide +kernel
set_option maxRecDepth 20000 in
theorem ggX8_howManyThere_X8_isThere : GoodIn wsX8_howManyThere wsX8_isThere := goodIn_r _ [5, 6, 7, 8, 9, 10] (by decide +kernel) (by decide +kernel)
set_option maxRecDepth 20000 in
theorem gX8_howManyThere_X8_isThere : GoodIn wsX8_howManyThere (wsV RX8 36 RX8 yX8_isThere wsX8_isThere) := goodIn_app (goodIn_of _ (by decide +kernel)) ggX8_howManyThere_X8_isThere
theorem dX8_howManyThere_0 : decode cX8_howManyThere 0 = .ok (.iconst 0, 1) := by decide +kernel
theorem dX8_howManyThere_1 : decode cX8_howManyThere 1 = .ok (.istore_n 1, 1) := by decide +kernel
theorem dX8_howManyThere_2 : decode cX8_howManyThere 2 = .ok (.iconst 0, 1) := by decide +kernel
theorem dX8_howManyThere_3 : decode cX8_howManyThere 3 = .ok (.istore_n 2, 1) := by decide +kernel
theorem dX8_howManyThere_4 : decode cX8_howManyThere 4 = .ok (.iload_n 2, 1) := by decide +kernel
theorem dX8_howManyThere_5 : decode cX8_howManyThere 5 = .ok (.iconst 4, 1) := by decide +kernel
theorem dX8_howManyThere_6 : decode cX8_howManyThere 6 = .ok (.if_icmp .ge 25, 3) := by decide +kernel
theorem dX8_howManyThere_9 : decode cX8_howManyThere 9 = .ok (.iload_n 1, 1) := by decide +kernel
theorem dX8_howManyThere_10 : decode cX8_howManyThere 10 = .ok (.aload_n 0, 1) := by decide +kernel
theorem dX8_howManyThere_11 : decode cX8_howManyThere 11 = .ok (.iload_n 2, 1) := by decide +kernel
theorem dX8_howManyThere_12 : decode cX8_howManyThere 12 = .ok (.invokevirtual 36, 3) := by decide +kernel
theorem dX8_howManyThere_15 : decode cX8_howManyThere 15 = .ok (.ifCond .eq 7, 3) := by decide +kernel
theorem dX8_howManyThere_18 : decode cX8_howManyThere 18 = .ok (.iconst 1, 1) := by decide +kernel
theorem dX8_howManyThere_19 : decode cX8_howManyThere 19 = .ok (.goto 4, 3) := by decide +kernel
theorem dX8_howManyThere_22 : decode cX8_howManyThere 22 = .ok (.iconst 0, 1) := by decide +kernel
theorem dX8_howManyThere_23 : decode cX8_howManyThere 23 = .ok (.iadd, 1) := by decide +kernel
theorem dX8_howManyThere_24 : decode cX8_howManyThere 24 = .ok (.istore_n 1, 1) := by decide +kernel
theorem dX8_howManyThere_25 : decode cX8_howManyThere 25 = .ok (.iinc 2 1, 3) := by decide +kernel
theorem dX8_howManyThere_28 : decode cX8_howManyThere 28 = .ok (.goto (-24), 3) := by decide +kernel
theorem dX8_howManyThere_31 : decode cX8_howManyThere 31 = .ok (.iload_n 1, 1) := by decide +kernel
theorem dX8_howManyThere_32 : decode cX8_howManyThere 32 = .ok (.ireturn, 1) := by decide +kernel
set_option maxRecDepth 20000 in
theorem ggX8_howManySlack_X8_isSlack : GoodIn wsX8_howManySlack wsX8_isSlack := goodIn_r _ [5, 6, 7, 8, 9, 10, 11] (by decide +kernel) (by decide +kernel)
set_option maxRecDepth 20000 in
theorem gX8_howManySlack_X8_isSlack : GoodIn wsX8_howManySlack (wsV RX8 40 RX8 yX8_isSlack wsX8_isSlack) := goodIn_app (goodIn_of _ (by decide +kernel)) ggX8_howManySlack_X8_isSlack
theorem dX8_howManySlack_0 : decode cX8_howManySlack 0 = .ok (.iconst 0, 1) := by decide +kernel
theorem dX8_howManySlack_1 : decode cX8_howManySlack 1 = .ok (.istore_n 1, 1) := by decide +kernel
theorem dX8_howManySlack_2 : decode cX8_howManySlack 2 = .ok (.iconst 0, 1) := by decide +kernel
theorem dX8_howManySlack_3 : decode cX8_howManySlack 3 = .ok (.istore_n 2, 1) := by decide +kernel
theorem dX8_howManySlack_4 : decode cX8_howManySlack 4 = .ok (.iload_n 2, 1) := by decide +kernel
theorem dX8_howManySlack_5 : decode cX8_howManySlack 5 = .ok (.iconst 4, 1) := by decide +kernel
theorem dX8_howManySlack_6 : decode cX8_howManySlack 6 = .ok (.if_icmp .ge 25, 3) := by decide +kernel
theorem dX8_howManySlack_9 : decode cX8_howManySlack 9 = .ok (.iload_n 1, 1) := by decide +kernel
theorem dX8_howManySlack_10 : decode cX8_howManySlack 10 = .ok (.aload_n 0, 1) := by decide +kernel
theorem dX8_howManySlack_11 : decode cX8_howManySlack 11 = .ok (.iload_n 2, 1) := by decide +kernel
theorem dX8_howManySlack_12 : decode cX8_howManySlack 12 = .ok (.invokevirtual 40, 3) := by decide +kernel
theorem dX8_howManySlack_15 : decode cX8_howManySlack 15 = .ok (.ifCond .eq 7, 3) := by decide +kernel
theorem dX8_howManySlack_18 : decode cX8_howManySlack 18 = .ok (.iconst 1, 1) := by decide +kernel
theorem dX8_howManySlack_19 : decode cX8_howManySlack 19 = .ok (.goto 4, 3) := by decide +kernel
theorem dX8_howManySlack_22 : decode cX8_howManySlack 22 = .ok (.iconst 0, 1) := by decide +kernel
theorem dX8_howManySlack_23 : decode cX8_howManySlack 23 = .ok (.iadd, 1) := by decide +kernel
theorem dX8_howManySlack_24 : decode cX8_howManySlack 24 = .ok (.istore_n 1, 1) := by decide +kernel
theorem dX8_howManySlack_25 : decode cX8_howManySlack 25 = .ok (.iinc 2 1, 3) := by decide +kernel
theorem dX8_howManySlack_28 : decode cX8_howManySlack 28 = .ok (.goto (-24), 3) := by decide +kernel
theorem dX8_howManySlack_31 : decode cX8_howManySlack 31 = .ok (.iload_n 1, 1) := by decide +kernel
theorem dX8_howManySlack_32 : decode cX8_howManySlack 32 = .ok (.ireturn, 1) := by decide +kernel
set_option maxRecDepth 20000 in
theorem ggX8_lostRighting_X8_isSlack : GoodIn wsX8_lostRighting wsX8_isSlack := goodIn_r _ [6, 7, 8, 12, 13, 14, 15] (by decide +kernel) (by decide +kernel)
set_option maxRecDepth 20000 in
theorem gX8_lostRighting_X8_isSlack : GoodIn wsX8_lostRighting (wsV RX8 40 RX8 yX8_isSlack wsX8_isSlack) := goodIn_app (goodIn_of _ (by decide +kernel)) ggX8_lostRighting_X8_isSlack
set_option maxRecDepth 20000 in
theorem ggX8_lostRighting_X11_cubeByTwelve : GoodIn wsX8_lostRighting wsX11_cubeByTwelve := goodIn_r _ [11] (by decide +kernel) (by decide +kernel)
set_option maxRecDepth 20000 in
theorem gX8_lostRighting_X11_cubeByTwelve_n43 : GoodIn wsX8_lostRighting (wsX11_cubeByTwelve) := ggX8_lostRighting_X11_cubeByTwelve
theorem dX8_lostRighting_0 : decode cX8_lostRighting 0 = .ok (.iconst 0, 1) := by decide +kernel
theorem dX8_lostRighting_1 : decode cX8_lostRighting 1 = .ok (.istore_n 1, 1) := by decide +kernel
theorem dX8_lostRighting_2 : decode cX8_lostRighting 2 = .ok (.iconst 0, 1) := by decide +kernel
theorem dX8_lostRighting_3 : decode cX8_lostRighting 3 = .ok (.istore_n 2, 1) := by decide +kernel
theorem dX8_lostRighting_4 : decode cX8_lostRighting 4 = .ok (.iload_n 2, 1) := by decide +kernel
theorem dX8_lostRighting_5 : decode cX8_lostRighting 5 = .ok (.iconst 4, 1) := by decide +kernel
theorem dX8_lostRighting_6 : decode cX8_lostRighting 6 = .ok (.if_icmp .ge 33, 3) := by decide +kernel
theorem dX8_lostRighting_9 : decode cX8_lostRighting 9 = .ok (.iload_n 1, 1) := by decide +kernel
theorem dX8_lostRighting_10 : decode cX8_lostRighting 10 = .ok (.aload_n 0, 1) := by decide +kernel
theorem dX8_lostRighting_11 : decode cX8_lostRighting 11 = .ok (.iload_n 2, 1) := by decide +kernel
theorem dX8_lostRighting_12 : decode cX8_lostRighting 12 = .ok (.invokevirtual 40, 3) := by decide +kernel
theorem dX8_lostRighting_15 : decode cX8_lostRighting 15 = .ok (.ifCond .eq 15, 3) := by decide +kernel
theorem dX8_lostRighting_18 : decode cX8_lostRighting 18 = .ok (.aload_n 0, 1) := by decide +kernel
theorem dX8_lostRighting_19 : decode cX8_lostRighting 19 = .ok (.getfield 15, 3) := by decide +kernel
theorem dX8_lostRighting_22 : decode cX8_lostRighting 22 = .ok (.iload_n 2, 1) := by decide +kernel
theorem dX8_lostRighting_23 : decode cX8_lostRighting 23 = .ok (.iaload, 1) := by decide +kernel
theorem dX8_lostRighting_24 : decode cX8_lostRighting 24 = .ok (.invokestatic 43, 3) := by decide +kernel
theorem dX8_lostRighting_27 : decode cX8_lostRighting 27 = .ok (.goto 4, 3) := by decide +kernel
theorem dX8_lostRighting_30 : decode cX8_lostRighting 30 = .ok (.iconst 0, 1) := by decide +kernel
theorem dX8_lostRighting_31 : decode cX8_lostRighting 31 = .ok (.iadd, 1) := by decide +kernel
theorem dX8_lostRighting_32 : decode cX8_lostRighting 32 = .ok (.istore_n 1, 1) := by decide +kernel
theorem dX8_lostRighting_33 : decode cX8_lostRighting 33 = .ok (.iinc 2 1, 3) := by decide +kernel
theorem dX8_lostRighting_36 : decode cX8_lostRighting 36 = .ok (.goto (-32), 3) := by decide +kernel
theorem dX8_lostRighting_39 : decode cX8_lostRighting 39 = .ok (.iload_n 1, 1) := by decide +kernel
theorem dX8_lostRighting_40 : decode cX8_lostRighting 40 = .ok (.ireturn, 1) := by decide +kernel
theorem dX9_init_0 : decode cX9_init 0 = .ok (.aload_n 0, 1) := by decide +kernel
theorem dX9_init_1 : decode cX9_init 1 = .ok (.invokespecial 3, 3) := by decide +kernel
theorem dX9_init_4 : decode cX9_init 4 = .ok (.aload_n 0, 1) := by decide +kernel
theorem dX9_init_5 : decode cX9_init 5 = .ok (.iconst 0, 1) := by decide +kernel
theorem dX9_init_6 : decode cX9_init 6 = .ok (.putfield 9, 3) := by decide +kernel
theorem dX9_init_9 : decode cX9_init 9 = .ok (.aload_n 0, 1) := by decide +kernel
theorem dX9_init_10 : decode cX9_init 10 = .ok (.bipush 80, 2) := by decide +kernel
theorem dX9_init_12 : decode cX9_init 12 = .ok (.newarray .byte, 2) := by decide +kernel
theorem dX9_init_14 : decode cX9_init 14 = .ok (.putfield 15, 3) := by decide +kernel
theorem dX9_init_17 : decode cX9_init 17 = .ok (.aload_n 0, 1) := by decide +kernel
theorem dX9_init_18 : decode cX9_init 18 = .ok (.iconst 0, 1) := by decide +kernel
theorem dX9_init_19 : decode cX9_init 19 = .ok (.putfield 19, 3) := by decide +kernel
theorem dX9_init_22 : decode cX9_init 22 = .ok (.aload_n 0, 1) := by decide +kernel
theorem dX9_init_23 : decode cX9_init 23 = .ok (.iconst 0, 1) := by decide +kernel
theorem dX9_init_24 : decode cX9_init 24 = .ok (.putfield 22, 3) := by decide +kernel
theorem dX9_init_27 : decode cX9_init 27 = .ok (.aload_n 0, 1) := by decide +kernel
theorem dX9_init_28 : decode cX9_init 28 = .ok (.bipush 6, 2) := by decide +kernel
theorem dX9_init_30 : decode cX9_init 30 = .ok (.newarray .int, 2) := by decide +kernel
theorem dX9_init_32 : decode cX9_init 32 = .ok (.putfield 25, 3) := by decide +kernel
theorem dX9_init_35 : decode cX9_init 35 = .ok (.return_, 1) := by decide +kernel
set_option maxRecDepth 20000 in
theorem ggX9_findFault_X9_readsAct : GoodIn wsX9_findFault wsX9_readsAct := goodIn_r _ [7, 8, 9, 1, 10, 11, 12, 6, 13, 2, 14, 15, 16, 17, 18, 19, 20, 21, 22, 23, 24, 25, 26, 27, 28, 29, 30, 31, 32, 33, 34, 35, 36, 37, 38, 39, 40, 41, 42, 43, 44, 45, 46, 47, 48, 49, 50, 51, 52, 53, 54, 55, 56, 57, 58, 59, 60, 61, 62, 63, 64, 65, 66, 67, 68, 69, 70, 71, 72, 73, 74, 75, 76, 77, 78, 79, 80, 81, 82, 83, 84, 85, 86, 87, 88, 89, 90, 91, 92, 93, 94, 95, 96, 97, 98, 99, 100, 105, 106, 107, 108, 109] (by decide +kernel) (by decide +kernel)
set_option maxRecDepth 20000 in
theorem gX9_findFault_X9_readsAct : GoodIn wsX9_findFault (wsV RX9 29 RX9 yX9_readsAct wsX9_readsAct) := goodIn_app (goodIn_of _ (by decide +kernel)) ggX9_findFault_X9_readsAct
set_option maxRecDepth 20000 in
theorem ggX9_findFault_X9_isPartedHere : GoodIn wsX9_findFault wsX9_isPartedHere := goodIn_r _ [104, 81, 82, 83, 6, 84, 1, 2, 18, 19, 20, 21, 105, 106, 107, 108, 109] (by decide +kernel) (by decide +kernel)
set_option maxRecDepth 20000 in
theorem gX9_findFault_X9_isPartedHere : GoodIn wsX9_findFault (wsV RX9 33 RX9 yX9_isPartedHere wsX9_isPartedHere) := goodIn_app (goodIn_of _ (by decide +kernel)) ggX9_findFault_X9_isPartedHere
theorem dX9_findFault_0 : decode cX9_findFault 0 = .ok (.aload_n 0, 1) := by decide +kernel
theorem dX9_findFault_1 : decode cX9_findFault 1 = .ok (.iconst 0, 1) := by decide +kernel
theorem dX9_findFault_2 : decode cX9_findFault 2 = .ok (.putfield 19, 3) := by decide +kernel
theorem dX9_findFault_5 : decode cX9_findFault 5 = .ok (.iconst 0, 1) := by decide +kernel
theorem dX9_findFault_6 : decode cX9_findFault 6 = .ok (.istore_n 1, 1) := by decide +kernel
theorem dX9_findFault_7 : decode cX9_findFault 7 = .ok (.iload_n 1, 1) := by decide +kernel
theorem dX9_findFault_8 : decode cX9_findFault 8 = .ok (.aload_n 0, 1) := by decide +kernel
theorem dX9_findFault_9 : decode cX9_findFault 9 = .ok (.getfield 9, 3) := by decide +kernel
theorem dX9_findFault_12 : decode cX9_findFault 12 = .ok (.if_icmp .gt 56, 3) := by decide +kernel
theorem dX9_findFault_15 : decode cX9_findFault 15 = .ok (.aload_n 0, 1) := by decide +kernel
theorem dX9_findFault_16 : decode cX9_findFault 16 = .ok (.invokevirtual 29, 3) := by decide +kernel
theorem dX9_findFault_19 : decode cX9_findFault 19 = .ok (.ifCond .ne 8, 3) := by decide +kernel
theorem dX9_findFault_22 : decode cX9_findFault 22 = .ok (.aload_n 0, 1) := by decide +kernel
theorem dX9_findFault_23 : decode cX9_findFault 23 = .ok (.getfield 19, 3) := by decide +kernel
theorem dX9_findFault_26 : decode cX9_findFault 26 = .ok (.ireturn, 1) := by decide +kernel
theorem dX9_findFault_27 : decode cX9_findFault 27 = .ok (.aload_n 0, 1) := by decide +kernel
theorem dX9_findFault_28 : decode cX9_findFault 28 = .ok (.getfield 19, 3) := by decide +kernel
theorem dX9_findFault_31 : decode cX9_findFault 31 = .ok (.aload_n 0, 1) := by decide +kernel
theorem dX9_findFault_32 : decode cX9_findFault 32 = .ok (.getfield 9, 3) := by decide +kernel
theorem dX9_findFault_35 : decode cX9_findFault 35 = .ok (.if_icmp .lt 5, 3) := by decide +kernel
theorem dX9_findFault_38 : decode cX9_findFault 38 = .ok (.iconst (-1), 1) := by decide +kernel
theorem dX9_findFault_39 : decode cX9_findFault 39 = .ok (.ireturn, 1) := by decide +kernel
theorem dX9_findFault_40 : decode cX9_findFault 40 = .ok (.aload_n 0, 1) := by decide +kernel
theorem dX9_findFault_41 : decode cX9_findFault 41 = .ok (.invokevirtual 33, 3) := by decide +kernel
theorem dX9_findFault_44 : decode cX9_findFault 44 = .ok (.ifCond .ne 8, 3) := by decide +kernel
theorem dX9_findFault_47 : decode cX9_findFault 47 = .ok (.aload_n 0, 1) := by decide +kernel
theorem dX9_findFault_48 : decode cX9_findFault 48 = .ok (.getfield 19, 3) := by decide +kernel
theorem dX9_findFault_51 : decode cX9_findFault 51 = .ok (.ireturn, 1) := by decide +kernel
theorem dX9_findFault_52 : decode cX9_findFault 52 = .ok (.aload_n 0, 1) := by decide +kernel
theorem dX9_findFault_53 : decode cX9_findFault 53 = .ok (.dup, 1) := by decide +kernel
theorem dX9_findFault_54 : decode cX9_findFault 54 = .ok (.getfield 19, 3) := by decide +kernel
theorem dX9_findFault_57 : decode cX9_findFault 57 = .ok (.iconst 1, 1) := by decide +kernel
theorem dX9_findFault_58 : decode cX9_findFault 58 = .ok (.iadd, 1) := by decide +kernel
theorem dX9_findFault_59 : decode cX9_findFault 59 = .ok (.putfield 19, 3) := by decide +kernel
theorem dX9_findFault_62 : decode cX9_findFault 62 = .ok (.iinc 1 1, 3) := by decide +kernel
theorem dX9_findFault_65 : decode cX9_findFault 65 = .ok (.goto (-58), 3) := by decide +kernel
theorem dX9_findFault_68 : decode cX9_findFault 68 = .ok (.aload_n 0, 1) := by decide +kernel
theorem dX9_findFault_69 : decode cX9_findFault 69 = .ok (.getfield 19, 3) := by decide +kernel
theorem dX9_findFault_72 : decode cX9_findFault 72 = .ok (.ireturn, 1) := by decide +kernel
set_option maxRecDepth 20000 in
theorem ggX9_isPartedHere_X9_isHere : GoodIn wsX9_isPartedHere wsX9_isHere := goodIn_r _ [5, 6, 7, 8, 9, 10, 11, 12, 13, 14, 15, 16] (by decide +kernel) (by decide +kernel)
set_option maxRecDepth 20000 in
theorem gX9_isPartedHere_X9_isHere : GoodIn wsX9_isPartedHere (wsV RX9 36 RX9 yX9_isHere wsX9_isHere) := goodIn_app (goodIn_of _ (by decide +kernel)) ggX9_isPartedHere_X9_isHere
theorem dX9_isPartedHere_0 : decode cX9_isPartedHere 0 = .ok (.aload_n 0, 1) := by decide +kernel
theorem dX9_isPartedHere_1 : decode cX9_isPartedHere 1 = .ok (.bipush 59, 2) := by decide +kernel
theorem dX9_isPartedHere_3 : decode cX9_isPartedHere 3 = .ok (.invokevirtual 36, 3) := by decide +kernel
theorem dX9_isPartedHere_6 : decode cX9_isPartedHere 6 = .ok (.ireturn, 1) := by decide +kernel
set_option maxRecDepth 20000 in
theorem ggX9_readsAct_X9_readsWord : GoodIn wsX9_readsAct wsX9_readsWord := goodIn_r _ [8, 3, 9, 1, 10, 11, 12, 7, 13, 14, 15, 16, 17, 18, 19, 20, 21, 22, 23, 24, 25, 26, 27, 28, 29, 30, 31, 32, 33, 34, 35, 36, 37, 38, 39, 40, 41, 42, 43, 44, 45, 46, 47, 48, 49, 50, 51, 52, 53, 54, 55, 56, 57, 58, 59, 60, 61, 62, 63, 64, 65, 66, 67, 68, 69, 70, 71, 72, 73, 97, 98, 99, 100, 101] (by decide +kernel) (by decide +kernel)
set_option maxRecDepth 20000 in
theorem gX9_readsAct_X9_readsWord : GoodIn wsX9_readsAct (wsV RX9 40 RX9 yX9_readsWord wsX9_readsWord) := goodIn_app (goodIn_of _ (by decide +kernel)) ggX9_readsAct_X9_readsWord
set_option maxRecDepth 20000 in
theorem ggX9_readsAct_X9_shapeOf : GoodIn wsX9_readsAct wsX9_shapeOf := goodIn_r _ [76] (by decide +kernel) (by decide +kernel)
set_option maxRecDepth 20000 in
theorem gX9_readsAct_X9_shapeOf : GoodIn wsX9_readsAct (va_wsS RX9 43 yX9_shapeOf wsX9_shapeOf) := goodIn_app (goodIn_of _ (by decide +kernel)) ggX9_readsAct_X9_shapeOf
set_option maxRecDepth 20000 in
theorem ggX9_readsAct_J0_length_8abf5 : GoodIn wsX9_readsAct wsJ0_length_8abf5 := goodIn_r _ [29, 30, 31, 32, 33, 28, 34, 35, 36] (by decide +kernel) (by decide +kernel)
set_option maxRecDepth 20000 in
theorem gX9_readsAct_J0_length_8abf5 : GoodIn wsX9_readsAct (wsV RX9 47 RJ0 yJ0_length_8abf5 wsJ0_length_8abf5) := goodIn_app (goodIn_of _ (by decide +kernel)) ggX9_readsAct_J0_length_8abf5
set_option maxRecDepth 20000 in
theorem ggX9_readsAct_X9_isHere : GoodIn wsX9_readsAct wsX9_isHere := goodIn_r _ [80, 3, 9, 14, 15, 16, 17, 97, 98, 99, 100, 101] (by decide +kernel) (by decide +kernel)
set_option maxRecDepth 20000 in
theorem gX9_readsAct_X9_isHere : GoodIn wsX9_readsAct (wsV RX9 36 RX9 yX9_isHere wsX9_isHere) := goodIn_app (goodIn_of _ (by decide +kernel)) ggX9_readsAct_X9_isHere
set_option maxRecDepth 20000 in
theorem ggX9_readsAct_J0_charAt_5068e : GoodIn wsX9_readsAct wsJ0_charAt_5068e := goodIn_r _ [40, 30, 41, 42, 43, 28, 44, 35, 36, 45, 46, 47, 48, 49, 50, 51, 52, 53, 54, 55, 56, 57, 58, 59, 60, 61, 62, 63, 64, 65, 66, 67, 68, 69, 70, 71, 72, 73] (by decide +kernel) (by decide +kernel)
set_option maxRecDepth 20000 in
theorem gX9_readsAct_J0_charAt_5068e : GoodIn wsX9_readsAct (wsV RX9 52 RJ0 yJ0_charAt_5068e wsJ0_charAt_5068e) := goodIn_app (goodIn_of _ (by decide +kernel)) ggX9_readsAct_J0_charAt_5068e
set_option maxRecDepth 20000 in
theorem ggX9_readsAct_X9_readsPart : GoodIn wsX9_readsAct wsX9_readsPart := goodIn_r _ [84, 3, 85, 86, 87, 7, 88, 9, 14, 2, 10, 11, 12, 13, 15, 16, 17, 77, 78, 79, 80, 89, 90, 91, 92, 93, 94, 95, 96, 97, 98, 99, 100, 101] (by decide +kernel) (by decide +kernel)
set_option maxRecDepth 20000 in
theorem gX9_readsAct_X9_readsPart : GoodIn wsX9_readsAct (wsV RX9 56 RX9 yX9_readsPart wsX9_readsPart) := goodIn_app (goodIn_of _ (by decide +kernel)) ggX9_readsAct_X9_readsPart
theorem dX9_readsAct_0 : decode cX9_readsAct 0 = .ok (.aload_n 0, 1) := by decide +kernel
theorem dX9_readsAct_1 : decode cX9_readsAct 1 = .ok (.invokevirtual 40, 3) := by decide +kernel
theorem dX9_readsAct_4 : decode cX9_readsAct 4 = .ok (.ifCond .ne 5, 3) := by decide +kernel
theorem dX9_readsAct_7 : decode cX9_readsAct 7 = .ok (.iconst 0, 1) := by decide +kernel
theorem dX9_readsAct_8 : decode cX9_readsAct 8 = .ok (.ireturn, 1) := by decide +kernel
theorem dX9_readsAct_9 : decode cX9_readsAct 9 = .ok (.aload_n 0, 1) := by decide +kernel
theorem dX9_readsAct_10 : decode cX9_readsAct 10 = .ok (.getfield 22, 3) := by decide +kernel
theorem dX9_readsAct_13 : decode cX9_readsAct 13 = .ok (.invokestatic 43, 3) := by decide +kernel
theorem dX9_readsAct_16 : decode cX9_readsAct 16 = .ok (.astore_n 1, 1) := by decide +kernel
theorem dX9_readsAct_17 : decode cX9_readsAct 17 = .ok (.iconst 0, 1) := by decide +kernel
theorem dX9_readsAct_18 : decode cX9_readsAct 18 = .ok (.istore_n 2, 1) := by decide +kernel
theorem dX9_readsAct_19 : decode cX9_readsAct 19 = .ok (.iload_n 2, 1) := by decide +kernel
theorem dX9_readsAct_20 : decode cX9_readsAct 20 = .ok (.aload_n 1, 1) := by decide +kernel
theorem dX9_readsAct_21 : decode cX9_readsAct 21 = .ok (.invokevirtual 47, 3) := by decide +kernel
theorem dX9_readsAct_24 : decode cX9_readsAct 24 = .ok (.if_icmp .ge 54, 3) := by decide +kernel
theorem dX9_readsAct_27 : decode cX9_readsAct 27 = .ok (.iload_n 2, 1) := by decide +kernel
theorem dX9_readsAct_28 : decode cX9_readsAct 28 = .ok (.aload_n 0, 1) := by decide +kernel
theorem dX9_readsAct_29 : decode cX9_readsAct 29 = .ok (.getfield 25, 3) := by decide +kernel
theorem dX9_readsAct_32 : decode cX9_readsAct 32 = .ok (.arraylength, 1) := by decide +kernel
theorem dX9_readsAct_33 : decode cX9_readsAct 33 = .ok (.if_icmp .ge 45, 3) := by decide +kernel
theorem dX9_readsAct_36 : decode cX9_readsAct 36 = .ok (.aload_n 0, 1) := by decide +kernel
theorem dX9_readsAct_37 : decode cX9_readsAct 37 = .ok (.bipush 32, 2) := by decide +kernel
theorem dX9_readsAct_39 : decode cX9_readsAct 39 = .ok (.invokevirtual 36, 3) := by decide +kernel
theorem dX9_readsAct_42 : decode cX9_readsAct 42 = .ok (.ifCond .ne 5, 3) := by decide +kernel
theorem dX9_readsAct_45 : decode cX9_readsAct 45 = .ok (.iconst 0, 1) := by decide +kernel
theorem dX9_readsAct_46 : decode cX9_readsAct 46 = .ok (.ireturn, 1) := by decide +kernel
theorem dX9_readsAct_47 : decode cX9_readsAct 47 = .ok (.aload_n 0, 1) := by decide +kernel
theorem dX9_readsAct_48 : decode cX9_readsAct 48 = .ok (.dup, 1) := by decide +kernel
theorem dX9_readsAct_49 : decode cX9_readsAct 49 = .ok (.getfield 19, 3) := by decide +kernel
theorem dX9_readsAct_52 : decode cX9_readsAct 52 = .ok (.iconst 1, 1) := by decide +kernel
theorem dX9_readsAct_53 : decode cX9_readsAct 53 = .ok (.iadd, 1) := by decide +kernel
theorem dX9_readsAct_54 : decode cX9_readsAct 54 = .ok (.putfield 19, 3) := by decide +kernel
theorem dX9_readsAct_57 : decode cX9_readsAct 57 = .ok (.aload_n 0, 1) := by decide +kernel
theorem dX9_readsAct_58 : decode cX9_readsAct 58 = .ok (.iload_n 2, 1) := by decide +kernel
theorem dX9_readsAct_59 : decode cX9_readsAct 59 = .ok (.aload_n 1, 1) := by decide +kernel
theorem dX9_readsAct_60 : decode cX9_readsAct 60 = .ok (.iload_n 2, 1) := by decide +kernel
theorem dX9_readsAct_61 : decode cX9_readsAct 61 = .ok (.invokevirtual 52, 3) := by decide +kernel
theorem dX9_readsAct_64 : decode cX9_readsAct 64 = .ok (.invokevirtual 56, 3) := by decide +kernel
theorem dX9_readsAct_67 : decode cX9_readsAct 67 = .ok (.ifCond .ne 5, 3) := by decide +kernel
theorem dX9_readsAct_70 : decode cX9_readsAct 70 = .ok (.iconst 0, 1) := by decide +kernel
theorem dX9_readsAct_71 : decode cX9_readsAct 71 = .ok (.ireturn, 1) := by decide +kernel
theorem dX9_readsAct_72 : decode cX9_readsAct 72 = .ok (.iinc 2 1, 3) := by decide +kernel
theorem dX9_readsAct_75 : decode cX9_readsAct 75 = .ok (.goto (-56), 3) := by decide +kernel
theorem dX9_readsAct_78 : decode cX9_readsAct 78 = .ok (.iconst 1, 1) := by decide +kernel
theorem dX9_readsAct_79 : decode cX9_readsAct 79 = .ok (.ireturn, 1) := by decide +kernel
set_option maxRecDepth 20000 in
theorem ggX9_readsWord_X9_isLetterHere : GoodIn wsX9_readsWord wsX9_isLetterHere := goodIn_r _ [8, 1, 2, 9, 10, 11, 12, 69, 70, 71, 72, 73] (by decide +kernel) (by decide +kernel)
set_option maxRecDepth 20000 in
theorem gX9_readsWord_X9_isLetterHere : GoodIn wsX9_readsWord (wsV RX9 60 RX9 yX9_isLetterHere wsX9_isLetterHere) := goodIn_app (goodIn_of _ (by decide +kernel)) ggX9_readsWord_X9_isLetterHere
set_option maxRecDepth 20000 in
theorem ggX9_readsWord_X9_wordOf : GoodIn wsX9_readsWord wsX9_wordOf := goodIn_r _ [15] (by decide +kernel) (by decide +kernel)
set_option maxRecDepth 20000 in
theorem gX9_readsWord_X9_wordOf : GoodIn wsX9_readsWord (va_wsS RX9 63 yX9_wordOf wsX9_wordOf) := goodIn_app (goodIn_of _ (by decide +kernel)) ggX9_readsWord_X9_wordOf
set_option maxRecDepth 20000 in
theorem ggX9_readsWord_X9_isWord : GoodIn wsX9_readsWord wsX9_isWord := goodIn_r _ [19, 9, 20, 21, 22, 23, 24, 25, 26, 27, 28, 29, 30, 31, 32, 33, 34, 35, 36, 37, 38, 39, 40, 41, 42, 43, 44, 45, 46, 47, 48, 49, 50, 51, 52, 53, 54, 55, 56, 57, 58, 59, 60, 61, 62, 63, 64, 65, 66, 67, 68, 69, 70, 71, 72, 73] (by decide +kernel) (by decide +kernel)
set_option maxRecDepth 20000 in
theorem gX9_readsWord_X9_isWord : GoodIn wsX9_readsWord (wsV RX9 66 RX9 yX9_isWord wsX9_isWord) := goodIn_app (goodIn_of _ (by decide +kernel)) ggX9_readsWord_X9_isWord
theorem dX9_readsWord_0 : decode cX9_readsWord 0 = .ok (.aload_n 0, 1) := by decide +kernel
theorem dX9_readsWord_1 : decode cX9_readsWord 1 = .ok (.getfield 19, 3) := by decide +kernel
theorem dX9_readsWord_4 : decode cX9_readsWord 4 = .ok (.istore_n 1, 1) := by decide +kernel
theorem dX9_readsWord_5 : decode cX9_readsWord 5 = .ok (.aload_n 0, 1) := by decide +kernel
theorem dX9_readsWord_6 : decode cX9_readsWord 6 = .ok (.getfield 19, 3) := by decide +kernel
theorem dX9_readsWord_9 : decode cX9_readsWord 9 = .ok (.aload_n 0, 1) := by decide +kernel
theorem dX9_readsWord_10 : decode cX9_readsWord 10 = .ok (.getfield 9, 3) := by decide +kernel
theorem dX9_readsWord_13 : decode cX9_readsWord 13 = .ok (.if_icmp .ge 23, 3) := by decide +kernel
theorem dX9_readsWord_16 : decode cX9_readsWord 16 = .ok (.aload_n 0, 1) := by decide +kernel
theorem dX9_readsWord_17 : decode cX9_readsWord 17 = .ok (.invokevirtual 60, 3) := by decide +kernel
theorem dX9_readsWord_20 : decode cX9_readsWord 20 = .ok (.ifCond .eq 16, 3) := by decide +kernel
theorem dX9_readsWord_23 : decode cX9_readsWord 23 = .ok (.aload_n 0, 1) := by decide +kernel
theorem dX9_readsWord_24 : decode cX9_readsWord 24 = .ok (.dup, 1) := by decide +kernel
theorem dX9_readsWord_25 : decode cX9_readsWord 25 = .ok (.getfield 19, 3) := by decide +kernel
theorem dX9_readsWord_28 : decode cX9_readsWord 28 = .ok (.iconst 1, 1) := by decide +kernel
theorem dX9_readsWord_29 : decode cX9_readsWord 29 = .ok (.iadd, 1) := by decide +kernel
theorem dX9_readsWord_30 : decode cX9_readsWord 30 = .ok (.putfield 19, 3) := by decide +kernel
theorem dX9_readsWord_33 : decode cX9_readsWord 33 = .ok (.goto (-28), 3) := by decide +kernel
theorem dX9_readsWord_36 : decode cX9_readsWord 36 = .ok (.iconst 0, 1) := by decide +kernel
theorem dX9_readsWord_37 : decode cX9_readsWord 37 = .ok (.istore_n 2, 1) := by decide +kernel
theorem dX9_readsWord_38 : decode cX9_readsWord 38 = .ok (.iload_n 2, 1) := by decide +kernel
theorem dX9_readsWord_39 : decode cX9_readsWord 39 = .ok (.iconst 4, 1) := by decide +kernel
theorem dX9_readsWord_40 : decode cX9_readsWord 40 = .ok (.if_icmp .gt 32, 3) := by decide +kernel
theorem dX9_readsWord_43 : decode cX9_readsWord 43 = .ok (.aload_n 0, 1) := by decide +kernel
theorem dX9_readsWord_44 : decode cX9_readsWord 44 = .ok (.iload_n 2, 1) := by decide +kernel
theorem dX9_readsWord_45 : decode cX9_readsWord 45 = .ok (.putfield 22, 3) := by decide +kernel
theorem dX9_readsWord_48 : decode cX9_readsWord 48 = .ok (.aload_n 0, 1) := by decide +kernel
theorem dX9_readsWord_49 : decode cX9_readsWord 49 = .ok (.iload_n 2, 1) := by decide +kernel
theorem dX9_readsWord_50 : decode cX9_readsWord 50 = .ok (.invokestatic 63, 3) := by decide +kernel
theorem dX9_readsWord_53 : decode cX9_readsWord 53 = .ok (.iload_n 1, 1) := by decide +kernel
theorem dX9_readsWord_54 : decode cX9_readsWord 54 = .ok (.aload_n 0, 1) := by decide +kernel
theorem dX9_readsWord_55 : decode cX9_readsWord 55 = .ok (.getfield 19, 3) := by decide +kernel
theorem dX9_readsWord_58 : decode cX9_readsWord 58 = .ok (.invokevirtual 66, 3) := by decide +kernel
theorem dX9_readsWord_61 : decode cX9_readsWord 61 = .ok (.ifCond .eq 5, 3) := by decide +kernel
theorem dX9_readsWord_64 : decode cX9_readsWord 64 = .ok (.iconst 1, 1) := by decide +kernel
theorem dX9_readsWord_65 : decode cX9_readsWord 65 = .ok (.ireturn, 1) := by decide +kernel
theorem dX9_readsWord_66 : decode cX9_readsWord 66 = .ok (.iinc 2 1, 3) := by decide +kernel
theorem dX9_readsWord_69 : decode cX9_readsWord 69 = .ok (.goto (-31), 3) := by decide +kernel
theorem dX9_readsWord_72 : decode cX9_readsWord 72 = .ok (.aload_n 0, 1) := by decide +kernel
theorem dX9_readsWord_73 : decode cX9_readsWord 73 = .ok (.iload_n 1, 1) := by decide +kernel
theorem dX9_readsWord_74 : decode cX9_readsWord 74 = .ok (.putfield 19, 3) := by decide +kernel
theorem dX9_readsWord_77 : decode cX9_readsWord 77 = .ok (.iconst 0, 1) := by decide +kernel
theorem dX9_readsWord_78 : decode cX9_readsWord 78 = .ok (.ireturn, 1) := by decide +kernel
set_option maxRecDepth 20000 in
theorem ggX9_isWord_J0_length_8abf5 : GoodIn wsX9_isWord wsJ0_length_8abf5 := goodIn_r _ [6, 7, 8, 9, 10, 5, 11, 12, 13] (by decide +kernel) (by decide +kernel)
set_option maxRecDepth 20000 in
theorem gX9_isWord_J0_length_8abf5 : GoodIn wsX9_isWord (wsV RX9 47 RJ0 yJ0_length_8abf5 wsJ0_length_8abf5) := goodIn_app (goodIn_of _ (by decide +kernel)) ggX9_isWord_J0_length_8abf5
set_option maxRecDepth 20000 in
theorem ggX9_isWord_J0_charAt_5068e : GoodIn wsX9_isWord wsJ0_charAt_5068e := goodIn_r _ [17, 7, 18, 19, 20, 5, 21, 12, 13, 22, 23, 24, 25, 26, 27, 28, 29, 30, 31, 32, 33, 34, 35, 36, 37, 38, 39, 40, 41, 42, 43, 44, 45, 46, 47, 48, 49, 50] (by decide +kernel) (by decide +kernel)
set_option maxRecDepth 20000 in
theorem gX9_isWord_J0_charAt_5068e : GoodIn wsX9_isWord (wsV RX9 52 RJ0 yJ0_charAt_5068e wsJ0_charAt_5068e) := goodIn_app (goodIn_of _ (by decide +kernel)) ggX9_isWord_J0_charAt_5068e
theorem dX9_isWord_0 : decode cX9_isWord 0 = .ok (.aload_n 1, 1) := by decide +kernel
theorem dX9_isWord_1 : decode cX9_isWord 1 = .ok (.invokevirtual 47, 3) := by decide +kernel
theorem dX9_isWord_4 : decode cX9_isWord 4 = .ok (.iload_n 3, 1) := by decide +kernel
theorem dX9_isWord_5 : decode cX9_isWord 5 = .ok (.iload_n 2, 1) := by decide +kernel
theorem dX9_isWord_6 : decode cX9_isWord 6 = .ok (.isub, 1) := by decide +kernel
theorem dX9_isWord_7 : decode cX9_isWord 7 = .ok (.if_icmp .eq 5, 3) := by decide +kernel
theorem dX9_isWord_10 : decode cX9_isWord 10 = .ok (.iconst 0, 1) := by decide +kernel
theorem dX9_isWord_11 : decode cX9_isWord 11 = .ok (.ireturn, 1) := by decide +kernel
theorem dX9_isWord_12 : decode cX9_isWord 12 = .ok (.iconst 0, 1) := by decide +kernel
theorem dX9_isWord_13 : decode cX9_isWord 13 = .ok (.istore 4, 2) := by decide +kernel
theorem dX9_isWord_15 : decode cX9_isWord 15 = .ok (.iload 4, 2) := by decide +kernel
theorem dX9_isWord_17 : decode cX9_isWord 17 = .ok (.aload_n 1, 1) := by decide +kernel
theorem dX9_isWord_18 : decode cX9_isWord 18 = .ok (.invokevirtual 47, 3) := by decide +kernel
theorem dX9_isWord_21 : decode cX9_isWord 21 = .ok (.if_icmp .ge 29, 3) := by decide +kernel
theorem dX9_isWord_24 : decode cX9_isWord 24 = .ok (.aload_n 0, 1) := by decide +kernel
theorem dX9_isWord_25 : decode cX9_isWord 25 = .ok (.getfield 15, 3) := by decide +kernel
theorem dX9_isWord_28 : decode cX9_isWord 28 = .ok (.iload_n 2, 1) := by decide +kernel
theorem dX9_isWord_29 : decode cX9_isWord 29 = .ok (.iload 4, 2) := by decide +kernel
theorem dX9_isWord_31 : decode cX9_isWord 31 = .ok (.iadd, 1) := by decide +kernel
theorem dX9_isWord_32 : decode cX9_isWord 32 = .ok (.baload, 1) := by decide +kernel
theorem dX9_isWord_33 : decode cX9_isWord 33 = .ok (.aload_n 1, 1) := by decide +kernel
theorem dX9_isWord_34 : decode cX9_isWord 34 = .ok (.iload 4, 2) := by decide +kernel
theorem dX9_isWord_36 : decode cX9_isWord 36 = .ok (.invokevirtual 52, 3) := by decide +kernel
theorem dX9_isWord_39 : decode cX9_isWord 39 = .ok (.if_icmp .eq 5, 3) := by decide +kernel
theorem dX9_isWord_42 : decode cX9_isWord 42 = .ok (.iconst 0, 1) := by decide +kernel
theorem dX9_isWord_43 : decode cX9_isWord 43 = .ok (.ireturn, 1) := by decide +kernel
theorem dX9_isWord_44 : decode cX9_isWord 44 = .ok (.iinc 4 1, 3) := by decide +kernel
theorem dX9_isWord_47 : decode cX9_isWord 47 = .ok (.goto (-32), 3) := by decide +kernel
theorem dX9_isWord_50 : decode cX9_isWord 50 = .ok (.iconst 1, 1) := by decide +kernel
theorem dX9_isWord_51 : decode cX9_isWord 51 = .ok (.ireturn, 1) := by decide +kernel
set_option maxRecDepth 20000 in
theorem ggX9_readsPart_X9_readsName : GoodIn wsX9_readsPart wsX9_readsName := goodIn_r _ [6, 1, 7, 8, 9, 10, 11, 12, 5, 13, 14, 15, 16, 29, 30, 31, 32, 33] (by decide +kernel) (by decide +kernel)
set_option maxRecDepth 20000 in
theorem gX9_readsPart_X9_readsName : GoodIn wsX9_readsPart (wsV RX9 70 RX9 yX9_readsName wsX9_readsName) := goodIn_app (goodIn_of _ (by decide +kernel)) ggX9_readsPart_X9_readsName
set_option maxRecDepth 20000 in
theorem ggX9_readsPart_X9_isHere : GoodIn wsX9_readsPart wsX9_isHere := goodIn_r _ [20, 1, 7, 8, 14, 15, 16, 29, 30, 31, 32, 33] (by decide +kernel) (by decide +kernel)
set_option maxRecDepth 20000 in
theorem gX9_readsPart_X9_isHere : GoodIn wsX9_readsPart (wsV RX9 36 RX9 yX9_isHere wsX9_isHere) := goodIn_app (goodIn_of _ (by decide +kernel)) ggX9_readsPart_X9_isHere
set_option maxRecDepth 20000 in
theorem ggX9_readsPart_X9_readsNumber : GoodIn wsX9_readsPart wsX9_readsNumber := goodIn_r _ [24, 1, 7, 8, 9, 25, 26, 27, 5, 28, 14, 15, 16, 29, 30, 31, 32, 33] (by decide +kernel) (by decide +kernel)
set_option maxRecDepth 20000 in
theorem gX9_readsPart_X9_readsNumber : GoodIn wsX9_readsPart (wsV RX9 74 RX9 yX9_readsNumber wsX9_readsNumber) := goodIn_app (goodIn_of _ (by decide +kernel)) ggX9_readsPart_X9_readsNumber
theorem dX9_readsPart_0 : decode cX9_readsPart 0 = .ok (.iload_n 2, 1) := by decide +kernel
theorem dX9_readsPart_1 : decode cX9_readsPart 1 = .ok (.bipush 97, 2) := by decide +kernel
theorem dX9_readsPart_3 : decode cX9_readsPart 3 = .ok (.if_icmp .ne 9, 3) := by decide +kernel
theorem dX9_readsPart_6 : decode cX9_readsPart 6 = .ok (.aload_n 0, 1) := by decide +kernel
theorem dX9_readsPart_7 : decode cX9_readsPart 7 = .ok (.iload_n 1, 1) := by decide +kernel
theorem dX9_readsPart_8 : decode cX9_readsPart 8 = .ok (.invokevirtual 70, 3) := by decide +kernel
theorem dX9_readsPart_11 : decode cX9_readsPart 11 = .ok (.ireturn, 1) := by decide +kernel
theorem dX9_readsPart_12 : decode cX9_readsPart 12 = .ok (.iload_n 2, 1) := by decide +kernel
theorem dX9_readsPart_13 : decode cX9_readsPart 13 = .ok (.bipush 45, 2) := by decide +kernel
theorem dX9_readsPart_15 : decode cX9_readsPart 15 = .ok (.if_icmp .ne 16, 3) := by decide +kernel
theorem dX9_readsPart_18 : decode cX9_readsPart 18 = .ok (.aload_n 0, 1) := by decide +kernel
theorem dX9_readsPart_19 : decode cX9_readsPart 19 = .ok (.bipush 45, 2) := by decide +kernel
theorem dX9_readsPart_21 : decode cX9_readsPart 21 = .ok (.invokevirtual 36, 3) := by decide +kernel
theorem dX9_readsPart_24 : decode cX9_readsPart 24 = .ok (.ifCond .eq 7, 3) := by decide +kernel
theorem dX9_readsPart_27 : decode cX9_readsPart 27 = .ok (.iconst 1, 1) := by decide +kernel
theorem dX9_readsPart_28 : decode cX9_readsPart 28 = .ok (.goto 4, 3) := by decide +kernel
theorem dX9_readsPart_31 : decode cX9_readsPart 31 = .ok (.iconst 0, 1) := by decide +kernel
theorem dX9_readsPart_32 : decode cX9_readsPart 32 = .ok (.istore_n 3, 1) := by decide +kernel
theorem dX9_readsPart_33 : decode cX9_readsPart 33 = .ok (.iload_n 3, 1) := by decide +kernel
theorem dX9_readsPart_34 : decode cX9_readsPart 34 = .ok (.ifCond .eq 13, 3) := by decide +kernel
theorem dX9_readsPart_37 : decode cX9_readsPart 37 = .ok (.aload_n 0, 1) := by decide +kernel
theorem dX9_readsPart_38 : decode cX9_readsPart 38 = .ok (.dup, 1) := by decide +kernel
theorem dX9_readsPart_39 : decode cX9_readsPart 39 = .ok (.getfield 19, 3) := by decide +kernel
theorem dX9_readsPart_42 : decode cX9_readsPart 42 = .ok (.iconst 1, 1) := by decide +kernel
theorem dX9_readsPart_43 : decode cX9_readsPart 43 = .ok (.iadd, 1) := by decide +kernel
theorem dX9_readsPart_44 : decode cX9_readsPart 44 = .ok (.putfield 19, 3) := by decide +kernel
theorem dX9_readsPart_47 : decode cX9_readsPart 47 = .ok (.aload_n 0, 1) := by decide +kernel
theorem dX9_readsPart_48 : decode cX9_readsPart 48 = .ok (.iload_n 1, 1) := by decide +kernel
theorem dX9_readsPart_49 : decode cX9_readsPart 49 = .ok (.iload_n 3, 1) := by decide +kernel
theorem dX9_readsPart_50 : decode cX9_readsPart 50 = .ok (.ifCond .eq 7, 3) := by decide +kernel
theorem dX9_readsPart_53 : decode cX9_readsPart 53 = .ok (.iconst (-1), 1) := by decide +kernel
theorem dX9_readsPart_54 : decode cX9_readsPart 54 = .ok (.goto 4, 3) := by decide +kernel
theorem dX9_readsPart_57 : decode cX9_readsPart 57 = .ok (.iconst 1, 1) := by decide +kernel
theorem dX9_readsPart_58 : decode cX9_readsPart 58 = .ok (.invokevirtual 74, 3) := by decide +kernel
theorem dX9_readsPart_61 : decode cX9_readsPart 61 = .ok (.ireturn, 1) := by decide +kernel
set_option maxRecDepth 20000 in
theorem ggX9_readsName_X9_isLetterHere : GoodIn wsX9_readsName wsX9_isLetterHere := goodIn_r _ [9, 1, 2, 3, 10, 11, 12, 13, 14, 15, 16, 17] (by decide +kernel) (by decide +kernel)
set_option maxRecDepth 20000 in
theorem gX9_readsName_X9_isLetterHere : GoodIn wsX9_readsName (wsV RX9 60 RX9 yX9_isLetterHere wsX9_isLetterHere) := goodIn_app (goodIn_of _ (by decide +kernel)) ggX9_readsName_X9_isLetterHere
theorem dX9_readsName_0 : decode cX9_readsName 0 = .ok (.iconst 0, 1) := by decide +kernel
theorem dX9_readsName_1 : decode cX9_readsName 1 = .ok (.istore_n 2, 1) := by decide +kernel
theorem dX9_readsName_2 : decode cX9_readsName 2 = .ok (.iconst 0, 1) := by decide +kernel
theorem dX9_readsName_3 : decode cX9_readsName 3 = .ok (.istore_n 3, 1) := by decide +kernel
theorem dX9_readsName_4 : decode cX9_readsName 4 = .ok (.aload_n 0, 1) := by decide +kernel
theorem dX9_readsName_5 : decode cX9_readsName 5 = .ok (.getfield 19, 3) := by decide +kernel
theorem dX9_readsName_8 : decode cX9_readsName 8 = .ok (.aload_n 0, 1) := by decide +kernel
theorem dX9_readsName_9 : decode cX9_readsName 9 = .ok (.getfield 9, 3) := by decide +kernel
theorem dX9_readsName_12 : decode cX9_readsName 12 = .ok (.if_icmp .ge 53, 3) := by decide +kernel
theorem dX9_readsName_15 : decode cX9_readsName 15 = .ok (.aload_n 0, 1) := by decide +kernel
theorem dX9_readsName_16 : decode cX9_readsName 16 = .ok (.invokevirtual 60, 3) := by decide +kernel
theorem dX9_readsName_19 : decode cX9_readsName 19 = .ok (.ifCond .eq 46, 3) := by decide +kernel
theorem dX9_readsName_22 : decode cX9_readsName 22 = .ok (.iload_n 3, 1) := by decide +kernel
theorem dX9_readsName_23 : decode cX9_readsName 23 = .ok (.iconst 4, 1) := by decide +kernel
theorem dX9_readsName_24 : decode cX9_readsName 24 = .ok (.if_icmp .ne 5, 3) := by decide +kernel
theorem dX9_readsName_27 : decode cX9_readsName 27 = .ok (.iconst 0, 1) := by decide +kernel
theorem dX9_readsName_28 : decode cX9_readsName 28 = .ok (.ireturn, 1) := by decide +kernel
theorem dX9_readsName_29 : decode cX9_readsName 29 = .ok (.iload_n 2, 1) := by decide +kernel
theorem dX9_readsName_30 : decode cX9_readsName 30 = .ok (.bipush 27, 2) := by decide +kernel
theorem dX9_readsName_32 : decode cX9_readsName 32 = .ok (.imul, 1) := by decide +kernel
theorem dX9_readsName_33 : decode cX9_readsName 33 = .ok (.aload_n 0, 1) := by decide +kernel
theorem dX9_readsName_34 : decode cX9_readsName 34 = .ok (.getfield 15, 3) := by decide +kernel
theorem dX9_readsName_37 : decode cX9_readsName 37 = .ok (.aload_n 0, 1) := by decide +kernel
theorem dX9_readsName_38 : decode cX9_readsName 38 = .ok (.getfield 19, 3) := by decide +kernel
theorem dX9_readsName_41 : decode cX9_readsName 41 = .ok (.baload, 1) := by decide +kernel
theorem dX9_readsName_42 : decode cX9_readsName 42 = .ok (.iadd, 1) := by decide +kernel
theorem dX9_readsName_43 : decode cX9_readsName 43 = .ok (.bipush 97, 2) := by decide +kernel
theorem dX9_readsName_45 : decode cX9_readsName 45 = .ok (.isub, 1) := by decide +kernel
theorem dX9_readsName_46 : decode cX9_readsName 46 = .ok (.iconst 1, 1) := by decide +kernel
theorem dX9_readsName_47 : decode cX9_readsName 47 = .ok (.iadd, 1) := by decide +kernel
theorem dX9_readsName_48 : decode cX9_readsName 48 = .ok (.istore_n 2, 1) := by decide +kernel
theorem dX9_readsName_49 : decode cX9_readsName 49 = .ok (.iinc 3 1, 3) := by decide +kernel
theorem dX9_readsName_52 : decode cX9_readsName 52 = .ok (.aload_n 0, 1) := by decide +kernel
theorem dX9_readsName_53 : decode cX9_readsName 53 = .ok (.dup, 1) := by decide +kernel
theorem dX9_readsName_54 : decode cX9_readsName 54 = .ok (.getfield 19, 3) := by decide +kernel
theorem dX9_readsName_57 : decode cX9_readsName 57 = .ok (.iconst 1, 1) := by decide +kernel
theorem dX9_readsName_58 : decode cX9_readsName 58 = .ok (.iadd, 1) := by decide +kernel
theorem dX9_readsName_59 : decode cX9_readsName 59 = .ok (.putfield 19, 3) := by decide +kernel
theorem dX9_readsName_62 : decode cX9_readsName 62 = .ok (.goto (-58), 3) := by decide +kernel
theorem dX9_readsName_65 : decode cX9_readsName 65 = .ok (.aload_n 0, 1) := by decide +kernel
theorem dX9_readsName_66 : decode cX9_readsName 66 = .ok (.getfield 25, 3) := by decide +kernel
theorem dX9_readsName_69 : decode cX9_readsName 69 = .ok (.iload_n 1, 1) := by decide +kernel
theorem dX9_readsName_70 : decode cX9_readsName 70 = .ok (.iload_n 2, 1) := by decide +kernel
theorem dX9_readsName_71 : decode cX9_readsName 71 = .ok (.iastore, 1) := by decide +kernel
theorem dX9_readsName_72 : decode cX9_readsName 72 = .ok (.iload_n 3, 1) := by decide +kernel
theorem dX9_readsName_73 : decode cX9_readsName 73 = .ok (.ifCond .le 7, 3) := by decide +kernel
theorem dX9_readsName_76 : decode cX9_readsName 76 = .ok (.iconst 1, 1) := by decide +kernel
theorem dX9_readsName_77 : decode cX9_readsName 77 = .ok (.goto 4, 3) := by decide +kernel
theorem dX9_readsName_80 : decode cX9_readsName 80 = .ok (.iconst 0, 1) := by decide +kernel
theorem dX9_readsName_81 : decode cX9_readsName 81 = .ok (.ireturn, 1) := by decide +kernel
set_option maxRecDepth 20000 in
theorem ggX9_readsNumber_X9_isFigureHere : GoodIn wsX9_readsNumber wsX9_isFigureHere := goodIn_r _ [9, 1, 2, 3, 10, 11, 12, 13, 14, 15, 16, 17] (by decide +kernel) (by decide +kernel)
set_option maxRecDepth 20000 in
theorem gX9_readsNumber_X9_isFigureHere : GoodIn wsX9_readsNumber (wsV RX9 78 RX9 yX9_isFigureHere wsX9_isFigureHere) := goodIn_app (goodIn_of _ (by decide +kernel)) ggX9_readsNumber_X9_isFigureHere
theorem dX9_readsNumber_0 : decode cX9_readsNumber 0 = .ok (.iconst 0, 1) := by decide +kernel
theorem dX9_readsNumber_1 : decode cX9_readsNumber 1 = .ok (.istore_n 3, 1) := by decide +kernel
theorem dX9_readsNumber_2 : decode cX9_readsNumber 2 = .ok (.iconst 0, 1) := by decide +kernel
theorem dX9_readsNumber_3 : decode cX9_readsNumber 3 = .ok (.istore 4, 2) := by decide +kernel
theorem dX9_readsNumber_5 : decode cX9_readsNumber 5 = .ok (.aload_n 0, 1) := by decide +kernel
theorem dX9_readsNumber_6 : decode cX9_readsNumber 6 = .ok (.getfield 19, 3) := by decide +kernel
theorem dX9_readsNumber_9 : decode cX9_readsNumber 9 = .ok (.aload_n 0, 1) := by decide +kernel
theorem dX9_readsNumber_10 : decode cX9_readsNumber 10 = .ok (.getfield 9, 3) := by decide +kernel
theorem dX9_readsNumber_13 : decode cX9_readsNumber 13 = .ok (.if_icmp .ge 52, 3) := by decide +kernel
theorem dX9_readsNumber_16 : decode cX9_readsNumber 16 = .ok (.aload_n 0, 1) := by decide +kernel
theorem dX9_readsNumber_17 : decode cX9_readsNumber 17 = .ok (.invokevirtual 78, 3) := by decide +kernel
theorem dX9_readsNumber_20 : decode cX9_readsNumber 20 = .ok (.ifCond .eq 45, 3) := by decide +kernel
theorem dX9_readsNumber_23 : decode cX9_readsNumber 23 = .ok (.iload 4, 2) := by decide +kernel
theorem dX9_readsNumber_25 : decode cX9_readsNumber 25 = .ok (.iconst 3, 1) := by decide +kernel
theorem dX9_readsNumber_26 : decode cX9_readsNumber 26 = .ok (.if_icmp .ne 5, 3) := by decide +kernel
theorem dX9_readsNumber_29 : decode cX9_readsNumber 29 = .ok (.iconst 0, 1) := by decide +kernel
theorem dX9_readsNumber_30 : decode cX9_readsNumber 30 = .ok (.ireturn, 1) := by decide +kernel
theorem dX9_readsNumber_31 : decode cX9_readsNumber 31 = .ok (.iload_n 3, 1) := by decide +kernel
theorem dX9_readsNumber_32 : decode cX9_readsNumber 32 = .ok (.bipush 10, 2) := by decide +kernel
theorem dX9_readsNumber_34 : decode cX9_readsNumber 34 = .ok (.imul, 1) := by decide +kernel
theorem dX9_readsNumber_35 : decode cX9_readsNumber 35 = .ok (.aload_n 0, 1) := by decide +kernel
theorem dX9_readsNumber_36 : decode cX9_readsNumber 36 = .ok (.getfield 15, 3) := by decide +kernel
theorem dX9_readsNumber_39 : decode cX9_readsNumber 39 = .ok (.aload_n 0, 1) := by decide +kernel
theorem dX9_readsNumber_40 : decode cX9_readsNumber 40 = .ok (.getfield 19, 3) := by decide +kernel
theorem dX9_readsNumber_43 : decode cX9_readsNumber 43 = .ok (.baload, 1) := by decide +kernel
theorem dX9_readsNumber_44 : decode cX9_readsNumber 44 = .ok (.iadd, 1) := by decide +kernel
theorem dX9_readsNumber_45 : decode cX9_readsNumber 45 = .ok (.bipush 48, 2) := by decide +kernel
theorem dX9_readsNumber_47 : decode cX9_readsNumber 47 = .ok (.isub, 1) := by decide +kernel
theorem dX9_readsNumber_48 : decode cX9_readsNumber 48 = .ok (.istore_n 3, 1) := by decide +kernel
theorem dX9_readsNumber_49 : decode cX9_readsNumber 49 = .ok (.iinc 4 1, 3) := by decide +kernel
theorem dX9_readsNumber_52 : decode cX9_readsNumber 52 = .ok (.aload_n 0, 1) := by decide +kernel
theorem dX9_readsNumber_53 : decode cX9_readsNumber 53 = .ok (.dup, 1) := by decide +kernel
theorem dX9_readsNumber_54 : decode cX9_readsNumber 54 = .ok (.getfield 19, 3) := by decide +kernel
theorem dX9_readsNumber_57 : decode cX9_readsNumber 57 = .ok (.iconst 1, 1) := by decide +kernel
theorem dX9_readsNumber_58 : decode cX9_readsNumber 58 = .ok (.iadd, 1) := by decide +kernel
theorem dX9_readsNumber_59 : decode cX9_readsNumber 59 = .ok (.putfield 19, 3) := by decide +kernel
theorem dX9_readsNumber_62 : decode cX9_readsNumber 62 = .ok (.goto (-57), 3) := by decide +kernel
theorem dX9_readsNumber_65 : decode cX9_readsNumber 65 = .ok (.aload_n 0, 1) := by decide +kernel
theorem dX9_readsNumber_66 : decode cX9_readsNumber 66 = .ok (.getfield 25, 3) := by decide +kernel
theorem dX9_readsNumber_69 : decode cX9_readsNumber 69 = .ok (.iload_n 1, 1) := by decide +kernel
theorem dX9_readsNumber_70 : decode cX9_readsNumber 70 = .ok (.iload_n 2, 1) := by decide +kernel
theorem dX9_readsNumber_71 : decode cX9_readsNumber 71 = .ok (.iload_n 3, 1) := by decide +kernel
theorem dX9_readsNumber_72 : decode cX9_readsNumber 72 = .ok (.imul, 1) := by decide +kernel
theorem dX9_readsNumber_73 : decode cX9_readsNumber 73 = .ok (.iastore, 1) := by decide +kernel
theorem dX9_readsNumber_74 : decode cX9_readsNumber 74 = .ok (.iload 4, 2) := by decide +kernel
theorem dX9_readsNumber_76 : decode cX9_readsNumber 76 = .ok (.ifCond .le 7, 3) := by decide +kernel
theorem dX9_readsNumber_79 : decode cX9_readsNumber 79 = .ok (.iconst 1, 1) := by decide +kernel
theorem dX9_readsNumber_80 : decode cX9_readsNumber 80 = .ok (.goto 4, 3) := by decide +kernel
theorem dX9_readsNumber_83 : decode cX9_readsNumber 83 = .ok (.iconst 0, 1) := by decide +kernel
theorem dX9_readsNumber_84 : decode cX9_readsNumber 84 = .ok (.ireturn, 1) := by decide +kernel
set_option maxRecDepth 20000 in
theorem ggX9_isHere_X11_isWithin : GoodIn wsX9_isHere wsX11_isWithin := goodIn_r _ [6] (by decide +kernel) (by decide +kernel)
set_option maxRecDepth 20000 in
theorem gX9_isHere_X11_isWithin_n81 : GoodIn wsX9_isHere (wsX11_isWithin) := ggX9_isHere_X11_isWithin
theorem dX9_isHere_0 : decode cX9_isHere 0 = .ok (.aload_n 0, 1) := by decide +kernel
theorem dX9_isHere_1 : decode cX9_isHere 1 = .ok (.getfield 19, 3) := by decide +kernel
theorem dX9_isHere_4 : decode cX9_isHere 4 = .ok (.iconst 0, 1) := by decide +kernel
theorem dX9_isHere_5 : decode cX9_isHere 5 = .ok (.aload_n 0, 1) := by decide +kernel
theorem dX9_isHere_6 : decode cX9_isHere 6 = .ok (.getfield 9, 3) := by decide +kernel
theorem dX9_isHere_9 : decode cX9_isHere 9 = .ok (.iconst 1, 1) := by decide +kernel
theorem dX9_isHere_10 : decode cX9_isHere 10 = .ok (.isub, 1) := by decide +kernel
theorem dX9_isHere_11 : decode cX9_isHere 11 = .ok (.invokestatic 81, 3) := by decide +kernel
theorem dX9_isHere_14 : decode cX9_isHere 14 = .ok (.ifCond .eq 20, 3) := by decide +kernel
theorem dX9_isHere_17 : decode cX9_isHere 17 = .ok (.aload_n 0, 1) := by decide +kernel
theorem dX9_isHere_18 : decode cX9_isHere 18 = .ok (.getfield 15, 3) := by decide +kernel
theorem dX9_isHere_21 : decode cX9_isHere 21 = .ok (.aload_n 0, 1) := by decide +kernel
theorem dX9_isHere_22 : decode cX9_isHere 22 = .ok (.getfield 19, 3) := by decide +kernel
theorem dX9_isHere_25 : decode cX9_isHere 25 = .ok (.baload, 1) := by decide +kernel
theorem dX9_isHere_26 : decode cX9_isHere 26 = .ok (.iload_n 1, 1) := by decide +kernel
theorem dX9_isHere_27 : decode cX9_isHere 27 = .ok (.if_icmp .ne 7, 3) := by decide +kernel
theorem dX9_isHere_30 : decode cX9_isHere 30 = .ok (.iconst 1, 1) := by decide +kernel
theorem dX9_isHere_31 : decode cX9_isHere 31 = .ok (.goto 4, 3) := by decide +kernel
theorem dX9_isHere_34 : decode cX9_isHere 34 = .ok (.iconst 0, 1) := by decide +kernel
theorem dX9_isHere_35 : decode cX9_isHere 35 = .ok (.ireturn, 1) := by decide +kernel
set_option maxRecDepth 20000 in
theorem ggX9_isLetterHere_X11_isWithin : GoodIn wsX9_isLetterHere wsX11_isWithin := goodIn_r _ [6] (by decide +kernel) (by decide +kernel)
set_option maxRecDepth 20000 in
theorem gX9_isLetterHere_X11_isWithin_n81 : GoodIn wsX9_isLetterHere (wsX11_isWithin) := ggX9_isLetterHere_X11_isWithin
theorem dX9_isLetterHere_0 : decode cX9_isLetterHere 0 = .ok (.aload_n 0, 1) := by decide +kernel
theorem dX9_isLetterHere_1 : decode cX9_isLetterHere 1 = .ok (.getfield 19, 3) := by decide +kernel
theorem dX9_isLetterHere_4 : decode cX9_isLetterHere 4 = .ok (.iconst 0, 1) := by decide +kernel
theorem dX9_isLetterHere_5 : decode cX9_isLetterHere 5 = .ok (.aload_n 0, 1) := by decide +kernel
theorem dX9_isLetterHere_6 : decode cX9_isLetterHere 6 = .ok (.getfield 9, 3) := by decide +kernel
theorem dX9_isLetterHere_9 : decode cX9_isLetterHere 9 = .ok (.iconst 1, 1) := by decide +kernel
theorem dX9_isLetterHere_10 : decode cX9_isLetterHere 10 = .ok (.isub, 1) := by decide +kernel
theorem dX9_isLetterHere_11 : decode cX9_isLetterHere 11 = .ok (.invokestatic 81, 3) := by decide +kernel
theorem dX9_isLetterHere_14 : decode cX9_isLetterHere 14 = .ok (.ifCond .eq 26, 3) := by decide +kernel
theorem dX9_isLetterHere_17 : decode cX9_isLetterHere 17 = .ok (.aload_n 0, 1) := by decide +kernel
theorem dX9_isLetterHere_18 : decode cX9_isLetterHere 18 = .ok (.getfield 15, 3) := by decide +kernel
theorem dX9_isLetterHere_21 : decode cX9_isLetterHere 21 = .ok (.aload_n 0, 1) := by decide +kernel
theorem dX9_isLetterHere_22 : decode cX9_isLetterHere 22 = .ok (.getfield 19, 3) := by decide +kernel
theorem dX9_isLetterHere_25 : decode cX9_isLetterHere 25 = .ok (.baload, 1) := by decide +kernel
theorem dX9_isLetterHere_26 : decode cX9_isLetterHere 26 = .ok (.bipush 97, 2) := by decide +kernel
theorem dX9_isLetterHere_28 : decode cX9_isLetterHere 28 = .ok (.bipush 122, 2) := by decide +kernel
theorem dX9_isLetterHere_30 : decode cX9_isLetterHere 30 = .ok (.invokestatic 81, 3) := by decide +kernel
theorem dX9_isLetterHere_33 : decode cX9_isLetterHere 33 = .ok (.ifCond .eq 7, 3) := by decide +kernel
theorem dX9_isLetterHere_36 : decode cX9_isLetterHere 36 = .ok (.iconst 1, 1) := by decide +kernel
theorem dX9_isLetterHere_37 : decode cX9_isLetterHere 37 = .ok (.goto 4, 3) := by decide +kernel
theorem dX9_isLetterHere_40 : decode cX9_isLetterHere 40 = .ok (.iconst 0, 1) := by decide +kernel
theorem dX9_isLetterHere_41 : decode cX9_isLetterHere 41 = .ok (.ireturn, 1) := by decide +kernel
set_option maxRecDepth 20000 in
theorem ggX9_isFigureHere_X11_isWithin : GoodIn wsX9_isFigureHere wsX11_isWithin := goodIn_r _ [6] (by decide +kernel) (by decide +kernel)
set_option maxRecDepth 20000 in
theorem gX9_isFigureHere_X11_isWithin_n81 : GoodIn wsX9_isFigureHere (wsX11_isWithin) := ggX9_isFigureHere_X11_isWithin
theorem dX9_isFigureHere_0 : decode cX9_isFigureHere 0 = .ok (.aload_n 0, 1) := by decide +kernel
theorem dX9_isFigureHere_1 : decode cX9_isFigureHere 1 = .ok (.getfield 19, 3) := by decide +kernel
theorem dX9_isFigureHere_4 : decode cX9_isFigureHere 4 = .ok (.iconst 0, 1) := by decide +kernel
theorem dX9_isFigureHere_5 : decode cX9_isFigureHere 5 = .ok (.aload_n 0, 1) := by decide +kernel
theorem dX9_isFigureHere_6 : decode cX9_isFigureHere 6 = .ok (.getfield 9, 3) := by decide +kernel
theorem dX9_isFigureHere_9 : decode cX9_isFigureHere 9 = .ok (.iconst 1, 1) := by decide +kernel
theorem dX9_isFigureHere_10 : decode cX9_isFigureHere 10 = .ok (.isub, 1) := by decide +kernel
theorem dX9_isFigureHere_11 : decode cX9_isFigureHere 11 = .ok (.invokestatic 81, 3) := by decide +kernel
theorem dX9_isFigureHere_14 : decode cX9_isFigureHere 14 = .ok (.ifCond .eq 26, 3) := by decide +kernel
theorem dX9_isFigureHere_17 : decode cX9_isFigureHere 17 = .ok (.aload_n 0, 1) := by decide +kernel
theorem dX9_isFigureHere_18 : decode cX9_isFigureHere 18 = .ok (.getfield 15, 3) := by decide +kernel
theorem dX9_isFigureHere_21 : decode cX9_isFigureHere 21 = .ok (.aload_n 0, 1) := by decide +kernel
theorem dX9_isFigureHere_22 : decode cX9_isFigureHere 22 = .ok (.getfield 19, 3) := by decide +kernel
theorem dX9_isFigureHere_25 : decode cX9_isFigureHere 25 = .ok (.baload, 1) := by decide +kernel
theorem dX9_isFigureHere_26 : decode cX9_isFigureHere 26 = .ok (.bipush 48, 2) := by decide +kernel
theorem dX9_isFigureHere_28 : decode cX9_isFigureHere 28 = .ok (.bipush 57, 2) := by decide +kernel
theorem dX9_isFigureHere_30 : decode cX9_isFigureHere 30 = .ok (.invokestatic 81, 3) := by decide +kernel
theorem dX9_isFigureHere_33 : decode cX9_isFigureHere 33 = .ok (.ifCond .eq 7, 3) := by decide +kernel
theorem dX9_isFigureHere_36 : decode cX9_isFigureHere 36 = .ok (.iconst 1, 1) := by decide +kernel
theorem dX9_isFigureHere_37 : decode cX9_isFigureHere 37 = .ok (.goto 4, 3) := by decide +kernel
theorem dX9_isFigureHere_40 : decode cX9_isFigureHere 40 = .ok (.iconst 0, 1) := by decide +kernel
theorem dX9_isFigureHere_41 : decode cX9_isFigureHere 41 = .ok (.ireturn, 1) := by decide +kernel
theorem dX9_wordOf_0 : decode cX9_wordOf 0 = .ok (.iload_n 0, 1) := by decide +kernel
theorem dX9_wordOf_1 : decode cX9_wordOf 1 = .ok (.tableswitch 43 0 3 #[31, 34, 37, 40], 31) := by decide +kernel
theorem dX9_wordOf_32 : decode cX9_wordOf 32 = .ok (.ldc 85, 2) := by decide +kernel
theorem dX9_wordOf_34 : decode cX9_wordOf 34 = .ok (.areturn, 1) := by decide +kernel
theorem dX9_wordOf_35 : decode cX9_wordOf 35 = .ok (.ldc 87, 2) := by decide +kernel
theorem dX9_wordOf_37 : decode cX9_wordOf 37 = .ok (.areturn, 1) := by decide +kernel
theorem dX9_wordOf_38 : decode cX9_wordOf 38 = .ok (.ldc 89, 2) := by decide +kernel
theorem dX9_wordOf_40 : decode cX9_wordOf 40 = .ok (.areturn, 1) := by decide +kernel
theorem dX9_wordOf_41 : decode cX9_wordOf 41 = .ok (.ldc 91, 2) := by decide +kernel
theorem dX9_wordOf_43 : decode cX9_wordOf 43 = .ok (.areturn, 1) := by decide +kernel
theorem dX9_wordOf_44 : decode cX9_wordOf 44 = .ok (.ldc 93, 2) := by decide +kernel
theorem dX9_wordOf_46 : decode cX9_wordOf 46 = .ok (.areturn, 1) := by decide +kernel
theorem dX9_shapeOf_0 : decode cX9_shapeOf 0 = .ok (.iload_n 0, 1) := by decide +kernel
theorem dX9_shapeOf_1 : decode cX9_shapeOf 1 = .ok (.tableswitch 43 0 3 #[31, 34, 37, 40], 31) := by decide +kernel
theorem dX9_shapeOf_32 : decode cX9_shapeOf 32 = .ok (.ldc 95, 2) := by decide +kernel
theorem dX9_shapeOf_34 : decode cX9_shapeOf 34 = .ok (.areturn, 1) := by decide +kernel
theorem dX9_shapeOf_35 : decode cX9_shapeOf 35 = .ok (.ldc 97, 2) := by decide +kernel
theorem dX9_shapeOf_37 : decode cX9_shapeOf 37 = .ok (.areturn, 1) := by decide +kernel
theorem dX9_shapeOf_38 : decode cX9_shapeOf 38 = .ok (.ldc 99, 2) := by decide +kernel
theorem dX9_shapeOf_40 : decode cX9_shapeOf 40 = .ok (.areturn, 1) := by decide +kernel
theorem dX9_shapeOf_41 : decode cX9_shapeOf 41 = .ok (.ldc 101, 2) := by decide +kernel
theorem dX9_shapeOf_43 : decode cX9_shapeOf 43 = .ok (.areturn, 1) := by decide +kernel
theorem dX9_shapeOf_44 : decode cX9_shapeOf 44 = .ok (.ldc 103, 2) := by decide +kernel
theorem dX9_shapeOf_46 : decode cX9_shapeOf 46 = .ok (.areturn, 1) := by decide +kernel
theorem dX10_init_0 : decode cX10_init 0 = .ok (.aload_n 0, 1) := by decide +kernel
theorem dX10_init_1 : decode cX10_init 1 = .ok (.invokespecial 3, 3) := by decide +kernel
theorem dX10_init_4 : decode cX10_init 4 = .ok (.aload_n 0, 1) := by decide +kernel
theorem dX10_init_5 : decode cX10_init 5 = .ok (.iconst 0, 1) := by decide +kernel
theorem dX10_init_6 : decode cX10_init 6 = .ok (.putfield 9, 3) := by decide +kernel
theorem dX10_init_9 : decode cX10_init 9 = .ok (.aload_n 0, 1) := by decide +kernel
theorem dX10_init_10 : decode cX10_init 10 = .ok (.iconst 0, 1) := by decide +kernel
theorem dX10_init_11 : decode cX10_init 11 = .ok (.putfield 15, 3) := by decide +kernel
theorem dX10_init_14 : decode cX10_init 14 = .ok (.aload_n 0, 1) := by decide +kernel
theorem dX10_init_15 : decode cX10_init 15 = .ok (.iconst 0, 1) := by decide +kernel
theorem dX10_init_16 : decode cX10_init 16 = .ok (.putfield 18, 3) := by decide +kernel
theorem dX10_init_19 : decode cX10_init 19 = .ok (.return_, 1) := by decide +kernel
set_option maxRecDepth 20000 in
theorem ggX10_find_X0_allWeight : GoodIn wsX10_find wsX0_allWeight := goodIn_r _ [14, 15, 16, 17, 18, 19, 20, 21, 22, 23, 13, 24, 25, 26, 27, 28, 29, 30, 31, 82, 83, 84, 85, 86, 87, 88, 89, 90, 91, 92, 93, 94, 95, 96, 97, 98, 99, 100, 101] (by decide +kernel) (by decide +kernel)
set_option maxRecDepth 20000 in
theorem gX10_find_X0_allWeight : GoodIn wsX10_find (wsV RX10 21 RX0 yX0_allWeight wsX0_allWeight) := goodIn_app (goodIn_of _ (by decide +kernel)) ggX10_find_X0_allWeight
set_option maxRecDepth 20000 in
theorem ggX10_find_X0_offOf : GoodIn wsX10_find wsX0_offOf := goodIn_r _ [35, 15, 36, 37, 11, 12, 13, 14, 16, 17, 18, 19, 20, 21, 22, 23, 24, 25, 26, 27, 28, 29, 30, 31, 38, 39, 40, 41, 42, 43, 44, 3, 4, 5, 45, 46, 47, 48, 49, 50, 51, 52, 53, 54, 55, 56, 57, 58, 59, 60, 61, 62, 63, 64, 65, 66, 67, 68, 69, 70, 71, 72, 73, 74, 75, 76, 77, 82, 83, 84, 85, 86, 87, 88, 89, 90, 91, 92, 93, 94, 95, 96, 97, 98, 99, 100, 101] (by decide +kernel) (by decide +kernel)
set_option maxRecDepth 20000 in
theorem gX10_find_X0_offOf : GoodIn wsX10_find (wsV RX10 27 RX0 yX0_offOf wsX0_offOf) := goodIn_app (goodIn_of _ (by decide +kernel)) ggX10_find_X0_offOf
set_option maxRecDepth 20000 in
theorem ggX10_find_X2_startOf : GoodIn wsX10_find wsX2_startOf := goodIn_r _ [42, 43, 44, 3, 4, 5, 45, 46, 47, 41, 48, 49, 50, 51, 52, 53, 54, 55, 56, 57, 58, 59, 60, 61, 62, 63, 64, 65, 66, 85, 86, 87, 88, 89, 90] (by decide +kernel) (by decide +kernel)
set_option maxRecDepth 20000 in
theorem gX10_find_X2_startOf : GoodIn wsX10_find (wsV RX10 41 RX2 yX2_startOf wsX2_startOf) := goodIn_app (goodIn_of _ (by decide +kernel)) ggX10_find_X2_startOf
theorem dX10_find_0 : decode cX10_find 0 = .ok (.aload_n 1, 1) := by decide +kernel
theorem dX10_find_1 : decode cX10_find 1 = .ok (.invokevirtual 21, 3) := by decide +kernel
theorem dX10_find_4 : decode cX10_find 4 = .ok (.istore_n 2, 1) := by decide +kernel
theorem dX10_find_5 : decode cX10_find 5 = .ok (.iconst 0, 1) := by decide +kernel
theorem dX10_find_6 : decode cX10_find 6 = .ok (.istore_n 3, 1) := by decide +kernel
theorem dX10_find_7 : decode cX10_find 7 = .ok (.iconst 0, 1) := by decide +kernel
theorem dX10_find_8 : decode cX10_find 8 = .ok (.istore 4, 2) := by decide +kernel
theorem dX10_find_10 : decode cX10_find 10 = .ok (.iload 4, 2) := by decide +kernel
theorem dX10_find_12 : decode cX10_find 12 = .ok (.bipush 40, 2) := by decide +kernel
theorem dX10_find_14 : decode cX10_find 14 = .ok (.if_icmp .gt 94, 3) := by decide +kernel
theorem dX10_find_17 : decode cX10_find 17 = .ok (.iload 4, 2) := by decide +kernel
theorem dX10_find_19 : decode cX10_find 19 = .ok (.iconst 2, 1) := by decide +kernel
theorem dX10_find_20 : decode cX10_find 20 = .ok (.irem, 1) := by decide +kernel
theorem dX10_find_21 : decode cX10_find 21 = .ok (.ifCond .ne 10, 3) := by decide +kernel
theorem dX10_find_24 : decode cX10_find 24 = .ok (.iload 4, 2) := by decide +kernel
theorem dX10_find_26 : decode cX10_find 26 = .ok (.iconst 2, 1) := by decide +kernel
theorem dX10_find_27 : decode cX10_find 27 = .ok (.idiv, 1) := by decide +kernel
theorem dX10_find_28 : decode cX10_find 28 = .ok (.goto 10, 3) := by decide +kernel
theorem dX10_find_31 : decode cX10_find 31 = .ok (.iload 4, 2) := by decide +kernel
theorem dX10_find_33 : decode cX10_find 33 = .ok (.iconst 2, 1) := by decide +kernel
theorem dX10_find_34 : decode cX10_find 34 = .ok (.idiv, 1) := by decide +kernel
theorem dX10_find_35 : decode cX10_find 35 = .ok (.ineg, 1) := by decide +kernel
theorem dX10_find_36 : decode cX10_find 36 = .ok (.iconst 1, 1) := by decide +kernel
theorem dX10_find_37 : decode cX10_find 37 = .ok (.isub, 1) := by decide +kernel
theorem dX10_find_38 : decode cX10_find 38 = .ok (.istore 5, 2) := by decide +kernel
theorem dX10_find_40 : decode cX10_find 40 = .ok (.aload_n 1, 1) := by decide +kernel
theorem dX10_find_41 : decode cX10_find 41 = .ok (.iload 5, 2) := by decide +kernel
theorem dX10_find_43 : decode cX10_find 43 = .ok (.invokevirtual 27, 3) := by decide +kernel
theorem dX10_find_46 : decode cX10_find 46 = .ok (.istore 6, 2) := by decide +kernel
theorem dX10_find_48 : decode cX10_find 48 = .ok (.iload 6, 2) := by decide +kernel
theorem dX10_find_50 : decode cX10_find 50 = .ok (.ldc 31, 2) := by decide +kernel
theorem dX10_find_52 : decode cX10_find 52 = .ok (.if_icmp .eq 50, 3) := by decide +kernel
theorem dX10_find_55 : decode cX10_find 55 = .ok (.iload_n 3, 1) := by decide +kernel
theorem dX10_find_56 : decode cX10_find 56 = .ok (.ifCond .eq 18, 3) := by decide +kernel
theorem dX10_find_59 : decode cX10_find 59 = .ok (.iload 6, 2) := by decide +kernel
theorem dX10_find_61 : decode cX10_find 61 = .ok (.invokestatic 32, 3) := by decide +kernel
theorem dX10_find_64 : decode cX10_find 64 = .ok (.aload_n 0, 1) := by decide +kernel
theorem dX10_find_65 : decode cX10_find 65 = .ok (.getfield 18, 3) := by decide +kernel
theorem dX10_find_68 : decode cX10_find 68 = .ok (.invokestatic 32, 3) := by decide +kernel
theorem dX10_find_71 : decode cX10_find 71 = .ok (.if_icmp .ge 31, 3) := by decide +kernel
theorem dX10_find_74 : decode cX10_find 74 = .ok (.iconst 1, 1) := by decide +kernel
theorem dX10_find_75 : decode cX10_find 75 = .ok (.istore_n 3, 1) := by decide +kernel
theorem dX10_find_76 : decode cX10_find 76 = .ok (.aload_n 0, 1) := by decide +kernel
theorem dX10_find_77 : decode cX10_find 77 = .ok (.iload 5, 2) := by decide +kernel
theorem dX10_find_79 : decode cX10_find 79 = .ok (.putfield 9, 3) := by decide +kernel
theorem dX10_find_82 : decode cX10_find 82 = .ok (.aload_n 0, 1) := by decide +kernel
theorem dX10_find_83 : decode cX10_find 83 = .ok (.aload_n 1, 1) := by decide +kernel
theorem dX10_find_84 : decode cX10_find 84 = .ok (.getfield 37, 3) := by decide +kernel
theorem dX10_find_87 : decode cX10_find 87 = .ok (.iload 5, 2) := by decide +kernel
theorem dX10_find_89 : decode cX10_find 89 = .ok (.iload_n 2, 1) := by decide +kernel
theorem dX10_find_90 : decode cX10_find 90 = .ok (.invokevirtual 41, 3) := by decide +kernel
theorem dX10_find_93 : decode cX10_find 93 = .ok (.putfield 15, 3) := by decide +kernel
theorem dX10_find_96 : decode cX10_find 96 = .ok (.aload_n 0, 1) := by decide +kernel
theorem dX10_find_97 : decode cX10_find 97 = .ok (.iload 6, 2) := by decide +kernel
theorem dX10_find_99 : decode cX10_find 99 = .ok (.putfield 18, 3) := by decide +kernel
theorem dX10_find_102 : decode cX10_find 102 = .ok (.iinc 4 1, 3) := by decide +kernel
theorem dX10_find_105 : decode cX10_find 105 = .ok (.goto (-95), 3) := by decide +kernel
theorem dX10_find_108 : decode cX10_find 108 = .ok (.iload_n 3, 1) := by decide +kernel
theorem dX10_find_109 : decode cX10_find 109 = .ok (.ireturn, 1) := by decide +kernel
set_option maxRecDepth 20000 in
theorem ggX11_init_X0_init : GoodIn wsX11_init wsX0_init := goodIn_r _ [39, 40, 2, 3, 41, 42, 43, 44, 45, 46, 47, 48, 49, 50, 51, 52, 53, 54, 55, 56, 57, 58, 59, 60, 61, 62, 63, 64, 65, 66, 67, 68, 69, 70, 71, 72, 73, 74, 75, 76, 77, 78, 79, 187, 188, 189, 190, 191, 192, 153, 154, 155, 193, 194, 195, 196, 197, 198, 199, 200, 201, 202, 203] (by decide +kernel) (by decide +kernel)
set_option maxRecDepth 20000 in
theorem gX11_init_X0_init_n11 : GoodIn wsX11_init (wsX0_init) := ggX11_init_X0_init
set_option maxRecDepth 20000 in
theorem ggX11_init_X6_init : GoodIn wsX11_init wsX6_init := goodIn_r _ [81, 82, 2, 3, 60, 83, 84, 85, 166, 167] (by decide +kernel) (by decide +kernel)
set_option maxRecDepth 20000 in
theorem gX11_init_X6_init_n27 : GoodIn wsX11_init (wsX6_init) := ggX11_init_X6_init
set_option maxRecDepth 20000 in
theorem ggX11_init_X9_init : GoodIn wsX11_init wsX9_init := goodIn_r _ [87, 88, 2, 3, 89, 90, 91, 92, 93, 60, 94, 168, 169, 170, 171, 172] (by decide +kernel) (by decide +kernel)
set_option maxRecDepth 20000 in
theorem gX11_init_X9_init_n34 : GoodIn wsX11_init (wsX9_init) := ggX11_init_X9_init
set_option maxRecDepth 20000 in
theorem ggX11_init_X4_init : GoodIn wsX11_init wsX4_init := goodIn_r _ [96, 97, 2, 3, 60, 98, 99, 173, 174] (by decide +kernel) (by decide +kernel)
set_option maxRecDepth 20000 in
theorem gX11_init_X4_init_n41 : GoodIn wsX11_init (wsX4_init) := ggX11_init_X4_init
set_option maxRecDepth 20000 in
theorem ggX11_init_X10_init : GoodIn wsX11_init wsX10_init := goodIn_r _ [101, 102, 2, 3, 103, 104, 105, 175, 176, 177] (by decide +kernel) (by decide +kernel)
set_option maxRecDepth 20000 in
theorem gX11_init_X10_init_n48 : GoodIn wsX11_init (wsX10_init) := ggX11_init_X10_init
set_option maxRecDepth 20000 in
theorem ggX11_init_X7_init : GoodIn wsX11_init wsX7_init := goodIn_r _ [107, 108, 2, 3, 109, 110, 178, 179] (by decide +kernel) (by decide +kernel)
set_option maxRecDepth 20000 in
theorem gX11_init_X7_init_n55 : GoodIn wsX11_init (wsX7_init) := ggX11_init_X7_init
set_option maxRecDepth 20000 in
theorem ggX11_init_X3_init : GoodIn wsX11_init wsX3_init := goodIn_r _ [112, 113, 2, 3, 60, 114, 115, 116, 117, 118, 180, 181, 182, 183, 184] (by decide +kernel) (by decide +kernel)
set_option maxRecDepth 20000 in
theorem gX11_init_X3_init_n62 : GoodIn wsX11_init (wsX3_init) := ggX11_init_X3_init
set_option maxRecDepth 20000 in
theorem ggX11_init_X5_init : GoodIn wsX11_init wsX5_init := goodIn_r _ [120, 121, 2, 3, 122, 123, 124, 185, 186] (by decide +kernel) (by decide +kernel)
set_option maxRecDepth 20000 in
theorem gX11_init_X5_init_n69 : GoodIn wsX11_init (wsX5_init) := ggX11_init_X5_init
set_option maxRecDepth 20000 in
theorem ggX11_init_X0_makeAsAtFirst : GoodIn wsX11_init wsX0_makeAsAtFirst := goodIn_r _ [128, 44, 48, 129, 52, 130, 131, 132, 43, 133, 56, 57, 58, 59, 61, 62, 134, 135, 136, 137, 138, 139, 140, 141, 142, 143, 144, 145, 146, 147, 148, 149, 150, 51, 151, 76, 77, 78, 79, 152, 153, 154, 155, 193, 194, 195, 196, 197, 198, 199, 187, 188, 189, 190, 191, 192, 200, 201, 202, 203] (by decide +kernel) (by decide +kernel)
set_option maxRecDepth 20000 in
theorem gX11_init_X0_makeAsAtFirst : GoodIn wsX11_init (wsV RX11 74 RX0 yX0_makeAsAtFirst wsX0_makeAsAtFirst) := goodIn_app (goodIn_of _ (by decide +kernel)) ggX11_init_X0_makeAsAtFirst
theorem dX11_init_0 : decode cX11_init 0 = .ok (.aload_n 0, 1) := by decide +kernel
theorem dX11_init_1 : decode cX11_init 1 = .ok (.invokespecial 3, 3) := by decide +kernel
theorem dX11_init_4 : decode cX11_init 4 = .ok (.aload_n 0, 1) := by decide +kernel
theorem dX11_init_5 : decode cX11_init 5 = .ok (.new 9, 3) := by decide +kernel
theorem dX11_init_8 : decode cX11_init 8 = .ok (.dup, 1) := by decide +kernel
theorem dX11_init_9 : decode cX11_init 9 = .ok (.invokespecial 11, 3) := by decide +kernel
theorem dX11_init_12 : decode cX11_init 12 = .ok (.putfield 12, 3) := by decide +kernel
theorem dX11_init_15 : decode cX11_init 15 = .ok (.aload_n 0, 1) := by decide +kernel
theorem dX11_init_16 : decode cX11_init 16 = .ok (.new 9, 3) := by decide +kernel
theorem dX11_init_19 : decode cX11_init 19 = .ok (.dup, 1) := by decide +kernel
theorem dX11_init_20 : decode cX11_init 20 = .ok (.invokespecial 11, 3) := by decide +kernel
theorem dX11_init_23 : decode cX11_init 23 = .ok (.putfield 18, 3) := by decide +kernel
theorem dX11_init_26 : decode cX11_init 26 = .ok (.aload_n 0, 1) := by decide +kernel
theorem dX11_init_27 : decode cX11_init 27 = .ok (.iconst 0, 1) := by decide +kernel
theorem dX11_init_28 : decode cX11_init 28 = .ok (.putfield 21, 3) := by decide +kernel
theorem dX11_init_31 : decode cX11_init 31 = .ok (.aload_n 0, 1) := by decide +kernel
theorem dX11_init_32 : decode cX11_init 32 = .ok (.new 25, 3) := by decide +kernel
theorem dX11_init_35 : decode cX11_init 35 = .ok (.dup, 1) := by decide +kernel
theorem dX11_init_36 : decode cX11_init 36 = .ok (.invokespecial 27, 3) := by decide +kernel
theorem dX11_init_39 : decode cX11_init 39 = .ok (.putfield 28, 3) := by decide +kernel
theorem dX11_init_42 : decode cX11_init 42 = .ok (.aload_n 0, 1) := by decide +kernel
theorem dX11_init_43 : decode cX11_init 43 = .ok (.new 32, 3) := by decide +kernel
theorem dX11_init_46 : decode cX11_init 46 = .ok (.dup, 1) := by decide +kernel
theorem dX11_init_47 : decode cX11_init 47 = .ok (.invokespecial 34, 3) := by decide +kernel
theorem dX11_init_50 : decode cX11_init 50 = .ok (.putfield 35, 3) := by decide +kernel
theorem dX11_init_53 : decode cX11_init 53 = .ok (.aload_n 0, 1) := by decide +kernel
theorem dX11_init_54 : decode cX11_init 54 = .ok (.new 39, 3) := by decide +kernel
theorem dX11_init_57 : decode cX11_init 57 = .ok (.dup, 1) := by decide +kernel
theorem dX11_init_58 : decode cX11_init 58 = .ok (.invokespecial 41, 3) := by decide +kernel
theorem dX11_init_61 : decode cX11_init 61 = .ok (.putfield 42, 3) := by decide +kernel
theorem dX11_init_64 : decode cX11_init 64 = .ok (.aload_n 0, 1) := by decide +kernel
theorem dX11_init_65 : decode cX11_init 65 = .ok (.new 46, 3) := by decide +kernel
theorem dX11_init_68 : decode cX11_init 68 = .ok (.dup, 1) := by decide +kernel
theorem dX11_init_69 : decode cX11_init 69 = .ok (.invokespecial 48, 3) := by decide +kernel
theorem dX11_init_72 : decode cX11_init 72 = .ok (.putfield 49, 3) := by decide +kernel
theorem dX11_init_75 : decode cX11_init 75 = .ok (.aload_n 0, 1) := by decide +kernel
theorem dX11_init_76 : decode cX11_init 76 = .ok (.new 53, 3) := by decide +kernel
theorem dX11_init_79 : decode cX11_init 79 = .ok (.dup, 1) := by decide +kernel
theorem dX11_init_80 : decode cX11_init 80 = .ok (.invokespecial 55, 3) := by decide +kernel
theorem dX11_init_83 : decode cX11_init 83 = .ok (.putfield 56, 3) := by decide +kernel
theorem dX11_init_86 : decode cX11_init 86 = .ok (.aload_n 0, 1) := by decide +kernel
theorem dX11_init_87 : decode cX11_init 87 = .ok (.new 60, 3) := by decide +kernel
theorem dX11_init_90 : decode cX11_init 90 = .ok (.dup, 1) := by decide +kernel
theorem dX11_init_91 : decode cX11_init 91 = .ok (.invokespecial 62, 3) := by decide +kernel
theorem dX11_init_94 : decode cX11_init 94 = .ok (.putfield 63, 3) := by decide +kernel
theorem dX11_init_97 : decode cX11_init 97 = .ok (.aload_n 0, 1) := by decide +kernel
theorem dX11_init_98 : decode cX11_init 98 = .ok (.new 67, 3) := by decide +kernel
theorem dX11_init_101 : decode cX11_init 101 = .ok (.dup, 1) := by decide +kernel
theorem dX11_init_102 : decode cX11_init 102 = .ok (.invokespecial 69, 3) := by decide +kernel
theorem dX11_init_105 : decode cX11_init 105 = .ok (.putfield 70, 3) := by decide +kernel
theorem dX11_init_108 : decode cX11_init 108 = .ok (.aload_n 0, 1) := by decide +kernel
theorem dX11_init_109 : decode cX11_init 109 = .ok (.getfield 12, 3) := by decide +kernel
theorem dX11_init_112 : decode cX11_init 112 = .ok (.iconst 4, 1) := by decide +kernel
theorem dX11_init_113 : decode cX11_init 113 = .ok (.invokevirtual 74, 3) := by decide +kernel
theorem dX11_init_116 : decode cX11_init 116 = .ok (.return_, 1) := by decide +kernel
set_option maxRecDepth 20000 in
theorem ggX11_hull_X11_isWithin : GoodIn wsX11_hull wsX11_isWithin := goodIn_r _ [7] (by decide +kernel) (by decide +kernel)
set_option maxRecDepth 20000 in
theorem gX11_hull_X11_isWithin : GoodIn wsX11_hull (va_wsS RX11 78 yX11_isWithin wsX11_isWithin) := goodIn_app (goodIn_of _ (by decide +kernel)) ggX11_hull_X11_isWithin
set_option maxRecDepth 20000 in
theorem ggX11_hull_X0_makeAsAtFirst : GoodIn wsX11_hull wsX0_makeAsAtFirst := goodIn_r _ [12, 13, 14, 15, 16, 17, 18, 19, 20, 21, 22, 23, 24, 25, 26, 27, 28, 6, 29, 30, 31, 32, 33, 34, 35, 36, 37, 38, 39, 40, 41, 42, 43, 44, 45, 46, 47, 48, 49, 50, 61, 62, 63, 70, 71, 72, 73, 74, 75, 76, 64, 65, 66, 67, 68, 69, 77, 78, 79, 80] (by decide +kernel) (by decide +kernel)
set_option maxRecDepth 20000 in
theorem gX11_hull_X0_makeAsAtFirst : GoodIn wsX11_hull (wsV RX11 74 RX0 yX0_makeAsAtFirst wsX0_makeAsAtFirst) := goodIn_app (goodIn_of _ (by decide +kernel)) ggX11_hull_X0_makeAsAtFirst
theorem dX11_hull_0 : decode cX11_hull 0 = .ok (.iload_n 1, 1) := by decide +kernel
theorem dX11_hull_1 : decode cX11_hull 1 = .ok (.iconst 2, 1) := by decide +kernel
theorem dX11_hull_2 : decode cX11_hull 2 = .ok (.bipush 10, 2) := by decide +kernel
theorem dX11_hull_4 : decode cX11_hull 4 = .ok (.invokestatic 78, 3) := by decide +kernel
theorem dX11_hull_7 : decode cX11_hull 7 = .ok (.ifCond .ne 5, 3) := by decide +kernel
theorem dX11_hull_10 : decode cX11_hull 10 = .ok (.iconst (-1), 1) := by decide +kernel
theorem dX11_hull_11 : decode cX11_hull 11 = .ok (.ireturn, 1) := by decide +kernel
theorem dX11_hull_12 : decode cX11_hull 12 = .ok (.aload_n 0, 1) := by decide +kernel
theorem dX11_hull_13 : decode cX11_hull 13 = .ok (.getfield 12, 3) := by decide +kernel
theorem dX11_hull_16 : decode cX11_hull 16 = .ok (.getfield 82, 3) := by decide +kernel
theorem dX11_hull_19 : decode cX11_hull 19 = .ok (.getfield 86, 3) := by decide +kernel
theorem dX11_hull_22 : decode cX11_hull 22 = .ok (.istore_n 2, 1) := by decide +kernel
theorem dX11_hull_23 : decode cX11_hull 23 = .ok (.aload_n 0, 1) := by decide +kernel
theorem dX11_hull_24 : decode cX11_hull 24 = .ok (.getfield 12, 3) := by decide +kernel
theorem dX11_hull_27 : decode cX11_hull 27 = .ok (.iload_n 1, 1) := by decide +kernel
theorem dX11_hull_28 : decode cX11_hull 28 = .ok (.invokevirtual 74, 3) := by decide +kernel
theorem dX11_hull_31 : decode cX11_hull 31 = .ok (.iload_n 2, 1) := by decide +kernel
theorem dX11_hull_32 : decode cX11_hull 32 = .ok (.ireturn, 1) := by decide +kernel
set_option maxRecDepth 20000 in
theorem ggX11_section_X2_hasSection : GoodIn wsX11_section wsX2_hasSection := goodIn_r _ [9, 10, 11, 12, 13, 28, 29, 30, 31, 32, 33] (by decide +kernel) (by decide +kernel)
set_option maxRecDepth 20000 in
theorem gX11_section_X2_hasSection : GoodIn wsX11_section (wsV RX11 92 RX2 yX2_hasSection wsX2_hasSection) := goodIn_app (goodIn_of _ (by decide +kernel)) ggX11_section_X2_hasSection
set_option maxRecDepth 20000 in
theorem ggX11_section_X11_isWithin : GoodIn wsX11_section wsX11_isWithin := goodIn_r _ [13] (by decide +kernel) (by decide +kernel)
set_option maxRecDepth 20000 in
theorem gX11_section_X11_isWithin : GoodIn wsX11_section (va_wsS RX11 78 yX11_isWithin wsX11_isWithin) := goodIn_app (goodIn_of _ (by decide +kernel)) ggX11_section_X11_isWithin
theorem dX11_section_0 : decode cX11_section 0 = .ok (.aload_n 0, 1) := by decide +kernel
theorem dX11_section_1 : decode cX11_section 1 = .ok (.getfield 12, 3) := by decide +kernel
theorem dX11_section_4 : decode cX11_section 4 = .ok (.getfield 82, 3) := by decide +kernel
theorem dX11_section_7 : decode cX11_section 7 = .ok (.iload_n 1, 1) := by decide +kernel
theorem dX11_section_8 : decode cX11_section 8 = .ok (.invokevirtual 92, 3) := by decide +kernel
theorem dX11_section_11 : decode cX11_section 11 = .ok (.ifCond .eq 23, 3) := by decide +kernel
theorem dX11_section_14 : decode cX11_section 14 = .ok (.iload_n 2, 1) := by decide +kernel
theorem dX11_section_15 : decode cX11_section 15 = .ok (.iconst 1, 1) := by decide +kernel
theorem dX11_section_16 : decode cX11_section 16 = .ok (.bipush 40, 2) := by decide +kernel
theorem dX11_section_18 : decode cX11_section 18 = .ok (.invokestatic 78, 3) := by decide +kernel
theorem dX11_section_21 : decode cX11_section 21 = .ok (.ifCond .eq 13, 3) := by decide +kernel
theorem dX11_section_24 : decode cX11_section 24 = .ok (.iload_n 3, 1) := by decide +kernel
theorem dX11_section_25 : decode cX11_section 25 = .ok (.iconst 0, 1) := by decide +kernel
theorem dX11_section_26 : decode cX11_section 26 = .ok (.bipush 30, 2) := by decide +kernel
theorem dX11_section_28 : decode cX11_section 28 = .ok (.invokestatic 78, 3) := by decide +kernel
theorem dX11_section_31 : decode cX11_section 31 = .ok (.ifCond .ne 5, 3) := by decide +kernel
theorem dX11_section_34 : decode cX11_section 34 = .ok (.iconst (-1), 1) := by decide +kernel
theorem dX11_section_35 : decode cX11_section 35 = .ok (.ireturn, 1) := by decide +kernel
theorem dX11_section_36 : decode cX11_section 36 = .ok (.bipush 100, 2) := by decide +kernel
theorem dX11_section_38 : decode cX11_section 38 = .ok (.aload_n 0, 1) := by decide +kernel
theorem dX11_section_39 : decode cX11_section 39 = .ok (.getfield 12, 3) := by decide +kernel
theorem dX11_section_42 : decode cX11_section 42 = .ok (.getfield 82, 3) := by decide +kernel
theorem dX11_section_45 : decode cX11_section 45 = .ok (.getfield 96, 3) := by decide +kernel
theorem dX11_section_48 : decode cX11_section 48 = .ok (.iload_n 1, 1) := by decide +kernel
theorem dX11_section_49 : decode cX11_section 49 = .ok (.iaload, 1) := by decide +kernel
theorem dX11_section_50 : decode cX11_section 50 = .ok (.imul, 1) := by decide +kernel
theorem dX11_section_51 : decode cX11_section 51 = .ok (.aload_n 0, 1) := by decide +kernel
theorem dX11_section_52 : decode cX11_section 52 = .ok (.getfield 12, 3) := by decide +kernel
theorem dX11_section_55 : decode cX11_section 55 = .ok (.getfield 82, 3) := by decide +kernel
theorem dX11_section_58 : decode cX11_section 58 = .ok (.getfield 100, 3) := by decide +kernel
theorem dX11_section_61 : decode cX11_section 61 = .ok (.iload_n 1, 1) := by decide +kernel
theorem dX11_section_62 : decode cX11_section 62 = .ok (.iaload, 1) := by decide +kernel
theorem dX11_section_63 : decode cX11_section 63 = .ok (.iadd, 1) := by decide +kernel
theorem dX11_section_64 : decode cX11_section 64 = .ok (.istore 4, 2) := by decide +kernel
theorem dX11_section_66 : decode cX11_section 66 = .ok (.aload_n 0, 1) := by decide +kernel
theorem dX11_section_67 : decode cX11_section 67 = .ok (.getfield 12, 3) := by decide +kernel
theorem dX11_section_70 : decode cX11_section 70 = .ok (.getfield 82, 3) := by decide +kernel
theorem dX11_section_73 : decode cX11_section 73 = .ok (.getfield 96, 3) := by decide +kernel
theorem dX11_section_76 : decode cX11_section 76 = .ok (.iload_n 1, 1) := by decide +kernel
theorem dX11_section_77 : decode cX11_section 77 = .ok (.iload_n 2, 1) := by decide +kernel
theorem dX11_section_78 : decode cX11_section 78 = .ok (.iastore, 1) := by decide +kernel
theorem dX11_section_79 : decode cX11_section 79 = .ok (.aload_n 0, 1) := by decide +kernel
theorem dX11_section_80 : decode cX11_section 80 = .ok (.getfield 12, 3) := by decide +kernel
theorem dX11_section_83 : decode cX11_section 83 = .ok (.getfield 82, 3) := by decide +kernel
theorem dX11_section_86 : decode cX11_section 86 = .ok (.getfield 100, 3) := by decide +kernel
theorem dX11_section_89 : decode cX11_section 89 = .ok (.iload_n 1, 1) := by decide +kernel
theorem dX11_section_90 : decode cX11_section 90 = .ok (.iload_n 3, 1) := by decide +kernel
theorem dX11_section_91 : decode cX11_section 91 = .ok (.iastore, 1) := by decide +kernel
theorem dX11_section_92 : decode cX11_section 92 = .ok (.iload 4, 2) := by decide +kernel
theorem dX11_section_94 : decode cX11_section 94 = .ok (.ireturn, 1) := by decide +kernel
set_option maxRecDepth 20000 in
theorem ggX11_set_X11_setDeep : GoodIn wsX11_set wsX11_setDeep := goodIn_r _ [5, 6, 7, 8, 9, 10, 4, 11, 22, 23, 24, 25, 26, 27, 28, 29, 30, 31, 32, 33, 34, 35, 36, 37, 38, 39, 40] (by decide +kernel) (by decide +kernel)
set_option maxRecDepth 20000 in
theorem gX11_set_X11_setDeep : GoodIn wsX11_set (wsV RX11 103 RX11 yX11_setDeep wsX11_setDeep) := goodIn_app (goodIn_of _ (by decide +kernel)) ggX11_set_X11_setDeep
set_option maxRecDepth 20000 in
theorem ggX11_set_X11_setShell : GoodIn wsX11_set wsX11_setShell := goodIn_r _ [15, 6, 7, 16, 9, 10, 4, 11, 22, 23, 24, 25, 26, 27, 28, 29, 30, 31, 32, 33, 34, 35, 36, 37, 38, 39, 40] (by decide +kernel) (by decide +kernel)
set_option maxRecDepth 20000 in
theorem gX11_set_X11_setShell : GoodIn wsX11_set (wsV RX11 107 RX11 yX11_setShell wsX11_setShell) := goodIn_app (goodIn_of _ (by decide +kernel)) ggX11_set_X11_setShell
set_option maxRecDepth 20000 in
theorem ggX11_set_X11_setWet : GoodIn wsX11_set wsX11_setWet := goodIn_r _ [20, 6, 7, 21, 9, 10, 4, 11, 22, 23, 24, 25, 26, 27, 28, 29, 30, 31, 32, 33, 34, 35, 36, 37, 38, 39, 40] (by decide +kernel) (by decide +kernel)
set_option maxRecDepth 20000 in
theorem gX11_set_X11_setWet : GoodIn wsX11_set (wsV RX11 110 RX11 yX11_setWet wsX11_setWet) := goodIn_app (goodIn_of _ (by decide +kernel)) ggX11_set_X11_setWet
theorem dX11_set_0 : decode cX11_set 0 = .ok (.iload_n 1, 1) := by decide +kernel
theorem dX11_set_1 : decode cX11_set 1 = .ok (.tableswitch 45 0 2 #[27, 33, 39], 27) := by decide +kernel
theorem dX11_set_28 : decode cX11_set 28 = .ok (.aload_n 0, 1) := by decide +kernel
theorem dX11_set_29 : decode cX11_set 29 = .ok (.iload_n 2, 1) := by decide +kernel
theorem dX11_set_30 : decode cX11_set 30 = .ok (.invokevirtual 103, 3) := by decide +kernel
theorem dX11_set_33 : decode cX11_set 33 = .ok (.ireturn, 1) := by decide +kernel
theorem dX11_set_34 : decode cX11_set 34 = .ok (.aload_n 0, 1) := by decide +kernel
theorem dX11_set_35 : decode cX11_set 35 = .ok (.iload_n 2, 1) := by decide +kernel
theorem dX11_set_36 : decode cX11_set 36 = .ok (.invokevirtual 107, 3) := by decide +kernel
theorem dX11_set_39 : decode cX11_set 39 = .ok (.ireturn, 1) := by decide +kernel
theorem dX11_set_40 : decode cX11_set 40 = .ok (.aload_n 0, 1) := by decide +kernel
theorem dX11_set_41 : decode cX11_set 41 = .ok (.iload_n 2, 1) := by decide +kernel
theorem dX11_set_42 : decode cX11_set 42 = .ok (.invokevirtual 110, 3) := by decide +kernel
theorem dX11_set_45 : decode cX11_set 45 = .ok (.ireturn, 1) := by decide +kernel
theorem dX11_set_46 : decode cX11_set 46 = .ok (.iconst (-1), 1) := by decide +kernel
theorem dX11_set_47 : decode cX11_set 47 = .ok (.ireturn, 1) := by decide +kernel
set_option maxRecDepth 20000 in
theorem ggX11_setDeep_X11_isWithin : GoodIn wsX11_setDeep wsX11_isWithin := goodIn_r _ [7] (by decide +kernel) (by decide +kernel)
set_option maxRecDepth 20000 in
theorem gX11_setDeep_X11_isWithin : GoodIn wsX11_setDeep (va_wsS RX11 78 yX11_isWithin wsX11_isWithin) := goodIn_app (goodIn_of _ (by decide +kernel)) ggX11_setDeep_X11_isWithin
theorem dX11_setDeep_0 : decode cX11_setDeep 0 = .ok (.iload_n 1, 1) := by decide +kernel
theorem dX11_setDeep_1 : decode cX11_setDeep 1 = .ok (.iconst 1, 1) := by decide +kernel
theorem dX11_setDeep_2 : decode cX11_setDeep 2 = .ok (.bipush 60, 2) := by decide +kernel
theorem dX11_setDeep_4 : decode cX11_setDeep 4 = .ok (.invokestatic 78, 3) := by decide +kernel
theorem dX11_setDeep_7 : decode cX11_setDeep 7 = .ok (.ifCond .ne 5, 3) := by decide +kernel
theorem dX11_setDeep_10 : decode cX11_setDeep 10 = .ok (.iconst (-1), 1) := by decide +kernel
theorem dX11_setDeep_11 : decode cX11_setDeep 11 = .ok (.ireturn, 1) := by decide +kernel
theorem dX11_setDeep_12 : decode cX11_setDeep 12 = .ok (.aload_n 0, 1) := by decide +kernel
theorem dX11_setDeep_13 : decode cX11_setDeep 13 = .ok (.getfield 12, 3) := by decide +kernel
theorem dX11_setDeep_16 : decode cX11_setDeep 16 = .ok (.getfield 82, 3) := by decide +kernel
theorem dX11_setDeep_19 : decode cX11_setDeep 19 = .ok (.getfield 113, 3) := by decide +kernel
theorem dX11_setDeep_22 : decode cX11_setDeep 22 = .ok (.istore_n 2, 1) := by decide +kernel
theorem dX11_setDeep_23 : decode cX11_setDeep 23 = .ok (.aload_n 0, 1) := by decide +kernel
theorem dX11_setDeep_24 : decode cX11_setDeep 24 = .ok (.getfield 12, 3) := by decide +kernel
theorem dX11_setDeep_27 : decode cX11_setDeep 27 = .ok (.getfield 82, 3) := by decide +kernel
theorem dX11_setDeep_30 : decode cX11_setDeep 30 = .ok (.iload_n 1, 1) := by decide +kernel
theorem dX11_setDeep_31 : decode cX11_setDeep 31 = .ok (.putfield 113, 3) := by decide +kernel
theorem dX11_setDeep_34 : decode cX11_setDeep 34 = .ok (.iload_n 2, 1) := by decide +kernel
theorem dX11_setDeep_35 : decode cX11_setDeep 35 = .ok (.ireturn, 1) := by decide +kernel
set_option maxRecDepth 20000 in
theorem ggX11_setShell_X11_isWithin : GoodIn wsX11_setShell wsX11_isWithin := goodIn_r _ [7] (by decide +kernel) (by decide +kernel)
set_option maxRecDepth 20000 in
theorem gX11_setShell_X11_isWithin : GoodIn wsX11_setShell (va_wsS RX11 78 yX11_isWithin wsX11_isWithin) := goodIn_app (goodIn_of _ (by decide +kernel)) ggX11_setShell_X11_isWithin
theorem dX11_setShell_0 : decode cX11_setShell 0 = .ok (.iload_n 1, 1) := by decide +kernel
theorem dX11_setShell_1 : decode cX11_setShell 1 = .ok (.iconst 1, 1) := by decide +kernel
theorem dX11_setShell_2 : decode cX11_setShell 2 = .ok (.sipush 9999, 3) := by decide +kernel
theorem dX11_setShell_5 : decode cX11_setShell 5 = .ok (.invokestatic 78, 3) := by decide +kernel
theorem dX11_setShell_8 : decode cX11_setShell 8 = .ok (.ifCond .ne 5, 3) := by decide +kernel
theorem dX11_setShell_11 : decode cX11_setShell 11 = .ok (.iconst (-1), 1) := by decide +kernel
theorem dX11_setShell_12 : decode cX11_setShell 12 = .ok (.ireturn, 1) := by decide +kernel
theorem dX11_setShell_13 : decode cX11_setShell 13 = .ok (.aload_n 0, 1) := by decide +kernel
theorem dX11_setShell_14 : decode cX11_setShell 14 = .ok (.getfield 12, 3) := by decide +kernel
theorem dX11_setShell_17 : decode cX11_setShell 17 = .ok (.getfield 82, 3) := by decide +kernel
theorem dX11_setShell_20 : decode cX11_setShell 20 = .ok (.getfield 116, 3) := by decide +kernel
theorem dX11_setShell_23 : decode cX11_setShell 23 = .ok (.istore_n 2, 1) := by decide +kernel
theorem dX11_setShell_24 : decode cX11_setShell 24 = .ok (.aload_n 0, 1) := by decide +kernel
theorem dX11_setShell_25 : decode cX11_setShell 25 = .ok (.getfield 12, 3) := by decide +kernel
theorem dX11_setShell_28 : decode cX11_setShell 28 = .ok (.getfield 82, 3) := by decide +kernel
theorem dX11_setShell_31 : decode cX11_setShell 31 = .ok (.iload_n 1, 1) := by decide +kernel
theorem dX11_setShell_32 : decode cX11_setShell 32 = .ok (.putfield 116, 3) := by decide +kernel
theorem dX11_setShell_35 : decode cX11_setShell 35 = .ok (.iload_n 2, 1) := by decide +kernel
theorem dX11_setShell_36 : decode cX11_setShell 36 = .ok (.ireturn, 1) := by decide +kernel
set_option maxRecDepth 20000 in
theorem ggX11_setWet_X11_isWithin : GoodIn wsX11_setWet wsX11_isWithin := goodIn_r _ [7] (by decide +kernel) (by decide +kernel)
set_option maxRecDepth 20000 in
theorem gX11_setWet_X11_isWithin : GoodIn wsX11_setWet (va_wsS RX11 78 yX11_isWithin wsX11_isWithin) := goodIn_app (goodIn_of _ (by decide +kernel)) ggX11_setWet_X11_isWithin
theorem dX11_setWet_0 : decode cX11_setWet 0 = .ok (.iload_n 1, 1) := by decide +kernel
theorem dX11_setWet_1 : decode cX11_setWet 1 = .ok (.iconst 0, 1) := by decide +kernel
theorem dX11_setWet_2 : decode cX11_setWet 2 = .ok (.iconst 1, 1) := by decide +kernel
theorem dX11_setWet_3 : decode cX11_setWet 3 = .ok (.invokestatic 78, 3) := by decide +kernel
theorem dX11_setWet_6 : decode cX11_setWet 6 = .ok (.ifCond .ne 5, 3) := by decide +kernel
theorem dX11_setWet_9 : decode cX11_setWet 9 = .ok (.iconst (-1), 1) := by decide +kernel
theorem dX11_setWet_10 : decode cX11_setWet 10 = .ok (.ireturn, 1) := by decide +kernel
theorem dX11_setWet_11 : decode cX11_setWet 11 = .ok (.aload_n 0, 1) := by decide +kernel
theorem dX11_setWet_12 : decode cX11_setWet 12 = .ok (.getfield 12, 3) := by decide +kernel
theorem dX11_setWet_15 : decode cX11_setWet 15 = .ok (.getfield 82, 3) := by decide +kernel
theorem dX11_setWet_18 : decode cX11_setWet 18 = .ok (.getfield 119, 3) := by decide +kernel
theorem dX11_setWet_21 : decode cX11_setWet 21 = .ok (.istore_n 2, 1) := by decide +kernel
theorem dX11_setWet_22 : decode cX11_setWet 22 = .ok (.aload_n 0, 1) := by decide +kernel
theorem dX11_setWet_23 : decode cX11_setWet 23 = .ok (.getfield 12, 3) := by decide +kernel
theorem dX11_setWet_26 : decode cX11_setWet 26 = .ok (.getfield 82, 3) := by decide +kernel
theorem dX11_setWet_29 : decode cX11_setWet 29 = .ok (.iload_n 1, 1) := by decide +kernel
theorem dX11_setWet_30 : decode cX11_setWet 30 = .ok (.putfield 119, 3) := by decide +kernel
theorem dX11_setWet_33 : decode cX11_setWet 33 = .ok (.iload_n 2, 1) := by decide +kernel
theorem dX11_setWet_34 : decode cX11_setWet 34 = .ok (.ireturn, 1) := by decide +kernel
set_option maxRecDepth 20000 in
theorem ggX11_put_X11_isName : GoodIn wsX11_put wsX11_isName := goodIn_r _ [13, 14, 15, 16, 12, 17] (by decide +kernel) (by decide +kernel)
set_option maxRecDepth 20000 in
theorem gX11_put_X11_isName : GoodIn wsX11_put (va_wsS RX11 122 yX11_isName wsX11_isName) := goodIn_app (goodIn_of _ (by decide +kernel)) ggX11_put_X11_isName
set_option maxRecDepth 20000 in
theorem ggX11_put_X11_isKind : GoodIn wsX11_put wsX11_isKind := goodIn_r _ [20, 15, 16, 12, 17] (by decide +kernel) (by decide +kernel)
set_option maxRecDepth 20000 in
theorem gX11_put_X11_isKind : GoodIn wsX11_put (va_wsS RX11 125 yX11_isKind wsX11_isKind) := goodIn_app (goodIn_of _ (by decide +kernel)) ggX11_put_X11_isKind
set_option maxRecDepth 20000 in
theorem ggX11_put_X11_isWithin : GoodIn wsX11_put wsX11_isWithin := goodIn_r _ [17] (by decide +kernel) (by decide +kernel)
set_option maxRecDepth 20000 in
theorem gX11_put_X11_isWithin : GoodIn wsX11_put (va_wsS RX11 78 yX11_isWithin wsX11_isWithin) := goodIn_app (goodIn_of _ (by decide +kernel)) ggX11_put_X11_isWithin
set_option maxRecDepth 20000 in
theorem ggX11_put_X2_hasSection : GoodIn wsX11_put wsX2_hasSection := goodIn_r _ [25, 26, 16, 12, 17, 82, 83, 84, 85, 86, 87] (by decide +kernel) (by decide +kernel)
set_option maxRecDepth 20000 in
theorem gX11_put_X2_hasSection : GoodIn wsX11_put (wsV RX11 92 RX2 yX2_hasSection wsX2_hasSection) := goodIn_app (goodIn_of _ (by decide +kernel)) ggX11_put_X2_hasSection
set_option maxRecDepth 20000 in
theorem ggX11_put_X11_isSide : GoodIn wsX11_put wsX11_isSide := goodIn_r _ [29, 15, 16, 12, 17] (by decide +kernel) (by decide +kernel)
set_option maxRecDepth 20000 in
theorem gX11_put_X11_isSide : GoodIn wsX11_put (va_wsS RX11 128 yX11_isSide wsX11_isSide) := goodIn_app (goodIn_of _ (by decide +kernel)) ggX11_put_X11_isSide
set_option maxRecDepth 20000 in
theorem ggX11_put_X1_placeOf : GoodIn wsX11_put wsX1_placeOf := goodIn_r _ [34, 35, 36, 75, 76, 77, 78, 79, 80, 81] (by decide +kernel) (by decide +kernel)
set_option maxRecDepth 20000 in
theorem gX11_put_X1_placeOf : GoodIn wsX11_put (wsV RX11 135 RX1 yX1_placeOf wsX1_placeOf) := goodIn_app (goodIn_of _ (by decide +kernel)) ggX11_put_X1_placeOf
set_option maxRecDepth 20000 in
theorem ggX11_put_X1_openPlace : GoodIn wsX11_put wsX1_openPlace := goodIn_r _ [40, 41, 42, 43, 44, 35, 36, 45, 46, 47, 33, 48, 49, 50, 51, 52, 53, 54, 55, 56, 57, 58, 59, 60, 61, 75, 76, 77, 78, 79, 80, 81] (by decide +kernel) (by decide +kernel)
set_option maxRecDepth 20000 in
theorem gX11_put_X1_openPlace : GoodIn wsX11_put (wsV RX11 143 RX1 yX1_openPlace wsX1_openPlace) := goodIn_app (goodIn_of _ (by decide +kernel)) ggX11_put_X1_openPlace
theorem dX11_put_0 : decode cX11_put 0 = .ok (.iload_n 1, 1) := by decide +kernel
theorem dX11_put_1 : decode cX11_put 1 = .ok (.invokestatic 122, 3) := by decide +kernel
theorem dX11_put_4 : decode cX11_put 4 = .ok (.ifCond .eq 21, 3) := by decide +kernel
theorem dX11_put_7 : decode cX11_put 7 = .ok (.iload_n 2, 1) := by decide +kernel
theorem dX11_put_8 : decode cX11_put 8 = .ok (.invokestatic 125, 3) := by decide +kernel
theorem dX11_put_11 : decode cX11_put 11 = .ok (.ifCond .eq 14, 3) := by decide +kernel
theorem dX11_put_14 : decode cX11_put 14 = .ok (.iload_n 3, 1) := by decide +kernel
theorem dX11_put_15 : decode cX11_put 15 = .ok (.iconst 1, 1) := by decide +kernel
theorem dX11_put_16 : decode cX11_put 16 = .ok (.sipush 999, 3) := by decide +kernel
theorem dX11_put_19 : decode cX11_put 19 = .ok (.invokestatic 78, 3) := by decide +kernel
theorem dX11_put_22 : decode cX11_put 22 = .ok (.ifCond .ne 5, 3) := by decide +kernel
theorem dX11_put_25 : decode cX11_put 25 = .ok (.iconst (-1), 1) := by decide +kernel
theorem dX11_put_26 : decode cX11_put 26 = .ok (.ireturn, 1) := by decide +kernel
theorem dX11_put_27 : decode cX11_put 27 = .ok (.aload_n 0, 1) := by decide +kernel
theorem dX11_put_28 : decode cX11_put 28 = .ok (.getfield 12, 3) := by decide +kernel
theorem dX11_put_31 : decode cX11_put 31 = .ok (.getfield 82, 3) := by decide +kernel
theorem dX11_put_34 : decode cX11_put 34 = .ok (.iload 4, 2) := by decide +kernel
theorem dX11_put_36 : decode cX11_put 36 = .ok (.invokevirtual 92, 3) := by decide +kernel
theorem dX11_put_39 : decode cX11_put 39 = .ok (.ifCond .eq 22, 3) := by decide +kernel
theorem dX11_put_42 : decode cX11_put 42 = .ok (.iload 5, 2) := by decide +kernel
theorem dX11_put_44 : decode cX11_put 44 = .ok (.invokestatic 128, 3) := by decide +kernel
theorem dX11_put_47 : decode cX11_put 47 = .ok (.ifCond .eq 14, 3) := by decide +kernel
theorem dX11_put_50 : decode cX11_put 50 = .ok (.iload 6, 2) := by decide +kernel
theorem dX11_put_52 : decode cX11_put 52 = .ok (.iconst 0, 1) := by decide +kernel
theorem dX11_put_53 : decode cX11_put 53 = .ok (.bipush 40, 2) := by decide +kernel
theorem dX11_put_55 : decode cX11_put 55 = .ok (.invokestatic 78, 3) := by decide +kernel
theorem dX11_put_58 : decode cX11_put 58 = .ok (.ifCond .ne 5, 3) := by decide +kernel
theorem dX11_put_61 : decode cX11_put 61 = .ok (.iconst (-1), 1) := by decide +kernel
theorem dX11_put_62 : decode cX11_put 62 = .ok (.ireturn, 1) := by decide +kernel
theorem dX11_put_63 : decode cX11_put 63 = .ok (.aload_n 0, 1) := by decide +kernel
theorem dX11_put_64 : decode cX11_put 64 = .ok (.getfield 12, 3) := by decide +kernel
theorem dX11_put_67 : decode cX11_put 67 = .ok (.getfield 131, 3) := by decide +kernel
theorem dX11_put_70 : decode cX11_put 70 = .ok (.astore 7, 2) := by decide +kernel
theorem dX11_put_72 : decode cX11_put 72 = .ok (.aload 7, 2) := by decide +kernel
theorem dX11_put_74 : decode cX11_put 74 = .ok (.iload_n 1, 1) := by decide +kernel
theorem dX11_put_75 : decode cX11_put 75 = .ok (.invokevirtual 135, 3) := by decide +kernel
theorem dX11_put_78 : decode cX11_put 78 = .ok (.ifCond .lt 6, 3) := by decide +kernel
theorem dX11_put_81 : decode cX11_put 81 = .ok (.bipush (-5), 2) := by decide +kernel
theorem dX11_put_83 : decode cX11_put 83 = .ok (.ireturn, 1) := by decide +kernel
theorem dX11_put_84 : decode cX11_put 84 = .ok (.aload 7, 2) := by decide +kernel
theorem dX11_put_86 : decode cX11_put 86 = .ok (.getfield 140, 3) := by decide +kernel
theorem dX11_put_89 : decode cX11_put 89 = .ok (.bipush 16, 2) := by decide +kernel
theorem dX11_put_91 : decode cX11_put 91 = .ok (.if_icmp .lt 6, 3) := by decide +kernel
theorem dX11_put_94 : decode cX11_put 94 = .ok (.bipush (-3), 2) := by decide +kernel
theorem dX11_put_96 : decode cX11_put 96 = .ok (.ireturn, 1) := by decide +kernel
theorem dX11_put_97 : decode cX11_put 97 = .ok (.aload 7, 2) := by decide +kernel
theorem dX11_put_99 : decode cX11_put 99 = .ok (.iload_n 1, 1) := by decide +kernel
theorem dX11_put_100 : decode cX11_put 100 = .ok (.invokevirtual 143, 3) := by decide +kernel
theorem dX11_put_103 : decode cX11_put 103 = .ok (.istore 8, 2) := by decide +kernel
theorem dX11_put_105 : decode cX11_put 105 = .ok (.aload 7, 2) := by decide +kernel
theorem dX11_put_107 : decode cX11_put 107 = .ok (.getfield 146, 3) := by decide +kernel
theorem dX11_put_110 : decode cX11_put 110 = .ok (.iload 8, 2) := by decide +kernel
theorem dX11_put_112 : decode cX11_put 112 = .ok (.iload_n 2, 1) := by decide +kernel
theorem dX11_put_113 : decode cX11_put 113 = .ok (.iastore, 1) := by decide +kernel
theorem dX11_put_114 : decode cX11_put 114 = .ok (.aload 7, 2) := by decide +kernel
theorem dX11_put_116 : decode cX11_put 116 = .ok (.getfield 149, 3) := by decide +kernel
theorem dX11_put_119 : decode cX11_put 119 = .ok (.iload 8, 2) := by decide +kernel
theorem dX11_put_121 : decode cX11_put 121 = .ok (.iload_n 3, 1) := by decide +kernel
theorem dX11_put_122 : decode cX11_put 122 = .ok (.iastore, 1) := by decide +kernel
theorem dX11_put_123 : decode cX11_put 123 = .ok (.aload 7, 2) := by decide +kernel
theorem dX11_put_125 : decode cX11_put 125 = .ok (.getfield 152, 3) := by decide +kernel
theorem dX11_put_128 : decode cX11_put 128 = .ok (.iload 8, 2) := by decide +kernel
theorem dX11_put_130 : decode cX11_put 130 = .ok (.iload 4, 2) := by decide +kernel
theorem dX11_put_132 : decode cX11_put 132 = .ok (.iastore, 1) := by decide +kernel
theorem dX11_put_133 : decode cX11_put 133 = .ok (.aload 7, 2) := by decide +kernel
theorem dX11_put_135 : decode cX11_put 135 = .ok (.getfield 155, 3) := by decide +kernel
theorem dX11_put_138 : decode cX11_put 138 = .ok (.iload 8, 2) := by decide +kernel
theorem dX11_put_140 : decode cX11_put 140 = .ok (.iload 5, 2) := by decide +kernel
theorem dX11_put_142 : decode cX11_put 142 = .ok (.iastore, 1) := by decide +kernel
theorem dX11_put_143 : decode cX11_put 143 = .ok (.aload 7, 2) := by decide +kernel
theorem dX11_put_145 : decode cX11_put 145 = .ok (.getfield 158, 3) := by decide +kernel
theorem dX11_put_148 : decode cX11_put 148 = .ok (.iload 8, 2) := by decide +kernel
theorem dX11_put_150 : decode cX11_put 150 = .ok (.iload 6, 2) := by decide +kernel
theorem dX11_put_152 : decode cX11_put 152 = .ok (.iastore, 1) := by decide +kernel
theorem dX11_put_153 : decode cX11_put 153 = .ok (.aload 7, 2) := by decide +kernel
theorem dX11_put_155 : decode cX11_put 155 = .ok (.getfield 140, 3) := by decide +kernel
theorem dX11_put_158 : decode cX11_put 158 = .ok (.ireturn, 1) := by decide +kernel
set_option maxRecDepth 20000 in
theorem ggX11_take_X11_isName : GoodIn wsX11_take wsX11_isName := goodIn_r _ [6, 7, 8, 9, 5, 10] (by decide +kernel) (by decide +kernel)
set_option maxRecDepth 20000 in
theorem gX11_take_X11_isName : GoodIn wsX11_take (va_wsS RX11 122 yX11_isName wsX11_isName) := goodIn_app (goodIn_of _ (by decide +kernel)) ggX11_take_X11_isName
set_option maxRecDepth 20000 in
theorem ggX11_take_X1_placeOf : GoodIn wsX11_take wsX1_placeOf := goodIn_r _ [15, 16, 17, 62, 63, 64, 65, 66, 67, 68] (by decide +kernel) (by decide +kernel)
set_option maxRecDepth 20000 in
theorem gX11_take_X1_placeOf : GoodIn wsX11_take (wsV RX11 135 RX1 yX1_placeOf wsX1_placeOf) := goodIn_app (goodIn_of _ (by decide +kernel)) ggX11_take_X1_placeOf
set_option maxRecDepth 20000 in
theorem ggX11_take_X0_weighsAt : GoodIn wsX11_take wsX0_weighsAt := goodIn_r _ [22, 23, 24, 25, 26, 27, 28, 21, 29, 30, 31, 59, 60, 61, 62, 63, 64, 65, 66, 67, 68, 69, 70, 71, 72, 73, 74] (by decide +kernel) (by decide +kernel)
set_option maxRecDepth 20000 in
theorem gX11_take_X0_weighsAt : GoodIn wsX11_take (wsV RX11 161 RX0 yX0_weighsAt wsX0_weighsAt) := goodIn_app (goodIn_of _ (by decide +kernel)) ggX11_take_X0_weighsAt
set_option maxRecDepth 20000 in
theorem ggX11_take_X1_closePlace : GoodIn wsX11_take wsX1_closePlace := goodIn_r _ [35, 16, 36, 37, 38, 14, 39, 17, 40, 41, 42, 43, 44, 45, 46, 47, 48, 62, 63, 64, 65, 66, 67, 68] (by decide +kernel) (by decide +kernel)
set_option maxRecDepth 20000 in
theorem gX11_take_X1_closePlace : GoodIn wsX11_take (wsV RX11 164 RX1 yX1_closePlace wsX1_closePlace) := goodIn_app (goodIn_of _ (by decide +kernel)) ggX11_take_X1_closePlace
theorem dX11_take_0 : decode cX11_take 0 = .ok (.iload_n 1, 1) := by decide +kernel
theorem dX11_take_1 : decode cX11_take 1 = .ok (.invokestatic 122, 3) := by decide +kernel
theorem dX11_take_4 : decode cX11_take 4 = .ok (.ifCond .ne 5, 3) := by decide +kernel
theorem dX11_take_7 : decode cX11_take 7 = .ok (.iconst (-1), 1) := by decide +kernel
theorem dX11_take_8 : decode cX11_take 8 = .ok (.ireturn, 1) := by decide +kernel
theorem dX11_take_9 : decode cX11_take 9 = .ok (.aload_n 0, 1) := by decide +kernel
theorem dX11_take_10 : decode cX11_take 10 = .ok (.getfield 12, 3) := by decide +kernel
theorem dX11_take_13 : decode cX11_take 13 = .ok (.getfield 131, 3) := by decide +kernel
theorem dX11_take_16 : decode cX11_take 16 = .ok (.iload_n 1, 1) := by decide +kernel
theorem dX11_take_17 : decode cX11_take 17 = .ok (.invokevirtual 135, 3) := by decide +kernel
theorem dX11_take_20 : decode cX11_take 20 = .ok (.istore_n 2, 1) := by decide +kernel
theorem dX11_take_21 : decode cX11_take 21 = .ok (.iload_n 2, 1) := by decide +kernel
theorem dX11_take_22 : decode cX11_take 22 = .ok (.ifCond .ge 6, 3) := by decide +kernel
theorem dX11_take_25 : decode cX11_take 25 = .ok (.bipush (-2), 2) := by decide +kernel
theorem dX11_take_27 : decode cX11_take 27 = .ok (.ireturn, 1) := by decide +kernel
theorem dX11_take_28 : decode cX11_take 28 = .ok (.aload_n 0, 1) := by decide +kernel
theorem dX11_take_29 : decode cX11_take 29 = .ok (.getfield 12, 3) := by decide +kernel
theorem dX11_take_32 : decode cX11_take 32 = .ok (.iload_n 2, 1) := by decide +kernel
theorem dX11_take_33 : decode cX11_take 33 = .ok (.invokevirtual 161, 3) := by decide +kernel
theorem dX11_take_36 : decode cX11_take 36 = .ok (.istore_n 3, 1) := by decide +kernel
theorem dX11_take_37 : decode cX11_take 37 = .ok (.aload_n 0, 1) := by decide +kernel
theorem dX11_take_38 : decode cX11_take 38 = .ok (.getfield 12, 3) := by decide +kernel
theorem dX11_take_41 : decode cX11_take 41 = .ok (.getfield 131, 3) := by decide +kernel
theorem dX11_take_44 : decode cX11_take 44 = .ok (.iload_n 2, 1) := by decide +kernel
theorem dX11_take_45 : decode cX11_take 45 = .ok (.invokevirtual 164, 3) := by decide +kernel
theorem dX11_take_48 : decode cX11_take 48 = .ok (.iload_n 3, 1) := by decide +kernel
theorem dX11_take_49 : decode cX11_take 49 = .ok (.ireturn, 1) := by decide +kernel
set_option maxRecDepth 20000 in
theorem ggX11_move_X11_isName : GoodIn wsX11_move wsX11_isName := goodIn_r _ [9, 10, 11, 12, 8, 13] (by decide +kernel) (by decide +kernel)
set_option maxRecDepth 20000 in
theorem gX11_move_X11_isName : GoodIn wsX11_move (va_wsS RX11 122 yX11_isName wsX11_isName) := goodIn_app (goodIn_of _ (by decide +kernel)) ggX11_move_X11_isName
set_option maxRecDepth 20000 in
theorem ggX11_move_X2_hasSection : GoodIn wsX11_move wsX2_hasSection := goodIn_r _ [18, 19, 12, 8, 13, 50, 51, 52, 53, 54, 55] (by decide +kernel) (by decide +kernel)
set_option maxRecDepth 20000 in
theorem gX11_move_X2_hasSection : GoodIn wsX11_move (wsV RX11 92 RX2 yX2_hasSection wsX2_hasSection) := goodIn_app (goodIn_of _ (by decide +kernel)) ggX11_move_X2_hasSection
set_option maxRecDepth 20000 in
theorem ggX11_move_X11_isSide : GoodIn wsX11_move wsX11_isSide := goodIn_r _ [22, 11, 12, 8, 13] (by decide +kernel) (by decide +kernel)
set_option maxRecDepth 20000 in
theorem gX11_move_X11_isSide : GoodIn wsX11_move (va_wsS RX11 128 yX11_isSide wsX11_isSide) := goodIn_app (goodIn_of _ (by decide +kernel)) ggX11_move_X11_isSide
set_option maxRecDepth 20000 in
theorem ggX11_move_X1_placeOf : GoodIn wsX11_move wsX1_placeOf := goodIn_r _ [27, 28, 29, 43, 44, 45, 46, 47, 48, 49] (by decide +kernel) (by decide +kernel)
set_option maxRecDepth 20000 in
theorem gX11_move_X1_placeOf : GoodIn wsX11_move (wsV RX11 135 RX1 yX1_placeOf wsX1_placeOf) := goodIn_app (goodIn_of _ (by decide +kernel)) ggX11_move_X1_placeOf
theorem dX11_move_0 : decode cX11_move 0 = .ok (.iload_n 1, 1) := by decide +kernel
theorem dX11_move_1 : decode cX11_move 1 = .ok (.invokestatic 122, 3) := by decide +kernel
theorem dX11_move_4 : decode cX11_move 4 = .ok (.ifCond .eq 24, 3) := by decide +kernel
theorem dX11_move_7 : decode cX11_move 7 = .ok (.aload_n 0, 1) := by decide +kernel
theorem dX11_move_8 : decode cX11_move 8 = .ok (.getfield 12, 3) := by decide +kernel
theorem dX11_move_11 : decode cX11_move 11 = .ok (.getfield 82, 3) := by decide +kernel
theorem dX11_move_14 : decode cX11_move 14 = .ok (.iload_n 2, 1) := by decide +kernel
theorem dX11_move_15 : decode cX11_move 15 = .ok (.invokevirtual 92, 3) := by decide +kernel
theorem dX11_move_18 : decode cX11_move 18 = .ok (.ifCond .eq 10, 3) := by decide +kernel
theorem dX11_move_21 : decode cX11_move 21 = .ok (.iload_n 3, 1) := by decide +kernel
theorem dX11_move_22 : decode cX11_move 22 = .ok (.invokestatic 128, 3) := by decide +kernel
theorem dX11_move_25 : decode cX11_move 25 = .ok (.ifCond .ne 5, 3) := by decide +kernel
theorem dX11_move_28 : decode cX11_move 28 = .ok (.iconst (-1), 1) := by decide +kernel
theorem dX11_move_29 : decode cX11_move 29 = .ok (.ireturn, 1) := by decide +kernel
theorem dX11_move_30 : decode cX11_move 30 = .ok (.aload_n 0, 1) := by decide +kernel
theorem dX11_move_31 : decode cX11_move 31 = .ok (.getfield 12, 3) := by decide +kernel
theorem dX11_move_34 : decode cX11_move 34 = .ok (.getfield 131, 3) := by decide +kernel
theorem dX11_move_37 : decode cX11_move 37 = .ok (.iload_n 1, 1) := by decide +kernel
theorem dX11_move_38 : decode cX11_move 38 = .ok (.invokevirtual 135, 3) := by decide +kernel
theorem dX11_move_41 : decode cX11_move 41 = .ok (.istore 4, 2) := by decide +kernel
theorem dX11_move_43 : decode cX11_move 43 = .ok (.iload 4, 2) := by decide +kernel
theorem dX11_move_45 : decode cX11_move 45 = .ok (.ifCond .ge 6, 3) := by decide +kernel
theorem dX11_move_48 : decode cX11_move 48 = .ok (.bipush (-2), 2) := by decide +kernel
theorem dX11_move_50 : decode cX11_move 50 = .ok (.ireturn, 1) := by decide +kernel
theorem dX11_move_51 : decode cX11_move 51 = .ok (.aload_n 0, 1) := by decide +kernel
theorem dX11_move_52 : decode cX11_move 52 = .ok (.getfield 12, 3) := by decide +kernel
theorem dX11_move_55 : decode cX11_move 55 = .ok (.getfield 131, 3) := by decide +kernel
theorem dX11_move_58 : decode cX11_move 58 = .ok (.getfield 152, 3) := by decide +kernel
theorem dX11_move_61 : decode cX11_move 61 = .ok (.iload 4, 2) := by decide +kernel
theorem dX11_move_63 : decode cX11_move 63 = .ok (.iaload, 1) := by decide +kernel
theorem dX11_move_64 : decode cX11_move 64 = .ok (.istore 5, 2) := by decide +kernel
theorem dX11_move_66 : decode cX11_move 66 = .ok (.aload_n 0, 1) := by decide +kernel
theorem dX11_move_67 : decode cX11_move 67 = .ok (.getfield 12, 3) := by decide +kernel
theorem dX11_move_70 : decode cX11_move 70 = .ok (.getfield 131, 3) := by decide +kernel
theorem dX11_move_73 : decode cX11_move 73 = .ok (.getfield 152, 3) := by decide +kernel
theorem dX11_move_76 : decode cX11_move 76 = .ok (.iload 4, 2) := by decide +kernel
theorem dX11_move_78 : decode cX11_move 78 = .ok (.iload_n 2, 1) := by decide +kernel
theorem dX11_move_79 : decode cX11_move 79 = .ok (.iastore, 1) := by decide +kernel
theorem dX11_move_80 : decode cX11_move 80 = .ok (.aload_n 0, 1) := by decide +kernel
theorem dX11_move_81 : decode cX11_move 81 = .ok (.getfield 12, 3) := by decide +kernel
theorem dX11_move_84 : decode cX11_move 84 = .ok (.getfield 131, 3) := by decide +kernel
theorem dX11_move_87 : decode cX11_move 87 = .ok (.getfield 155, 3) := by decide +kernel
theorem dX11_move_90 : decode cX11_move 90 = .ok (.iload 4, 2) := by decide +kernel
theorem dX11_move_92 : decode cX11_move 92 = .ok (.iload_n 3, 1) := by decide +kernel
theorem dX11_move_93 : decode cX11_move 93 = .ok (.iastore, 1) := by decide +kernel
theorem dX11_move_94 : decode cX11_move 94 = .ok (.iload 5, 2) := by decide +kernel
theorem dX11_move_96 : decode cX11_move 96 = .ok (.ireturn, 1) := by decide +kernel
set_option maxRecDepth 20000 in
theorem ggX11_goods_X11_isName : GoodIn wsX11_goods wsX11_isName := goodIn_r _ [12, 13, 14, 15, 11, 16] (by decide +kernel) (by decide +kernel)
set_option maxRecDepth 20000 in
theorem gX11_goods_X11_isName : GoodIn wsX11_goods (va_wsS RX11 122 yX11_isName wsX11_isName) := goodIn_app (goodIn_of _ (by decide +kernel)) ggX11_goods_X11_isName
set_option maxRecDepth 20000 in
theorem ggX11_goods_X1_placeOf : GoodIn wsX11_goods wsX1_placeOf := goodIn_r _ [21, 22, 23, 141, 142, 143, 144, 145, 146, 147] (by decide +kernel) (by decide +kernel)
set_option maxRecDepth 20000 in
theorem gX11_goods_X1_placeOf : GoodIn wsX11_goods (wsV RX11 135 RX1 yX1_placeOf wsX1_placeOf) := goodIn_app (goodIn_of _ (by decide +kernel)) ggX11_goods_X1_placeOf
set_option maxRecDepth 20000 in
theorem ggX11_goods_X0_weighsAt : GoodIn wsX11_goods wsX0_weighsAt := goodIn_r _ [28, 29, 30, 31, 32, 33, 34, 27, 35, 36, 37, 138, 139, 140, 141, 142, 143, 144, 145, 146, 147, 148, 149, 150, 151, 152, 153] (by decide +kernel) (by decide +kernel)
set_option maxRecDepth 20000 in
theorem gX11_goods_X0_weighsAt : GoodIn wsX11_goods (wsV RX11 161 RX0 yX0_weighsAt wsX0_weighsAt) := goodIn_app (goodIn_of _ (by decide +kernel)) ggX11_goods_X0_weighsAt
set_option maxRecDepth 20000 in
theorem ggX11_goods_X0_heelBehind : GoodIn wsX11_goods wsX0_heelBehind := goodIn_r _ [41, 42, 43, 44, 45, 27, 46, 36, 47, 48, 49, 50, 51, 52, 53, 54, 29, 55, 56, 57, 25, 26, 28, 30, 31, 32, 33, 34, 35, 37, 58, 59, 60, 61, 62, 63, 64, 65, 66, 67, 68, 69, 70, 71, 72, 73, 74, 75, 76, 77, 78, 79, 80, 81, 82, 83, 84, 85, 86, 87, 88, 89, 90, 91, 11, 92, 93, 94, 95, 96, 97, 98, 99, 100, 101, 102, 103, 104, 105, 106, 107, 108, 109, 110, 111, 112, 113, 114, 115, 116, 117, 118, 119, 120, 1, 121, 122, 123, 124, 125, 126, 138, 139, 140, 148, 149, 150, 151, 152, 153, 141, 142, 143, 144, 145, 146, 147, 154, 155, 156, 157] (by decide +kernel) (by decide +kernel)
set_option maxRecDepth 20000 in
theorem gX11_goods_X0_heelBehind : GoodIn wsX11_goods (wsV RX11 168 RX0 yX0_heelBehind wsX0_heelBehind) := goodIn_app (goodIn_of _ (by decide +kernel)) ggX11_goods_X0_heelBehind
set_option maxRecDepth 20000 in
theorem ggX11_goods_X11_rollsOf : GoodIn wsX11_goods wsX11_rollsOf := goodIn_r _ [120, 1] (by decide +kernel) (by decide +kernel)
set_option maxRecDepth 20000 in
theorem gX11_goods_X11_rollsOf : GoodIn wsX11_goods (va_wsS RX11 171 yX11_rollsOf wsX11_rollsOf) := goodIn_app (goodIn_of _ (by decide +kernel)) ggX11_goods_X11_rollsOf
theorem dX11_goods_0 : decode cX11_goods 0 = .ok (.iload_n 1, 1) := by decide +kernel
theorem dX11_goods_1 : decode cX11_goods 1 = .ok (.invokestatic 122, 3) := by decide +kernel
theorem dX11_goods_4 : decode cX11_goods 4 = .ok (.ifCond .ne 6, 3) := by decide +kernel
theorem dX11_goods_7 : decode cX11_goods 7 = .ok (.ldc 167, 2) := by decide +kernel
theorem dX11_goods_9 : decode cX11_goods 9 = .ok (.ireturn, 1) := by decide +kernel
theorem dX11_goods_10 : decode cX11_goods 10 = .ok (.aload_n 0, 1) := by decide +kernel
theorem dX11_goods_11 : decode cX11_goods 11 = .ok (.getfield 12, 3) := by decide +kernel
theorem dX11_goods_14 : decode cX11_goods 14 = .ok (.getfield 131, 3) := by decide +kernel
theorem dX11_goods_17 : decode cX11_goods 17 = .ok (.iload_n 1, 1) := by decide +kernel
theorem dX11_goods_18 : decode cX11_goods 18 = .ok (.invokevirtual 135, 3) := by decide +kernel
theorem dX11_goods_21 : decode cX11_goods 21 = .ok (.istore_n 3, 1) := by decide +kernel
theorem dX11_goods_22 : decode cX11_goods 22 = .ok (.iload_n 3, 1) := by decide +kernel
theorem dX11_goods_23 : decode cX11_goods 23 = .ok (.ifCond .ge 6, 3) := by decide +kernel
theorem dX11_goods_26 : decode cX11_goods 26 = .ok (.ldc 167, 2) := by decide +kernel
theorem dX11_goods_28 : decode cX11_goods 28 = .ok (.ireturn, 1) := by decide +kernel
theorem dX11_goods_29 : decode cX11_goods 29 = .ok (.iload_n 2, 1) := by decide +kernel
theorem dX11_goods_30 : decode cX11_goods 30 = .ok (.tableswitch 140 0 6 #[42, 55, 68, 81, 94, 107, 116], 42) := by decide +kernel
theorem dX11_goods_72 : decode cX11_goods 72 = .ok (.aload_n 0, 1) := by decide +kernel
theorem dX11_goods_73 : decode cX11_goods 73 = .ok (.getfield 12, 3) := by decide +kernel
theorem dX11_goods_76 : decode cX11_goods 76 = .ok (.getfield 131, 3) := by decide +kernel
theorem dX11_goods_79 : decode cX11_goods 79 = .ok (.getfield 146, 3) := by decide +kernel
theorem dX11_goods_82 : decode cX11_goods 82 = .ok (.iload_n 3, 1) := by decide +kernel
theorem dX11_goods_83 : decode cX11_goods 83 = .ok (.iaload, 1) := by decide +kernel
theorem dX11_goods_84 : decode cX11_goods 84 = .ok (.ireturn, 1) := by decide +kernel
theorem dX11_goods_85 : decode cX11_goods 85 = .ok (.aload_n 0, 1) := by decide +kernel
theorem dX11_goods_86 : decode cX11_goods 86 = .ok (.getfield 12, 3) := by decide +kernel
theorem dX11_goods_89 : decode cX11_goods 89 = .ok (.getfield 131, 3) := by decide +kernel
theorem dX11_goods_92 : decode cX11_goods 92 = .ok (.getfield 149, 3) := by decide +kernel
theorem dX11_goods_95 : decode cX11_goods 95 = .ok (.iload_n 3, 1) := by decide +kernel
theorem dX11_goods_96 : decode cX11_goods 96 = .ok (.iaload, 1) := by decide +kernel
theorem dX11_goods_97 : decode cX11_goods 97 = .ok (.ireturn, 1) := by decide +kernel
theorem dX11_goods_98 : decode cX11_goods 98 = .ok (.aload_n 0, 1) := by decide +kernel
theorem dX11_goods_99 : decode cX11_goods 99 = .ok (.getfield 12, 3) := by decide +kernel
theorem dX11_goods_102 : decode cX11_goods 102 = .ok (.getfield 131, 3) := by decide +kernel
theorem dX11_goods_105 : decode cX11_goods 105 = .ok (.getfield 152, 3) := by decide +kernel
theorem dX11_goods_108 : decode cX11_goods 108 = .ok (.iload_n 3, 1) := by decide +kernel
theorem dX11_goods_109 : decode cX11_goods 109 = .ok (.iaload, 1) := by decide +kernel
theorem dX11_goods_110 : decode cX11_goods 110 = .ok (.ireturn, 1) := by decide +kernel
theorem dX11_goods_111 : decode cX11_goods 111 = .ok (.aload_n 0, 1) := by decide +kernel
theorem dX11_goods_112 : decode cX11_goods 112 = .ok (.getfield 12, 3) := by decide +kernel
theorem dX11_goods_115 : decode cX11_goods 115 = .ok (.getfield 131, 3) := by decide +kernel
theorem dX11_goods_118 : decode cX11_goods 118 = .ok (.getfield 155, 3) := by decide +kernel
theorem dX11_goods_121 : decode cX11_goods 121 = .ok (.iload_n 3, 1) := by decide +kernel
theorem dX11_goods_122 : decode cX11_goods 122 = .ok (.iaload, 1) := by decide +kernel
theorem dX11_goods_123 : decode cX11_goods 123 = .ok (.ireturn, 1) := by decide +kernel
theorem dX11_goods_124 : decode cX11_goods 124 = .ok (.aload_n 0, 1) := by decide +kernel
theorem dX11_goods_125 : decode cX11_goods 125 = .ok (.getfield 12, 3) := by decide +kernel
theorem dX11_goods_128 : decode cX11_goods 128 = .ok (.getfield 131, 3) := by decide +kernel
theorem dX11_goods_131 : decode cX11_goods 131 = .ok (.getfield 158, 3) := by decide +kernel
theorem dX11_goods_134 : decode cX11_goods 134 = .ok (.iload_n 3, 1) := by decide +kernel
theorem dX11_goods_135 : decode cX11_goods 135 = .ok (.iaload, 1) := by decide +kernel
theorem dX11_goods_136 : decode cX11_goods 136 = .ok (.ireturn, 1) := by decide +kernel
theorem dX11_goods_137 : decode cX11_goods 137 = .ok (.aload_n 0, 1) := by decide +kernel
theorem dX11_goods_138 : decode cX11_goods 138 = .ok (.getfield 12, 3) := by decide +kernel
theorem dX11_goods_141 : decode cX11_goods 141 = .ok (.iload_n 3, 1) := by decide +kernel
theorem dX11_goods_142 : decode cX11_goods 142 = .ok (.invokevirtual 161, 3) := by decide +kernel
theorem dX11_goods_145 : decode cX11_goods 145 = .ok (.ireturn, 1) := by decide +kernel
theorem dX11_goods_146 : decode cX11_goods 146 = .ok (.aload_n 0, 1) := by decide +kernel
theorem dX11_goods_147 : decode cX11_goods 147 = .ok (.getfield 12, 3) := by decide +kernel
theorem dX11_goods_150 : decode cX11_goods 150 = .ok (.getfield 131, 3) := by decide +kernel
theorem dX11_goods_153 : decode cX11_goods 153 = .ok (.getfield 146, 3) := by decide +kernel
theorem dX11_goods_156 : decode cX11_goods 156 = .ok (.iload_n 3, 1) := by decide +kernel
theorem dX11_goods_157 : decode cX11_goods 157 = .ok (.iaload, 1) := by decide +kernel
theorem dX11_goods_158 : decode cX11_goods 158 = .ok (.aload_n 0, 1) := by decide +kernel
theorem dX11_goods_159 : decode cX11_goods 159 = .ok (.getfield 12, 3) := by decide +kernel
theorem dX11_goods_162 : decode cX11_goods 162 = .ok (.iconst 0, 1) := by decide +kernel
theorem dX11_goods_163 : decode cX11_goods 163 = .ok (.invokevirtual 168, 3) := by decide +kernel
theorem dX11_goods_166 : decode cX11_goods 166 = .ok (.invokestatic 171, 3) := by decide +kernel
theorem dX11_goods_169 : decode cX11_goods 169 = .ok (.ireturn, 1) := by decide +kernel
theorem dX11_goods_170 : decode cX11_goods 170 = .ok (.ldc 167, 2) := by decide +kernel
theorem dX11_goods_172 : decode cX11_goods 172 = .ok (.ireturn, 1) := by decide +kernel
set_option maxRecDepth 20000 in
theorem ggX11_taken_X11_isName : GoodIn wsX11_taken wsX11_isName := goodIn_r _ [8, 9, 10, 11, 7, 12] (by decide +kernel) (by decide +kernel)
set_option maxRecDepth 20000 in
theorem gX11_taken_X11_isName : GoodIn wsX11_taken (va_wsS RX11 122 yX11_isName wsX11_isName) := goodIn_app (goodIn_of _ (by decide +kernel)) ggX11_taken_X11_isName
set_option maxRecDepth 20000 in
theorem ggX11_taken_X11_isKind : GoodIn wsX11_taken wsX11_isKind := goodIn_r _ [15, 10, 11, 7, 12] (by decide +kernel) (by decide +kernel)
set_option maxRecDepth 20000 in
theorem gX11_taken_X11_isKind : GoodIn wsX11_taken (va_wsS RX11 125 yX11_isKind wsX11_isKind) := goodIn_app (goodIn_of _ (by decide +kernel)) ggX11_taken_X11_isKind
set_option maxRecDepth 20000 in
theorem ggX11_taken_X1_placeOf : GoodIn wsX11_taken wsX1_placeOf := goodIn_r _ [20, 21, 22, 40, 41, 42, 43, 44, 45, 46] (by decide +kernel) (by decide +kernel)
set_option maxRecDepth 20000 in
theorem gX11_taken_X1_placeOf : GoodIn wsX11_taken (wsV RX11 135 RX1 yX1_placeOf wsX1_placeOf) := goodIn_app (goodIn_of _ (by decide +kernel)) ggX11_taken_X1_placeOf
set_option maxRecDepth 20000 in
theorem ggX11_taken_X11_isOfKind : GoodIn wsX11_taken wsX11_isOfKind := goodIn_r _ [25, 26, 13, 14, 7, 15, 10, 11, 12] (by decide +kernel) (by decide +kernel)
set_option maxRecDepth 20000 in
theorem gX11_taken_X11_isOfKind : GoodIn wsX11_taken (va_wsS RX11 175 yX11_isOfKind wsX11_isOfKind) := goodIn_app (goodIn_of _ (by decide +kernel)) ggX11_taken_X11_isOfKind
theorem dX11_taken_0 : decode cX11_taken 0 = .ok (.iload_n 1, 1) := by decide +kernel
theorem dX11_taken_1 : decode cX11_taken 1 = .ok (.invokestatic 122, 3) := by decide +kernel
theorem dX11_taken_4 : decode cX11_taken 4 = .ok (.ifCond .eq 10, 3) := by decide +kernel
theorem dX11_taken_7 : decode cX11_taken 7 = .ok (.iload_n 2, 1) := by decide +kernel
theorem dX11_taken_8 : decode cX11_taken 8 = .ok (.invokestatic 125, 3) := by decide +kernel
theorem dX11_taken_11 : decode cX11_taken 11 = .ok (.ifCond .ne 5, 3) := by decide +kernel
theorem dX11_taken_14 : decode cX11_taken 14 = .ok (.iconst (-1), 1) := by decide +kernel
theorem dX11_taken_15 : decode cX11_taken 15 = .ok (.ireturn, 1) := by decide +kernel
theorem dX11_taken_16 : decode cX11_taken 16 = .ok (.aload_n 0, 1) := by decide +kernel
theorem dX11_taken_17 : decode cX11_taken 17 = .ok (.getfield 12, 3) := by decide +kernel
theorem dX11_taken_20 : decode cX11_taken 20 = .ok (.getfield 131, 3) := by decide +kernel
theorem dX11_taken_23 : decode cX11_taken 23 = .ok (.iload_n 1, 1) := by decide +kernel
theorem dX11_taken_24 : decode cX11_taken 24 = .ok (.invokevirtual 135, 3) := by decide +kernel
theorem dX11_taken_27 : decode cX11_taken 27 = .ok (.istore_n 3, 1) := by decide +kernel
theorem dX11_taken_28 : decode cX11_taken 28 = .ok (.iload_n 3, 1) := by decide +kernel
theorem dX11_taken_29 : decode cX11_taken 29 = .ok (.ifCond .ge 6, 3) := by decide +kernel
theorem dX11_taken_32 : decode cX11_taken 32 = .ok (.bipush (-2), 2) := by decide +kernel
theorem dX11_taken_34 : decode cX11_taken 34 = .ok (.ireturn, 1) := by decide +kernel
theorem dX11_taken_35 : decode cX11_taken 35 = .ok (.aload_n 0, 1) := by decide +kernel
theorem dX11_taken_36 : decode cX11_taken 36 = .ok (.getfield 12, 3) := by decide +kernel
theorem dX11_taken_39 : decode cX11_taken 39 = .ok (.getfield 131, 3) := by decide +kernel
theorem dX11_taken_42 : decode cX11_taken 42 = .ok (.getfield 146, 3) := by decide +kernel
theorem dX11_taken_45 : decode cX11_taken 45 = .ok (.iload_n 3, 1) := by decide +kernel
theorem dX11_taken_46 : decode cX11_taken 46 = .ok (.iaload, 1) := by decide +kernel
theorem dX11_taken_47 : decode cX11_taken 47 = .ok (.iload_n 2, 1) := by decide +kernel
theorem dX11_taken_48 : decode cX11_taken 48 = .ok (.invokestatic 175, 3) := by decide +kernel
theorem dX11_taken_51 : decode cX11_taken 51 = .ok (.ifCond .eq 18, 3) := by decide +kernel
theorem dX11_taken_54 : decode cX11_taken 54 = .ok (.aload_n 0, 1) := by decide +kernel
theorem dX11_taken_55 : decode cX11_taken 55 = .ok (.getfield 12, 3) := by decide +kernel
theorem dX11_taken_58 : decode cX11_taken 58 = .ok (.getfield 131, 3) := by decide +kernel
theorem dX11_taken_61 : decode cX11_taken 61 = .ok (.getfield 149, 3) := by decide +kernel
theorem dX11_taken_64 : decode cX11_taken 64 = .ok (.iload_n 3, 1) := by decide +kernel
theorem dX11_taken_65 : decode cX11_taken 65 = .ok (.iaload, 1) := by decide +kernel
theorem dX11_taken_66 : decode cX11_taken 66 = .ok (.goto 5, 3) := by decide +kernel
theorem dX11_taken_69 : decode cX11_taken 69 = .ok (.bipush (-5), 2) := by decide +kernel
theorem dX11_taken_71 : decode cX11_taken 71 = .ok (.ireturn, 1) := by decide +kernel
set_option maxRecDepth 20000 in
theorem ggX11_tank_X11_isTank : GoodIn wsX11_tank wsX11_isTank := goodIn_r _ [11, 12, 13, 10, 14] (by decide +kernel) (by decide +kernel)
set_option maxRecDepth 20000 in
theorem gX11_tank_X11_isTank : GoodIn wsX11_tank (va_wsS RX11 179 yX11_isTank wsX11_isTank) := goodIn_app (goodIn_of _ (by decide +kernel)) ggX11_tank_X11_isTank
set_option maxRecDepth 20000 in
theorem ggX11_tank_X2_hasSection : GoodIn wsX11_tank wsX2_hasSection := goodIn_r _ [19, 20, 13, 10, 14, 38, 39, 40, 41, 42, 43] (by decide +kernel) (by decide +kernel)
set_option maxRecDepth 20000 in
theorem gX11_tank_X2_hasSection : GoodIn wsX11_tank (wsV RX11 92 RX2 yX2_hasSection wsX2_hasSection) := goodIn_app (goodIn_of _ (by decide +kernel)) ggX11_tank_X2_hasSection
set_option maxRecDepth 20000 in
theorem ggX11_tank_X11_isWithin : GoodIn wsX11_tank wsX11_isWithin := goodIn_r _ [14] (by decide +kernel) (by decide +kernel)
set_option maxRecDepth 20000 in
theorem gX11_tank_X11_isWithin : GoodIn wsX11_tank (va_wsS RX11 78 yX11_isWithin wsX11_isWithin) := goodIn_app (goodIn_of _ (by decide +kernel)) ggX11_tank_X11_isWithin
theorem dX11_tank_0 : decode cX11_tank 0 = .ok (.iload_n 1, 1) := by decide +kernel
theorem dX11_tank_1 : decode cX11_tank 1 = .ok (.invokestatic 179, 3) := by decide +kernel
theorem dX11_tank_4 : decode cX11_tank 4 = .ok (.ifCond .eq 17, 3) := by decide +kernel
theorem dX11_tank_7 : decode cX11_tank 7 = .ok (.aload_n 0, 1) := by decide +kernel
theorem dX11_tank_8 : decode cX11_tank 8 = .ok (.getfield 12, 3) := by decide +kernel
theorem dX11_tank_11 : decode cX11_tank 11 = .ok (.getfield 82, 3) := by decide +kernel
theorem dX11_tank_14 : decode cX11_tank 14 = .ok (.iload_n 2, 1) := by decide +kernel
theorem dX11_tank_15 : decode cX11_tank 15 = .ok (.invokevirtual 92, 3) := by decide +kernel
theorem dX11_tank_18 : decode cX11_tank 18 = .ok (.ifCond .ne 5, 3) := by decide +kernel
theorem dX11_tank_21 : decode cX11_tank 21 = .ok (.iconst (-1), 1) := by decide +kernel
theorem dX11_tank_22 : decode cX11_tank 22 = .ok (.ireturn, 1) := by decide +kernel
theorem dX11_tank_23 : decode cX11_tank 23 = .ok (.iload_n 3, 1) := by decide +kernel
theorem dX11_tank_24 : decode cX11_tank 24 = .ok (.iconst 0, 1) := by decide +kernel
theorem dX11_tank_25 : decode cX11_tank 25 = .ok (.bipush 20, 2) := by decide +kernel
theorem dX11_tank_27 : decode cX11_tank 27 = .ok (.invokestatic 78, 3) := by decide +kernel
theorem dX11_tank_30 : decode cX11_tank 30 = .ok (.ifCond .eq 15, 3) := by decide +kernel
theorem dX11_tank_33 : decode cX11_tank 33 = .ok (.iload 4, 2) := by decide +kernel
theorem dX11_tank_35 : decode cX11_tank 35 = .ok (.iconst 0, 1) := by decide +kernel
theorem dX11_tank_36 : decode cX11_tank 36 = .ok (.sipush 999, 3) := by decide +kernel
theorem dX11_tank_39 : decode cX11_tank 39 = .ok (.invokestatic 78, 3) := by decide +kernel
theorem dX11_tank_42 : decode cX11_tank 42 = .ok (.ifCond .ne 5, 3) := by decide +kernel
theorem dX11_tank_45 : decode cX11_tank 45 = .ok (.iconst (-1), 1) := by decide +kernel
theorem dX11_tank_46 : decode cX11_tank 46 = .ok (.ireturn, 1) := by decide +kernel
theorem dX11_tank_47 : decode cX11_tank 47 = .ok (.aload_n 0, 1) := by decide +kernel
theorem dX11_tank_48 : decode cX11_tank 48 = .ok (.getfield 12, 3) := by decide +kernel
theorem dX11_tank_51 : decode cX11_tank 51 = .ok (.getfield 182, 3) := by decide +kernel
theorem dX11_tank_54 : decode cX11_tank 54 = .ok (.getfield 186, 3) := by decide +kernel
theorem dX11_tank_57 : decode cX11_tank 57 = .ok (.iload_n 1, 1) := by decide +kernel
theorem dX11_tank_58 : decode cX11_tank 58 = .ok (.iload_n 2, 1) := by decide +kernel
theorem dX11_tank_59 : decode cX11_tank 59 = .ok (.iastore, 1) := by decide +kernel
theorem dX11_tank_60 : decode cX11_tank 60 = .ok (.aload_n 0, 1) := by decide +kernel
theorem dX11_tank_61 : decode cX11_tank 61 = .ok (.getfield 12, 3) := by decide +kernel
theorem dX11_tank_64 : decode cX11_tank 64 = .ok (.getfield 182, 3) := by decide +kernel
theorem dX11_tank_67 : decode cX11_tank 67 = .ok (.getfield 189, 3) := by decide +kernel
theorem dX11_tank_70 : decode cX11_tank 70 = .ok (.iload_n 1, 1) := by decide +kernel
theorem dX11_tank_71 : decode cX11_tank 71 = .ok (.iload_n 3, 1) := by decide +kernel
theorem dX11_tank_72 : decode cX11_tank 72 = .ok (.iastore, 1) := by decide +kernel
theorem dX11_tank_73 : decode cX11_tank 73 = .ok (.aload_n 0, 1) := by decide +kernel
theorem dX11_tank_74 : decode cX11_tank 74 = .ok (.getfield 12, 3) := by decide +kernel
theorem dX11_tank_77 : decode cX11_tank 77 = .ok (.getfield 182, 3) := by decide +kernel
theorem dX11_tank_80 : decode cX11_tank 80 = .ok (.getfield 192, 3) := by decide +kernel
theorem dX11_tank_83 : decode cX11_tank 83 = .ok (.iload_n 1, 1) := by decide +kernel
theorem dX11_tank_84 : decode cX11_tank 84 = .ok (.iload 4, 2) := by decide +kernel
theorem dX11_tank_86 : decode cX11_tank 86 = .ok (.iastore, 1) := by decide +kernel
theorem dX11_tank_87 : decode cX11_tank 87 = .ok (.aload_n 0, 1) := by decide +kernel
theorem dX11_tank_88 : decode cX11_tank 88 = .ok (.getfield 12, 3) := by decide +kernel
theorem dX11_tank_91 : decode cX11_tank 91 = .ok (.getfield 182, 3) := by decide +kernel
theorem dX11_tank_94 : decode cX11_tank 94 = .ok (.getfield 195, 3) := by decide +kernel
theorem dX11_tank_97 : decode cX11_tank 97 = .ok (.iload_n 1, 1) := by decide +kernel
theorem dX11_tank_98 : decode cX11_tank 98 = .ok (.iconst 0, 1) := by decide +kernel
theorem dX11_tank_99 : decode cX11_tank 99 = .ok (.iastore, 1) := by decide +kernel
theorem dX11_tank_100 : decode cX11_tank 100 = .ok (.iconst 1, 1) := by decide +kernel
theorem dX11_tank_101 : decode cX11_tank 101 = .ok (.ireturn, 1) := by decide +kernel
set_option maxRecDepth 20000 in
theorem ggX11_fill_X11_isTank : GoodIn wsX11_fill wsX11_isTank := goodIn_r _ [8, 9, 10, 7, 11] (by decide +kernel) (by decide +kernel)
set_option maxRecDepth 20000 in
theorem gX11_fill_X11_isTank : GoodIn wsX11_fill (va_wsS RX11 179 yX11_isTank wsX11_isTank) := goodIn_app (goodIn_of _ (by decide +kernel)) ggX11_fill_X11_isTank
set_option maxRecDepth 20000 in
theorem ggX11_fill_X8_isThere : GoodIn wsX11_fill wsX8_isThere := goodIn_r _ [16, 17, 31, 32, 33, 34] (by decide +kernel) (by decide +kernel)
set_option maxRecDepth 20000 in
theorem gX11_fill_X8_isThere : GoodIn wsX11_fill (wsV RX11 198 RX8 yX8_isThere wsX8_isThere) := goodIn_app (goodIn_of _ (by decide +kernel)) ggX11_fill_X8_isThere
theorem dX11_fill_0 : decode cX11_fill 0 = .ok (.iload_n 1, 1) := by decide +kernel
theorem dX11_fill_1 : decode cX11_fill 1 = .ok (.invokestatic 179, 3) := by decide +kernel
theorem dX11_fill_4 : decode cX11_fill 4 = .ok (.ifCond .eq 7, 3) := by decide +kernel
theorem dX11_fill_7 : decode cX11_fill 7 = .ok (.iload_n 2, 1) := by decide +kernel
theorem dX11_fill_8 : decode cX11_fill 8 = .ok (.ifCond .ge 5, 3) := by decide +kernel
theorem dX11_fill_11 : decode cX11_fill 11 = .ok (.iconst (-1), 1) := by decide +kernel
theorem dX11_fill_12 : decode cX11_fill 12 = .ok (.ireturn, 1) := by decide +kernel
theorem dX11_fill_13 : decode cX11_fill 13 = .ok (.aload_n 0, 1) := by decide +kernel
theorem dX11_fill_14 : decode cX11_fill 14 = .ok (.getfield 12, 3) := by decide +kernel
theorem dX11_fill_17 : decode cX11_fill 17 = .ok (.getfield 182, 3) := by decide +kernel
theorem dX11_fill_20 : decode cX11_fill 20 = .ok (.getfield 192, 3) := by decide +kernel
theorem dX11_fill_23 : decode cX11_fill 23 = .ok (.iload_n 1, 1) := by decide +kernel
theorem dX11_fill_24 : decode cX11_fill 24 = .ok (.iaload, 1) := by decide +kernel
theorem dX11_fill_25 : decode cX11_fill 25 = .ok (.iload_n 2, 1) := by decide +kernel
theorem dX11_fill_26 : decode cX11_fill 26 = .ok (.if_icmp .lt 17, 3) := by decide +kernel
theorem dX11_fill_29 : decode cX11_fill 29 = .ok (.aload_n 0, 1) := by decide +kernel
theorem dX11_fill_30 : decode cX11_fill 30 = .ok (.getfield 12, 3) := by decide +kernel
theorem dX11_fill_33 : decode cX11_fill 33 = .ok (.getfield 182, 3) := by decide +kernel
theorem dX11_fill_36 : decode cX11_fill 36 = .ok (.iload_n 1, 1) := by decide +kernel
theorem dX11_fill_37 : decode cX11_fill 37 = .ok (.invokevirtual 198, 3) := by decide +kernel
theorem dX11_fill_40 : decode cX11_fill 40 = .ok (.ifCond .ne 6, 3) := by decide +kernel
theorem dX11_fill_43 : decode cX11_fill 43 = .ok (.bipush (-5), 2) := by decide +kernel
theorem dX11_fill_45 : decode cX11_fill 45 = .ok (.ireturn, 1) := by decide +kernel
theorem dX11_fill_46 : decode cX11_fill 46 = .ok (.aload_n 0, 1) := by decide +kernel
theorem dX11_fill_47 : decode cX11_fill 47 = .ok (.getfield 12, 3) := by decide +kernel
theorem dX11_fill_50 : decode cX11_fill 50 = .ok (.getfield 182, 3) := by decide +kernel
theorem dX11_fill_53 : decode cX11_fill 53 = .ok (.getfield 195, 3) := by decide +kernel
theorem dX11_fill_56 : decode cX11_fill 56 = .ok (.iload_n 1, 1) := by decide +kernel
theorem dX11_fill_57 : decode cX11_fill 57 = .ok (.iaload, 1) := by decide +kernel
theorem dX11_fill_58 : decode cX11_fill 58 = .ok (.istore_n 3, 1) := by decide +kernel
theorem dX11_fill_59 : decode cX11_fill 59 = .ok (.aload_n 0, 1) := by decide +kernel
theorem dX11_fill_60 : decode cX11_fill 60 = .ok (.getfield 12, 3) := by decide +kernel
theorem dX11_fill_63 : decode cX11_fill 63 = .ok (.getfield 182, 3) := by decide +kernel
theorem dX11_fill_66 : decode cX11_fill 66 = .ok (.getfield 195, 3) := by decide +kernel
theorem dX11_fill_69 : decode cX11_fill 69 = .ok (.iload_n 1, 1) := by decide +kernel
theorem dX11_fill_70 : decode cX11_fill 70 = .ok (.iload_n 2, 1) := by decide +kernel
theorem dX11_fill_71 : decode cX11_fill 71 = .ok (.iastore, 1) := by decide +kernel
theorem dX11_fill_72 : decode cX11_fill 72 = .ok (.iload_n 3, 1) := by decide +kernel
theorem dX11_fill_73 : decode cX11_fill 73 = .ok (.ireturn, 1) := by decide +kernel
set_option maxRecDepth 20000 in
theorem ggX11_told_X0_allWeight : GoodIn wsX11_told wsX0_allWeight := goodIn_r _ [11, 12, 13, 14, 15, 16, 17, 18, 19, 20, 10, 21, 22, 23, 24, 25, 26, 27, 28, 132, 133, 134, 142, 143, 144, 145, 146, 147, 135, 136, 137, 138, 139, 140, 141, 148, 149, 150, 151] (by decide +kernel) (by decide +kernel)
set_option maxRecDepth 20000 in
theorem gX11_told_X0_allWeight : GoodIn wsX11_told (wsV RX11 201 RX0 yX0_allWeight wsX0_allWeight) := goodIn_app (goodIn_of _ (by decide +kernel)) ggX11_told_X0_allWeight
set_option maxRecDepth 20000 in
theorem ggX11_told_X0_allAlong : GoodIn wsX11_told wsX0_allAlong := goodIn_r _ [32, 12, 13, 33, 14, 15, 34, 16, 17, 35, 18, 19, 20, 10, 21, 22, 23, 24, 25, 26, 27, 28, 132, 133, 134, 142, 143, 144, 145, 146, 147, 135, 136, 137, 138, 139, 140, 141, 148, 149, 150, 151] (by decide +kernel) (by decide +kernel)
set_option maxRecDepth 20000 in
theorem gX11_told_X0_allAlong : GoodIn wsX11_told (wsV RX11 205 RX0 yX0_allAlong wsX0_allAlong) := goodIn_app (goodIn_of _ (by decide +kernel)) ggX11_told_X0_allAlong
set_option maxRecDepth 20000 in
theorem ggX11_told_X0_allAside : GoodIn wsX11_told wsX0_allAside := goodIn_r _ [39, 40, 41, 42, 10, 43, 14, 15, 44, 22, 45, 46, 47, 6, 48, 49, 50, 51, 52, 53, 54, 55, 56, 18, 19, 20, 21, 23, 24, 25, 26, 27, 12, 28, 132, 133, 134, 135, 136, 137, 138, 139, 140, 141, 142, 143, 144, 145, 146, 147] (by decide +kernel) (by decide +kernel)
set_option maxRecDepth 20000 in
theorem gX11_told_X0_allAside : GoodIn wsX11_told (wsV RX11 208 RX0 yX0_allAside wsX0_allAside) := goodIn_app (goodIn_of _ (by decide +kernel)) ggX11_told_X0_allAside
set_option maxRecDepth 20000 in
theorem ggX11_told_X0_allAloft : GoodIn wsX11_told wsX0_allAloft := goodIn_r _ [60, 14, 15, 61, 16, 17, 18, 19, 20, 10, 21, 22, 23, 24, 25, 26, 27, 12, 28, 132, 133, 134, 135, 136, 137, 138, 139, 140, 141, 148, 149, 150, 151, 142, 143, 144, 145, 146, 147] (by decide +kernel) (by decide +kernel)
set_option maxRecDepth 20000 in
theorem gX11_told_X0_allAloft : GoodIn wsX11_told (wsV RX11 211 RX0 yX0_allAloft wsX0_allAloft) := goodIn_app (goodIn_of _ (by decide +kernel)) ggX11_told_X0_allAloft
set_option maxRecDepth 20000 in
theorem ggX11_told_X0_allRighting : GoodIn wsX11_told wsX0_allRighting := goodIn_r _ [65, 12, 66, 33, 67, 16, 68, 8, 9, 10, 11, 13, 14, 15, 17, 18, 19, 20, 21, 22, 23, 24, 25, 26, 27, 28, 69, 70, 71, 72, 73, 74, 75, 76, 52, 77, 78, 79, 80, 81, 82, 83, 84, 85, 86, 87, 88, 89, 90, 91, 92, 93, 94, 95, 51, 53, 96, 97, 98, 99, 46, 100, 101, 102, 103, 104, 105, 106, 107, 108, 109, 110, 111, 112, 113, 58, 59, 60, 61, 132, 133, 134, 142, 143, 144, 145, 146, 147, 135, 136, 137, 138, 139, 140, 141, 148, 149, 150, 151] (by decide +kernel) (by decide +kernel)
set_option maxRecDepth 20000 in
theorem gX11_told_X0_allRighting : GoodIn wsX11_told (wsV RX11 214 RX0 yX0_allRighting wsX0_allRighting) := goodIn_app (goodIn_of _ (by decide +kernel)) ggX11_told_X0_allRighting
set_option maxRecDepth 20000 in
theorem ggX11_told_X8_howManySlack : GoodIn wsX11_told wsX8_howManySlack := goodIn_r _ [117, 107, 108, 109, 104, 110, 111, 112, 148, 149, 150, 151] (by decide +kernel) (by decide +kernel)
set_option maxRecDepth 20000 in
theorem gX11_told_X8_howManySlack : GoodIn wsX11_told (wsV RX11 217 RX8 yX8_howManySlack wsX8_howManySlack) := goodIn_app (goodIn_of _ (by decide +kernel)) ggX11_told_X8_howManySlack
set_option maxRecDepth 20000 in
theorem ggX11_told_X2_leastRise : GoodIn wsX11_told wsX2_leastRise := goodIn_r _ [121, 96, 74, 95, 51, 52, 53, 142, 143, 144, 145, 146, 147] (by decide +kernel) (by decide +kernel)
set_option maxRecDepth 20000 in
theorem gX11_told_X2_leastRise : GoodIn wsX11_told (wsV RX11 220 RX2 yX2_leastRise wsX2_leastRise) := goodIn_app (goodIn_of _ (by decide +kernel)) ggX11_told_X2_leastRise
theorem dX11_told_0 : decode cX11_told 0 = .ok (.iload_n 1, 1) := by decide +kernel
theorem dX11_told_1 : decode cX11_told 1 = .ok (.tableswitch 120 0 7 #[47, 55, 63, 71, 79, 87, 98, 109], 47) := by decide +kernel
theorem dX11_told_48 : decode cX11_told 48 = .ok (.aload_n 0, 1) := by decide +kernel
theorem dX11_told_49 : decode cX11_told 49 = .ok (.getfield 12, 3) := by decide +kernel
theorem dX11_told_52 : decode cX11_told 52 = .ok (.invokevirtual 201, 3) := by decide +kernel
theorem dX11_told_55 : decode cX11_told 55 = .ok (.ireturn, 1) := by decide +kernel
theorem dX11_told_56 : decode cX11_told 56 = .ok (.aload_n 0, 1) := by decide +kernel
theorem dX11_told_57 : decode cX11_told 57 = .ok (.getfield 12, 3) := by decide +kernel
theorem dX11_told_60 : decode cX11_told 60 = .ok (.invokevirtual 205, 3) := by decide +kernel
theorem dX11_told_63 : decode cX11_told 63 = .ok (.ireturn, 1) := by decide +kernel
theorem dX11_told_64 : decode cX11_told 64 = .ok (.aload_n 0, 1) := by decide +kernel
theorem dX11_told_65 : decode cX11_told 65 = .ok (.getfield 12, 3) := by decide +kernel
theorem dX11_told_68 : decode cX11_told 68 = .ok (.invokevirtual 208, 3) := by decide +kernel
theorem dX11_told_71 : decode cX11_told 71 = .ok (.ireturn, 1) := by decide +kernel
theorem dX11_told_72 : decode cX11_told 72 = .ok (.aload_n 0, 1) := by decide +kernel
theorem dX11_told_73 : decode cX11_told 73 = .ok (.getfield 12, 3) := by decide +kernel
theorem dX11_told_76 : decode cX11_told 76 = .ok (.invokevirtual 211, 3) := by decide +kernel
theorem dX11_told_79 : decode cX11_told 79 = .ok (.ireturn, 1) := by decide +kernel
theorem dX11_told_80 : decode cX11_told 80 = .ok (.aload_n 0, 1) := by decide +kernel
theorem dX11_told_81 : decode cX11_told 81 = .ok (.getfield 12, 3) := by decide +kernel
theorem dX11_told_84 : decode cX11_told 84 = .ok (.invokevirtual 214, 3) := by decide +kernel
theorem dX11_told_87 : decode cX11_told 87 = .ok (.ireturn, 1) := by decide +kernel
theorem dX11_told_88 : decode cX11_told 88 = .ok (.aload_n 0, 1) := by decide +kernel
theorem dX11_told_89 : decode cX11_told 89 = .ok (.getfield 12, 3) := by decide +kernel
theorem dX11_told_92 : decode cX11_told 92 = .ok (.getfield 131, 3) := by decide +kernel
theorem dX11_told_95 : decode cX11_told 95 = .ok (.getfield 140, 3) := by decide +kernel
theorem dX11_told_98 : decode cX11_told 98 = .ok (.ireturn, 1) := by decide +kernel
theorem dX11_told_99 : decode cX11_told 99 = .ok (.aload_n 0, 1) := by decide +kernel
theorem dX11_told_100 : decode cX11_told 100 = .ok (.getfield 12, 3) := by decide +kernel
theorem dX11_told_103 : decode cX11_told 103 = .ok (.getfield 182, 3) := by decide +kernel
theorem dX11_told_106 : decode cX11_told 106 = .ok (.invokevirtual 217, 3) := by decide +kernel
theorem dX11_told_109 : decode cX11_told 109 = .ok (.ireturn, 1) := by decide +kernel
theorem dX11_told_110 : decode cX11_told 110 = .ok (.aload_n 0, 1) := by decide +kernel
theorem dX11_told_111 : decode cX11_told 111 = .ok (.getfield 12, 3) := by decide +kernel
theorem dX11_told_114 : decode cX11_told 114 = .ok (.getfield 82, 3) := by decide +kernel
theorem dX11_told_117 : decode cX11_told 117 = .ok (.invokevirtual 220, 3) := by decide +kernel
theorem dX11_told_120 : decode cX11_told 120 = .ok (.ireturn, 1) := by decide +kernel
theorem dX11_told_121 : decode cX11_told 121 = .ok (.ldc 167, 2) := by decide +kernel
theorem dX11_told_123 : decode cX11_told 123 = .ok (.ireturn, 1) := by decide +kernel
set_option maxRecDepth 20000 in
theorem ggX11_water_X11_isWithin : GoodIn wsX11_water wsX11_isWithin := goodIn_r _ [7] (by decide +kernel) (by decide +kernel)
set_option maxRecDepth 20000 in
theorem gX11_water_X11_isWithin : GoodIn wsX11_water (va_wsS RX11 78 yX11_isWithin wsX11_isWithin) := goodIn_app (goodIn_of _ (by decide +kernel)) ggX11_water_X11_isWithin
set_option maxRecDepth 20000 in
theorem ggX11_water_X2_waterOfSlope : GoodIn wsX11_water wsX2_waterOfSlope := goodIn_r _ [12, 13, 14, 15, 16, 11, 17, 18, 19, 20, 21, 22, 23, 24, 25, 26, 27, 28, 29, 30, 31, 32, 51, 52, 53, 54, 55, 56] (by decide +kernel) (by decide +kernel)
set_option maxRecDepth 20000 in
theorem gX11_water_X2_waterOfSlope : GoodIn wsX11_water (wsV RX11 223 RX2 yX2_waterOfSlope wsX2_waterOfSlope) := goodIn_app (goodIn_of _ (by decide +kernel)) ggX11_water_X2_waterOfSlope
set_option maxRecDepth 20000 in
theorem ggX11_water_X2_hasSection : GoodIn wsX11_water wsX2_hasSection := goodIn_r _ [36, 13, 5, 6, 7, 51, 52, 53, 54, 55, 56] (by decide +kernel) (by decide +kernel)
set_option maxRecDepth 20000 in
theorem gX11_water_X2_hasSection : GoodIn wsX11_water (wsV RX11 92 RX2 yX2_hasSection wsX2_hasSection) := goodIn_app (goodIn_of _ (by decide +kernel)) ggX11_water_X2_hasSection
set_option maxRecDepth 20000 in
theorem ggX11_water_X2_waterAt : GoodIn wsX11_water wsX2_waterAt := goodIn_r _ [21, 22, 23, 24, 25, 26, 27, 28, 29, 30, 11, 31, 32, 51, 52, 53, 54, 55, 56] (by decide +kernel) (by decide +kernel)
set_option maxRecDepth 20000 in
theorem gX11_water_X2_waterAt : GoodIn wsX11_water (wsV RX11 226 RX2 yX2_waterAt wsX2_waterAt) := goodIn_app (goodIn_of _ (by decide +kernel)) ggX11_water_X2_waterAt
theorem dX11_water_0 : decode cX11_water 0 = .ok (.iload_n 2, 1) := by decide +kernel
theorem dX11_water_1 : decode cX11_water 1 = .ok (.sipush (-9999), 3) := by decide +kernel
theorem dX11_water_4 : decode cX11_water 4 = .ok (.sipush 9999, 3) := by decide +kernel
theorem dX11_water_7 : decode cX11_water 7 = .ok (.invokestatic 78, 3) := by decide +kernel
theorem dX11_water_10 : decode cX11_water 10 = .ok (.ifCond .ne 6, 3) := by decide +kernel
theorem dX11_water_13 : decode cX11_water 13 = .ok (.ldc 167, 2) := by decide +kernel
theorem dX11_water_15 : decode cX11_water 15 = .ok (.ireturn, 1) := by decide +kernel
theorem dX11_water_16 : decode cX11_water 16 = .ok (.iload_n 1, 1) := by decide +kernel
theorem dX11_water_17 : decode cX11_water 17 = .ok (.iconst (-1), 1) := by decide +kernel
theorem dX11_water_18 : decode cX11_water 18 = .ok (.if_icmp .ne 16, 3) := by decide +kernel
theorem dX11_water_21 : decode cX11_water 21 = .ok (.aload_n 0, 1) := by decide +kernel
theorem dX11_water_22 : decode cX11_water 22 = .ok (.getfield 12, 3) := by decide +kernel
theorem dX11_water_25 : decode cX11_water 25 = .ok (.getfield 82, 3) := by decide +kernel
theorem dX11_water_28 : decode cX11_water 28 = .ok (.iload_n 2, 1) := by decide +kernel
theorem dX11_water_29 : decode cX11_water 29 = .ok (.iconst 0, 1) := by decide +kernel
theorem dX11_water_30 : decode cX11_water 30 = .ok (.invokevirtual 223, 3) := by decide +kernel
theorem dX11_water_33 : decode cX11_water 33 = .ok (.ireturn, 1) := by decide +kernel
theorem dX11_water_34 : decode cX11_water 34 = .ok (.aload_n 0, 1) := by decide +kernel
theorem dX11_water_35 : decode cX11_water 35 = .ok (.getfield 12, 3) := by decide +kernel
theorem dX11_water_38 : decode cX11_water 38 = .ok (.getfield 82, 3) := by decide +kernel
theorem dX11_water_41 : decode cX11_water 41 = .ok (.iload_n 1, 1) := by decide +kernel
theorem dX11_water_42 : decode cX11_water 42 = .ok (.invokevirtual 92, 3) := by decide +kernel
theorem dX11_water_45 : decode cX11_water 45 = .ok (.ifCond .eq 18, 3) := by decide +kernel
theorem dX11_water_48 : decode cX11_water 48 = .ok (.aload_n 0, 1) := by decide +kernel
theorem dX11_water_49 : decode cX11_water 49 = .ok (.getfield 12, 3) := by decide +kernel
theorem dX11_water_52 : decode cX11_water 52 = .ok (.getfield 82, 3) := by decide +kernel
theorem dX11_water_55 : decode cX11_water 55 = .ok (.iload_n 1, 1) := by decide +kernel
theorem dX11_water_56 : decode cX11_water 56 = .ok (.iload_n 2, 1) := by decide +kernel
theorem dX11_water_57 : decode cX11_water 57 = .ok (.invokevirtual 226, 3) := by decide +kernel
theorem dX11_water_60 : decode cX11_water 60 = .ok (.goto 5, 3) := by decide +kernel
theorem dX11_water_63 : decode cX11_water 63 = .ok (.ldc 167, 2) := by decide +kernel
theorem dX11_water_65 : decode cX11_water 65 = .ok (.ireturn, 1) := by decide +kernel
set_option maxRecDepth 20000 in
theorem ggX11_line_X0_allWeight : GoodIn wsX11_line wsX0_allWeight := goodIn_r _ [7, 8, 9, 10, 11, 12, 13, 14, 15, 16, 6, 17, 18, 19, 20, 21, 22, 23, 24, 67, 68, 69, 70, 71, 72, 73, 74, 75, 76, 77, 78, 79, 80, 81, 82, 83, 84, 85, 86] (by decide +kernel) (by decide +kernel)
set_option maxRecDepth 20000 in
theorem gX11_line_X0_allWeight : GoodIn wsX11_line (wsV RX11 201 RX0 yX0_allWeight wsX0_allWeight) := goodIn_app (goodIn_of _ (by decide +kernel)) ggX11_line_X0_allWeight
set_option maxRecDepth 20000 in
theorem ggX11_line_X2_startOf : GoodIn wsX11_line wsX2_startOf := goodIn_r _ [29, 30, 31, 32, 33, 34, 35, 36, 37, 28, 38, 39, 40, 41, 42, 43, 44, 45, 46, 47, 48, 49, 50, 51, 52, 53, 54, 55, 56, 70, 71, 72, 73, 74, 75] (by decide +kernel) (by decide +kernel)
set_option maxRecDepth 20000 in
theorem gX11_line_X2_startOf : GoodIn wsX11_line (wsV RX11 229 RX2 yX2_startOf wsX2_startOf) := goodIn_app (goodIn_of _ (by decide +kernel)) ggX11_line_X2_startOf
theorem dX11_line_0 : decode cX11_line 0 = .ok (.aload_n 0, 1) := by decide +kernel
theorem dX11_line_1 : decode cX11_line 1 = .ok (.getfield 12, 3) := by decide +kernel
theorem dX11_line_4 : decode cX11_line 4 = .ok (.getfield 82, 3) := by decide +kernel
theorem dX11_line_7 : decode cX11_line 7 = .ok (.iconst 0, 1) := by decide +kernel
theorem dX11_line_8 : decode cX11_line 8 = .ok (.aload_n 0, 1) := by decide +kernel
theorem dX11_line_9 : decode cX11_line 9 = .ok (.getfield 12, 3) := by decide +kernel
theorem dX11_line_12 : decode cX11_line 12 = .ok (.invokevirtual 201, 3) := by decide +kernel
theorem dX11_line_15 : decode cX11_line 15 = .ok (.invokevirtual 229, 3) := by decide +kernel
theorem dX11_line_18 : decode cX11_line 18 = .ok (.ireturn, 1) := by decide +kernel
set_option maxRecDepth 20000 in
theorem ggX11_trim_X11_isWithin : GoodIn wsX11_trim wsX11_isWithin := goodIn_r _ [10] (by decide +kernel) (by decide +kernel)
set_option maxRecDepth 20000 in
theorem gX11_trim_X11_isWithin : GoodIn wsX11_trim (va_wsS RX11 78 yX11_isWithin wsX11_isWithin) := goodIn_app (goodIn_of _ (by decide +kernel)) ggX11_trim_X11_isWithin
set_option maxRecDepth 20000 in
theorem ggX11_trim_X10_find : GoodIn wsX11_trim wsX10_find := goodIn_r _ [15, 16, 17, 18, 19, 20, 21, 22, 23, 24, 25, 26, 27, 28, 29, 30, 31, 32, 33, 34, 35, 36, 37, 38, 39, 40, 41, 42, 43, 44, 45, 46, 47, 48, 49, 50, 51, 52, 53, 54, 55, 56, 57, 58, 59, 60, 61, 62, 63, 64, 65, 66, 67, 68, 69, 70, 71, 72, 73, 74, 75, 76, 77, 78, 79, 80, 81, 82, 83, 84, 85, 86, 87, 88, 89, 90, 91, 92, 93, 104, 105, 106, 107, 108, 109, 110, 111, 112, 113, 114, 115, 116, 117, 118, 119, 120, 121, 122, 123, 124, 125, 126] (by decide +kernel) (by decide +kernel)
set_option maxRecDepth 20000 in
theorem gX11_trim_X10_find : GoodIn wsX11_trim (wsV RX11 232 RX10 yX10_find wsX10_find) := goodIn_app (goodIn_of _ (by decide +kernel)) ggX11_trim_X10_find
theorem dX11_trim_0 : decode cX11_trim 0 = .ok (.iload_n 1, 1) := by decide +kernel
theorem dX11_trim_1 : decode cX11_trim 1 = .ok (.iconst 0, 1) := by decide +kernel
theorem dX11_trim_2 : decode cX11_trim 2 = .ok (.iconst 2, 1) := by decide +kernel
theorem dX11_trim_3 : decode cX11_trim 3 = .ok (.invokestatic 78, 3) := by decide +kernel
theorem dX11_trim_6 : decode cX11_trim 6 = .ok (.ifCond .eq 17, 3) := by decide +kernel
theorem dX11_trim_9 : decode cX11_trim 9 = .ok (.aload_n 0, 1) := by decide +kernel
theorem dX11_trim_10 : decode cX11_trim 10 = .ok (.getfield 49, 3) := by decide +kernel
theorem dX11_trim_13 : decode cX11_trim 13 = .ok (.aload_n 0, 1) := by decide +kernel
theorem dX11_trim_14 : decode cX11_trim 14 = .ok (.getfield 12, 3) := by decide +kernel
theorem dX11_trim_17 : decode cX11_trim 17 = .ok (.invokevirtual 232, 3) := by decide +kernel
theorem dX11_trim_20 : decode cX11_trim 20 = .ok (.ifCond .ne 6, 3) := by decide +kernel
theorem dX11_trim_23 : decode cX11_trim 23 = .ok (.ldc 167, 2) := by decide +kernel
theorem dX11_trim_25 : decode cX11_trim 25 = .ok (.ireturn, 1) := by decide +kernel
theorem dX11_trim_26 : decode cX11_trim 26 = .ok (.iload_n 1, 1) := by decide +kernel
theorem dX11_trim_27 : decode cX11_trim 27 = .ok (.ifCond .ne 11, 3) := by decide +kernel
theorem dX11_trim_30 : decode cX11_trim 30 = .ok (.aload_n 0, 1) := by decide +kernel
theorem dX11_trim_31 : decode cX11_trim 31 = .ok (.getfield 49, 3) := by decide +kernel
theorem dX11_trim_34 : decode cX11_trim 34 = .ok (.getfield 236, 3) := by decide +kernel
theorem dX11_trim_37 : decode cX11_trim 37 = .ok (.ireturn, 1) := by decide +kernel
theorem dX11_trim_38 : decode cX11_trim 38 = .ok (.iload_n 1, 1) := by decide +kernel
theorem dX11_trim_39 : decode cX11_trim 39 = .ok (.iconst 1, 1) := by decide +kernel
theorem dX11_trim_40 : decode cX11_trim 40 = .ok (.if_icmp .ne 13, 3) := by decide +kernel
theorem dX11_trim_43 : decode cX11_trim 43 = .ok (.aload_n 0, 1) := by decide +kernel
theorem dX11_trim_44 : decode cX11_trim 44 = .ok (.getfield 49, 3) := by decide +kernel
theorem dX11_trim_47 : decode cX11_trim 47 = .ok (.getfield 239, 3) := by decide +kernel
theorem dX11_trim_50 : decode cX11_trim 50 = .ok (.goto 10, 3) := by decide +kernel
theorem dX11_trim_53 : decode cX11_trim 53 = .ok (.aload_n 0, 1) := by decide +kernel
theorem dX11_trim_54 : decode cX11_trim 54 = .ok (.getfield 49, 3) := by decide +kernel
theorem dX11_trim_57 : decode cX11_trim 57 = .ok (.getfield 242, 3) := by decide +kernel
theorem dX11_trim_60 : decode cX11_trim 60 = .ok (.ireturn, 1) := by decide +kernel
set_option maxRecDepth 20000 in
theorem ggX11_off_X11_isWithin : GoodIn wsX11_off wsX11_isWithin := goodIn_r _ [6] (by decide +kernel) (by decide +kernel)
set_option maxRecDepth 20000 in
theorem gX11_off_X11_isWithin : GoodIn wsX11_off (va_wsS RX11 78 yX11_isWithin wsX11_isWithin) := goodIn_app (goodIn_of _ (by decide +kernel)) ggX11_off_X11_isWithin
set_option maxRecDepth 20000 in
theorem ggX11_off_X0_offOf : GoodIn wsX11_off wsX0_offOf := goodIn_r _ [11, 12, 13, 14, 15, 16, 10, 17, 18, 19, 20, 21, 22, 23, 24, 25, 26, 27, 28, 29, 30, 31, 32, 33, 34, 35, 36, 37, 38, 39, 40, 41, 42, 43, 44, 45, 46, 47, 48, 49, 50, 51, 52, 53, 54, 55, 56, 57, 58, 59, 60, 61, 62, 63, 64, 65, 66, 67, 68, 69, 70, 71, 72, 73, 74, 75, 76, 87, 88, 89, 90, 91, 92, 93, 94, 95, 96, 97, 98, 99, 100, 101, 102, 103, 104, 105, 106] (by decide +kernel) (by decide +kernel)
set_option maxRecDepth 20000 in
theorem gX11_off_X0_offOf : GoodIn wsX11_off (wsV RX11 245 RX0 yX0_offOf wsX0_offOf) := goodIn_app (goodIn_of _ (by decide +kernel)) ggX11_off_X0_offOf
theorem dX11_off_0 : decode cX11_off 0 = .ok (.iload_n 1, 1) := by decide +kernel
theorem dX11_off_1 : decode cX11_off 1 = .ok (.bipush (-20), 2) := by decide +kernel
theorem dX11_off_3 : decode cX11_off 3 = .ok (.bipush 20, 2) := by decide +kernel
theorem dX11_off_5 : decode cX11_off 5 = .ok (.invokestatic 78, 3) := by decide +kernel
theorem dX11_off_8 : decode cX11_off 8 = .ok (.ifCond .eq 14, 3) := by decide +kernel
theorem dX11_off_11 : decode cX11_off 11 = .ok (.aload_n 0, 1) := by decide +kernel
theorem dX11_off_12 : decode cX11_off 12 = .ok (.getfield 12, 3) := by decide +kernel
theorem dX11_off_15 : decode cX11_off 15 = .ok (.iload_n 1, 1) := by decide +kernel
theorem dX11_off_16 : decode cX11_off 16 = .ok (.invokevirtual 245, 3) := by decide +kernel
theorem dX11_off_19 : decode cX11_off 19 = .ok (.goto 5, 3) := by decide +kernel
theorem dX11_off_22 : decode cX11_off 22 = .ok (.ldc 167, 2) := by decide +kernel
theorem dX11_off_24 : decode cX11_off 24 = .ok (.ireturn, 1) := by decide +kernel
set_option maxRecDepth 20000 in
theorem ggX11_heel_X11_isWithin : GoodIn wsX11_heel wsX11_isWithin := goodIn_r _ [6] (by decide +kernel) (by decide +kernel)
set_option maxRecDepth 20000 in
theorem gX11_heel_X11_isWithin : GoodIn wsX11_heel (va_wsS RX11 78 yX11_isWithin wsX11_isWithin) := goodIn_app (goodIn_of _ (by decide +kernel)) ggX11_heel_X11_isWithin
set_option maxRecDepth 20000 in
theorem ggX11_heel_X0_heelBehind : GoodIn wsX11_heel wsX0_heelBehind := goodIn_r _ [11, 12, 13, 14, 15, 10, 16, 17, 18, 19, 20, 21, 22, 23, 24, 25, 26, 27, 28, 29, 30, 31, 32, 33, 34, 35, 36, 37, 38, 39, 40, 41, 42, 43, 44, 45, 46, 47, 48, 49, 50, 51, 52, 53, 54, 55, 56, 57, 58, 59, 60, 61, 62, 63, 64, 65, 66, 67, 68, 69, 70, 71, 72, 73, 5, 74, 75, 76, 77, 78, 79, 80, 81, 82, 83, 84, 85, 86, 87, 88, 89, 90, 91, 92, 93, 94, 95, 96, 97, 98, 99, 100, 101, 102, 2, 103, 104, 105, 106, 107, 108, 119, 120, 121, 122, 123, 124, 125, 126, 127, 128, 129, 130, 131, 132, 133, 134, 135, 136, 137, 138] (by decide +kernel) (by decide +kernel)
set_option maxRecDepth 20000 in
theorem gX11_heel_X0_heelBehind : GoodIn wsX11_heel (wsV RX11 168 RX0 yX0_heelBehind wsX0_heelBehind) := goodIn_app (goodIn_of _ (by decide +kernel)) ggX11_heel_X0_heelBehind
theorem dX11_heel_0 : decode cX11_heel 0 = .ok (.iload_n 1, 1) := by decide +kernel
theorem dX11_heel_1 : decode cX11_heel 1 = .ok (.iconst 0, 1) := by decide +kernel
theorem dX11_heel_2 : decode cX11_heel 2 = .ok (.bipush 20, 2) := by decide +kernel
theorem dX11_heel_4 : decode cX11_heel 4 = .ok (.invokestatic 78, 3) := by decide +kernel
theorem dX11_heel_7 : decode cX11_heel 7 = .ok (.ifCond .eq 14, 3) := by decide +kernel
theorem dX11_heel_10 : decode cX11_heel 10 = .ok (.aload_n 0, 1) := by decide +kernel
theorem dX11_heel_11 : decode cX11_heel 11 = .ok (.getfield 12, 3) := by decide +kernel
theorem dX11_heel_14 : decode cX11_heel 14 = .ok (.iload_n 1, 1) := by decide +kernel
theorem dX11_heel_15 : decode cX11_heel 15 = .ok (.invokevirtual 168, 3) := by decide +kernel
theorem dX11_heel_18 : decode cX11_heel 18 = .ok (.goto 5, 3) := by decide +kernel
theorem dX11_heel_21 : decode cX11_heel 21 = .ok (.ldc 167, 2) := by decide +kernel
theorem dX11_heel_23 : decode cX11_heel 23 = .ok (.ireturn, 1) := by decide +kernel
set_option maxRecDepth 20000 in
theorem ggX11_steady_X0_roundsTillSteady : GoodIn wsX11_steady wsX0_roundsTillSteady := goodIn_r _ [6, 7, 8, 9, 5, 10, 11, 12, 13, 14, 15, 16, 17, 18, 19, 20, 21, 22, 23, 24, 25, 26, 27, 28, 29, 30, 31, 32, 33, 34, 35, 36, 37, 38, 39, 40, 41, 42, 43, 44, 45, 46, 47, 48, 49, 50, 51, 52, 53, 54, 55, 56, 57, 58, 59, 60, 61, 62, 63, 64, 65, 66, 67, 68, 69, 70, 71, 72, 73, 74, 75, 76, 77, 78, 79, 80, 81, 82, 83, 84, 85, 86, 87, 88, 89, 90, 91, 92, 93, 94, 95, 96, 97, 98, 99, 100, 101, 102, 103, 104, 105, 116, 117, 118, 119, 120, 121, 122, 123, 124, 125, 126, 127, 128, 129, 130, 131, 132, 133, 134, 135] (by decide +kernel) (by decide +kernel)
set_option maxRecDepth 20000 in
theorem gX11_steady_X0_roundsTillSteady : GoodIn wsX11_steady (wsV RX11 248 RX0 yX0_roundsTillSteady wsX0_roundsTillSteady) := goodIn_app (goodIn_of _ (by decide +kernel)) ggX11_steady_X0_roundsTillSteady
theorem dX11_steady_0 : decode cX11_steady 0 = .ok (.aload_n 0, 1) := by decide +kernel
theorem dX11_steady_1 : decode cX11_steady 1 = .ok (.getfield 12, 3) := by decide +kernel
theorem dX11_steady_4 : decode cX11_steady 4 = .ok (.invokevirtual 248, 3) := by decide +kernel
theorem dX11_steady_7 : decode cX11_steady 7 = .ok (.ireturn, 1) := by decide +kernel
set_option maxRecDepth 20000 in
theorem ggX11_grounded_X11_isWithin : GoodIn wsX11_grounded wsX11_isWithin := goodIn_r _ [6] (by decide +kernel) (by decide +kernel)
set_option maxRecDepth 20000 in
theorem gX11_grounded_X11_isWithin : GoodIn wsX11_grounded (va_wsS RX11 78 yX11_isWithin wsX11_isWithin) := goodIn_app (goodIn_of _ (by decide +kernel)) ggX11_grounded_X11_isWithin
set_option maxRecDepth 20000 in
theorem ggX11_grounded_X0_allWeight : GoodIn wsX11_grounded wsX0_allWeight := goodIn_r _ [11, 12, 13, 14, 15, 16, 17, 18, 19, 20, 10, 21, 22, 23, 24, 25, 26, 27, 28, 75, 76, 77, 78, 79, 80, 81, 82, 83, 84, 85, 86, 87, 88, 89, 90, 91, 92, 93, 94] (by decide +kernel) (by decide +kernel)
set_option maxRecDepth 20000 in
theorem gX11_grounded_X0_allWeight : GoodIn wsX11_grounded (wsV RX11 201 RX0 yX0_allWeight wsX0_allWeight) := goodIn_app (goodIn_of _ (by decide +kernel)) ggX11_grounded_X0_allWeight
set_option maxRecDepth 20000 in
theorem ggX11_grounded_X2_startOf : GoodIn wsX11_grounded wsX2_startOf := goodIn_r _ [33, 34, 35, 36, 37, 38, 39, 40, 41, 32, 42, 43, 44, 45, 46, 47, 48, 49, 50, 51, 52, 53, 54, 55, 56, 57, 58, 59, 60, 78, 79, 80, 81, 82, 83] (by decide +kernel) (by decide +kernel)
set_option maxRecDepth 20000 in
theorem gX11_grounded_X2_startOf : GoodIn wsX11_grounded (wsV RX11 229 RX2 yX2_startOf wsX2_startOf) := goodIn_app (goodIn_of _ (by decide +kernel)) ggX11_grounded_X2_startOf
set_option maxRecDepth 20000 in
theorem ggX11_grounded_X2_leastRise : GoodIn wsX11_grounded wsX2_leastRise := goodIn_r _ [64, 59, 34, 56, 57, 37, 58, 78, 79, 80, 81, 82, 83] (by decide +kernel) (by decide +kernel)
set_option maxRecDepth 20000 in
theorem gX11_grounded_X2_leastRise : GoodIn wsX11_grounded (wsV RX11 220 RX2 yX2_leastRise wsX2_leastRise) := goodIn_app (goodIn_of _ (by decide +kernel)) ggX11_grounded_X2_leastRise
theorem dX11_grounded_0 : decode cX11_grounded 0 = .ok (.iload_n 1, 1) := by decide +kernel
theorem dX11_grounded_1 : decode cX11_grounded 1 = .ok (.iconst 0, 1) := by decide +kernel
theorem dX11_grounded_2 : decode cX11_grounded 2 = .ok (.sipush 9999, 3) := by decide +kernel
theorem dX11_grounded_5 : decode cX11_grounded 5 = .ok (.invokestatic 78, 3) := by decide +kernel
theorem dX11_grounded_8 : decode cX11_grounded 8 = .ok (.ifCond .ne 5, 3) := by decide +kernel
theorem dX11_grounded_11 : decode cX11_grounded 11 = .ok (.iconst (-1), 1) := by decide +kernel
theorem dX11_grounded_12 : decode cX11_grounded 12 = .ok (.ireturn, 1) := by decide +kernel
theorem dX11_grounded_13 : decode cX11_grounded 13 = .ok (.aload_n 0, 1) := by decide +kernel
theorem dX11_grounded_14 : decode cX11_grounded 14 = .ok (.getfield 12, 3) := by decide +kernel
theorem dX11_grounded_17 : decode cX11_grounded 17 = .ok (.getfield 82, 3) := by decide +kernel
theorem dX11_grounded_20 : decode cX11_grounded 20 = .ok (.iconst 0, 1) := by decide +kernel
theorem dX11_grounded_21 : decode cX11_grounded 21 = .ok (.aload_n 0, 1) := by decide +kernel
theorem dX11_grounded_22 : decode cX11_grounded 22 = .ok (.getfield 12, 3) := by decide +kernel
theorem dX11_grounded_25 : decode cX11_grounded 25 = .ok (.invokevirtual 201, 3) := by decide +kernel
theorem dX11_grounded_28 : decode cX11_grounded 28 = .ok (.invokevirtual 229, 3) := by decide +kernel
theorem dX11_grounded_31 : decode cX11_grounded 31 = .ok (.istore_n 2, 1) := by decide +kernel
theorem dX11_grounded_32 : decode cX11_grounded 32 = .ok (.iload_n 2, 1) := by decide +kernel
theorem dX11_grounded_33 : decode cX11_grounded 33 = .ok (.bipush (-2), 2) := by decide +kernel
theorem dX11_grounded_35 : decode cX11_grounded 35 = .ok (.if_icmp .ne 6, 3) := by decide +kernel
theorem dX11_grounded_38 : decode cX11_grounded 38 = .ok (.bipush (-5), 2) := by decide +kernel
theorem dX11_grounded_40 : decode cX11_grounded 40 = .ok (.ireturn, 1) := by decide +kernel
theorem dX11_grounded_41 : decode cX11_grounded 41 = .ok (.iload_n 2, 1) := by decide +kernel
theorem dX11_grounded_42 : decode cX11_grounded 42 = .ok (.bipush 64, 2) := by decide +kernel
theorem dX11_grounded_44 : decode cX11_grounded 44 = .ok (.aload_n 0, 1) := by decide +kernel
theorem dX11_grounded_45 : decode cX11_grounded 45 = .ok (.getfield 12, 3) := by decide +kernel
theorem dX11_grounded_48 : decode cX11_grounded 48 = .ok (.getfield 82, 3) := by decide +kernel
theorem dX11_grounded_51 : decode cX11_grounded 51 = .ok (.invokevirtual 220, 3) := by decide +kernel
theorem dX11_grounded_54 : decode cX11_grounded 54 = .ok (.imul, 1) := by decide +kernel
theorem dX11_grounded_55 : decode cX11_grounded 55 = .ok (.isub, 1) := by decide +kernel
theorem dX11_grounded_56 : decode cX11_grounded 56 = .ok (.iload_n 1, 1) := by decide +kernel
theorem dX11_grounded_57 : decode cX11_grounded 57 = .ok (.if_icmp .le 7, 3) := by decide +kernel
theorem dX11_grounded_60 : decode cX11_grounded 60 = .ok (.iconst 1, 1) := by decide +kernel
theorem dX11_grounded_61 : decode cX11_grounded 61 = .ok (.goto 4, 3) := by decide +kernel
theorem dX11_grounded_64 : decode cX11_grounded 64 = .ok (.iconst 0, 1) := by decide +kernel
theorem dX11_grounded_65 : decode cX11_grounded 65 = .ok (.ireturn, 1) := by decide +kernel
set_option maxRecDepth 20000 in
theorem ggX11_lighten_X11_isWithin : GoodIn wsX11_lighten wsX11_isWithin := goodIn_r _ [10] (by decide +kernel) (by decide +kernel)
set_option maxRecDepth 20000 in
theorem gX11_lighten_X11_isWithin : GoodIn wsX11_lighten (va_wsS RX11 78 yX11_isWithin wsX11_isWithin) := goodIn_app (goodIn_of _ (by decide +kernel)) ggX11_lighten_X11_isWithin
set_option maxRecDepth 20000 in
theorem ggX11_lighten_X2_leastRise : GoodIn wsX11_lighten wsX2_leastRise := goodIn_r _ [15, 16, 17, 18, 19, 5, 20, 78, 79, 80, 81, 82, 83] (by decide +kernel) (by decide +kernel)
set_option maxRecDepth 20000 in
theorem gX11_lighten_X2_leastRise : GoodIn wsX11_lighten (wsV RX11 220 RX2 yX2_leastRise wsX2_leastRise) := goodIn_app (goodIn_of _ (by decide +kernel)) ggX11_lighten_X2_leastRise
set_option maxRecDepth 20000 in
theorem ggX11_lighten_X2_carriedAt : GoodIn wsX11_lighten wsX2_carriedAt := goodIn_r _ [24, 25, 26, 27, 14, 28, 17, 29, 30, 31, 32, 33, 34, 35, 36, 18, 19, 5, 20, 16, 37, 38, 39, 40, 41, 42, 78, 79, 80, 81, 82, 83] (by decide +kernel) (by decide +kernel)
set_option maxRecDepth 20000 in
theorem gX11_lighten_X2_carriedAt : GoodIn wsX11_lighten (wsV RX11 251 RX2 yX2_carriedAt wsX2_carriedAt) := goodIn_app (goodIn_of _ (by decide +kernel)) ggX11_lighten_X2_carriedAt
set_option maxRecDepth 20000 in
theorem ggX11_lighten_X0_allWeight : GoodIn wsX11_lighten wsX0_allWeight := goodIn_r _ [47, 48, 49, 50, 51, 52, 53, 54, 55, 56, 46, 57, 58, 59, 60, 61, 62, 63, 64, 75, 76, 77, 78, 79, 80, 81, 82, 83, 84, 85, 86, 87, 88, 89, 90, 91, 92, 93, 94] (by decide +kernel) (by decide +kernel)
set_option maxRecDepth 20000 in
theorem gX11_lighten_X0_allWeight : GoodIn wsX11_lighten (wsV RX11 201 RX0 yX0_allWeight wsX0_allWeight) := goodIn_app (goodIn_of _ (by decide +kernel)) ggX11_lighten_X0_allWeight
theorem dX11_lighten_0 : decode cX11_lighten 0 = .ok (.iload_n 1, 1) := by decide +kernel
theorem dX11_lighten_1 : decode cX11_lighten 1 = .ok (.iconst 0, 1) := by decide +kernel
theorem dX11_lighten_2 : decode cX11_lighten 2 = .ok (.sipush 9999, 3) := by decide +kernel
theorem dX11_lighten_5 : decode cX11_lighten 5 = .ok (.invokestatic 78, 3) := by decide +kernel
theorem dX11_lighten_8 : decode cX11_lighten 8 = .ok (.ifCond .ne 5, 3) := by decide +kernel
theorem dX11_lighten_11 : decode cX11_lighten 11 = .ok (.iconst (-1), 1) := by decide +kernel
theorem dX11_lighten_12 : decode cX11_lighten 12 = .ok (.ireturn, 1) := by decide +kernel
theorem dX11_lighten_13 : decode cX11_lighten 13 = .ok (.aload_n 0, 1) := by decide +kernel
theorem dX11_lighten_14 : decode cX11_lighten 14 = .ok (.getfield 12, 3) := by decide +kernel
theorem dX11_lighten_17 : decode cX11_lighten 17 = .ok (.getfield 82, 3) := by decide +kernel
theorem dX11_lighten_20 : decode cX11_lighten 20 = .ok (.iload_n 1, 1) := by decide +kernel
theorem dX11_lighten_21 : decode cX11_lighten 21 = .ok (.bipush 64, 2) := by decide +kernel
theorem dX11_lighten_23 : decode cX11_lighten 23 = .ok (.aload_n 0, 1) := by decide +kernel
theorem dX11_lighten_24 : decode cX11_lighten 24 = .ok (.getfield 12, 3) := by decide +kernel
theorem dX11_lighten_27 : decode cX11_lighten 27 = .ok (.getfield 82, 3) := by decide +kernel
theorem dX11_lighten_30 : decode cX11_lighten 30 = .ok (.invokevirtual 220, 3) := by decide +kernel
theorem dX11_lighten_33 : decode cX11_lighten 33 = .ok (.imul, 1) := by decide +kernel
theorem dX11_lighten_34 : decode cX11_lighten 34 = .ok (.iadd, 1) := by decide +kernel
theorem dX11_lighten_35 : decode cX11_lighten 35 = .ok (.invokevirtual 251, 3) := by decide +kernel
theorem dX11_lighten_38 : decode cX11_lighten 38 = .ok (.istore_n 2, 1) := by decide +kernel
theorem dX11_lighten_39 : decode cX11_lighten 39 = .ok (.iconst 0, 1) := by decide +kernel
theorem dX11_lighten_40 : decode cX11_lighten 40 = .ok (.aload_n 0, 1) := by decide +kernel
theorem dX11_lighten_41 : decode cX11_lighten 41 = .ok (.getfield 12, 3) := by decide +kernel
theorem dX11_lighten_44 : decode cX11_lighten 44 = .ok (.invokevirtual 201, 3) := by decide +kernel
theorem dX11_lighten_47 : decode cX11_lighten 47 = .ok (.iload_n 2, 1) := by decide +kernel
theorem dX11_lighten_48 : decode cX11_lighten 48 = .ok (.isub, 1) := by decide +kernel
theorem dX11_lighten_49 : decode cX11_lighten 49 = .ok (.invokestatic 254, 3) := by decide +kernel
theorem dX11_lighten_52 : decode cX11_lighten 52 = .ok (.ireturn, 1) := by decide +kernel
set_option maxRecDepth 20000 in
theorem ggX11_more_X2_top : GoodIn wsX11_more wsX2_top := goodIn_r _ [8, 9, 73, 74, 75, 76, 77, 78] (by decide +kernel) (by decide +kernel)
set_option maxRecDepth 20000 in
theorem gX11_more_X2_top : GoodIn wsX11_more (wsV RX11 259 RX2 yX2_top wsX2_top) := goodIn_app (goodIn_of _ (by decide +kernel)) ggX11_more_X2_top
set_option maxRecDepth 20000 in
theorem ggX11_more_X11_isWithin : GoodIn wsX11_more wsX11_isWithin := goodIn_r _ [13] (by decide +kernel) (by decide +kernel)
set_option maxRecDepth 20000 in
theorem gX11_more_X11_isWithin : GoodIn wsX11_more (va_wsS RX11 78 yX11_isWithin wsX11_isWithin) := goodIn_app (goodIn_of _ (by decide +kernel)) ggX11_more_X11_isWithin
set_option maxRecDepth 20000 in
theorem ggX11_more_X2_carriedAt : GoodIn wsX11_more wsX2_carriedAt := goodIn_r _ [17, 18, 19, 20, 7, 21, 22, 23, 24, 25, 26, 27, 28, 29, 30, 31, 32, 33, 34, 35, 36, 37, 5, 6, 8, 9, 73, 74, 75, 76, 77, 78] (by decide +kernel) (by decide +kernel)
set_option maxRecDepth 20000 in
theorem gX11_more_X2_carriedAt : GoodIn wsX11_more (wsV RX11 251 RX2 yX2_carriedAt wsX2_carriedAt) := goodIn_app (goodIn_of _ (by decide +kernel)) ggX11_more_X2_carriedAt
set_option maxRecDepth 20000 in
theorem ggX11_more_X0_allWeight : GoodIn wsX11_more wsX0_allWeight := goodIn_r _ [42, 43, 44, 45, 46, 47, 48, 49, 50, 51, 41, 52, 53, 54, 55, 56, 57, 58, 59, 70, 71, 72, 73, 74, 75, 76, 77, 78, 79, 80, 81, 82, 83, 84, 85, 86, 87, 88, 89] (by decide +kernel) (by decide +kernel)
set_option maxRecDepth 20000 in
theorem gX11_more_X0_allWeight : GoodIn wsX11_more (wsV RX11 201 RX0 yX0_allWeight wsX0_allWeight) := goodIn_app (goodIn_of _ (by decide +kernel)) ggX11_more_X0_allWeight
theorem dX11_more_0 : decode cX11_more 0 = .ok (.iload_n 1, 1) := by decide +kernel
theorem dX11_more_1 : decode cX11_more 1 = .ok (.iconst 0, 1) := by decide +kernel
theorem dX11_more_2 : decode cX11_more 2 = .ok (.aload_n 0, 1) := by decide +kernel
theorem dX11_more_3 : decode cX11_more 3 = .ok (.getfield 12, 3) := by decide +kernel
theorem dX11_more_6 : decode cX11_more 6 = .ok (.getfield 82, 3) := by decide +kernel
theorem dX11_more_9 : decode cX11_more 9 = .ok (.invokevirtual 259, 3) := by decide +kernel
theorem dX11_more_12 : decode cX11_more 12 = .ok (.invokestatic 78, 3) := by decide +kernel
theorem dX11_more_15 : decode cX11_more 15 = .ok (.ifCond .ne 6, 3) := by decide +kernel
theorem dX11_more_18 : decode cX11_more 18 = .ok (.ldc 167, 2) := by decide +kernel
theorem dX11_more_20 : decode cX11_more 20 = .ok (.ireturn, 1) := by decide +kernel
theorem dX11_more_21 : decode cX11_more 21 = .ok (.aload_n 0, 1) := by decide +kernel
theorem dX11_more_22 : decode cX11_more 22 = .ok (.getfield 12, 3) := by decide +kernel
theorem dX11_more_25 : decode cX11_more 25 = .ok (.getfield 82, 3) := by decide +kernel
theorem dX11_more_28 : decode cX11_more 28 = .ok (.iload_n 1, 1) := by decide +kernel
theorem dX11_more_29 : decode cX11_more 29 = .ok (.invokevirtual 251, 3) := by decide +kernel
theorem dX11_more_32 : decode cX11_more 32 = .ok (.aload_n 0, 1) := by decide +kernel
theorem dX11_more_33 : decode cX11_more 33 = .ok (.getfield 12, 3) := by decide +kernel
theorem dX11_more_36 : decode cX11_more 36 = .ok (.invokevirtual 201, 3) := by decide +kernel
theorem dX11_more_39 : decode cX11_more 39 = .ok (.isub, 1) := by decide +kernel
theorem dX11_more_40 : decode cX11_more 40 = .ok (.ireturn, 1) := by decide +kernel
set_option maxRecDepth 20000 in
theorem ggX11_order_X11_isWithin : GoodIn wsX11_order wsX11_isWithin := goodIn_r _ [10] (by decide +kernel) (by decide +kernel)
set_option maxRecDepth 20000 in
theorem gX11_order_X11_isWithin : GoodIn wsX11_order (va_wsS RX11 78 yX11_isWithin wsX11_isWithin) := goodIn_app (goodIn_of _ (by decide +kernel)) ggX11_order_X11_isWithin
set_option maxRecDepth 20000 in
theorem ggX11_order_X4_arrange : GoodIn wsX11_order wsX4_arrange := goodIn_r _ [15, 16, 17, 18, 19, 20, 21, 14, 22, 23, 24, 25, 26, 27, 28, 29, 30, 31, 32, 33, 34, 35, 36, 37, 38, 39, 40, 41, 42, 43, 44, 45, 46, 47, 48, 49, 50, 51, 62, 63, 64, 65, 66, 67, 68, 69, 70, 71, 72, 73, 74, 75, 76, 77, 78, 79] (by decide +kernel) (by decide +kernel)
set_option maxRecDepth 20000 in
theorem gX11_order_X4_arrange : GoodIn wsX11_order (wsV RX11 262 RX4 yX4_arrange wsX4_arrange) := goodIn_app (goodIn_of _ (by decide +kernel)) ggX11_order_X4_arrange
theorem dX11_order_0 : decode cX11_order 0 = .ok (.iload_n 1, 1) := by decide +kernel
theorem dX11_order_1 : decode cX11_order 1 = .ok (.iconst 0, 1) := by decide +kernel
theorem dX11_order_2 : decode cX11_order 2 = .ok (.iconst 3, 1) := by decide +kernel
theorem dX11_order_3 : decode cX11_order 3 = .ok (.invokestatic 78, 3) := by decide +kernel
theorem dX11_order_6 : decode cX11_order 6 = .ok (.ifCond .eq 7, 3) := by decide +kernel
theorem dX11_order_9 : decode cX11_order 9 = .ok (.iload_n 2, 1) := by decide +kernel
theorem dX11_order_10 : decode cX11_order 10 = .ok (.ifCond .ge 5, 3) := by decide +kernel
theorem dX11_order_13 : decode cX11_order 13 = .ok (.iconst (-1), 1) := by decide +kernel
theorem dX11_order_14 : decode cX11_order 14 = .ok (.ireturn, 1) := by decide +kernel
theorem dX11_order_15 : decode cX11_order 15 = .ok (.iload_n 2, 1) := by decide +kernel
theorem dX11_order_16 : decode cX11_order 16 = .ok (.aload_n 0, 1) := by decide +kernel
theorem dX11_order_17 : decode cX11_order 17 = .ok (.getfield 12, 3) := by decide +kernel
theorem dX11_order_20 : decode cX11_order 20 = .ok (.getfield 131, 3) := by decide +kernel
theorem dX11_order_23 : decode cX11_order 23 = .ok (.getfield 140, 3) := by decide +kernel
theorem dX11_order_26 : decode cX11_order 26 = .ok (.if_icmp .lt 6, 3) := by decide +kernel
theorem dX11_order_29 : decode cX11_order 29 = .ok (.bipush (-2), 2) := by decide +kernel
theorem dX11_order_31 : decode cX11_order 31 = .ok (.ireturn, 1) := by decide +kernel
theorem dX11_order_32 : decode cX11_order 32 = .ok (.aload_n 0, 1) := by decide +kernel
theorem dX11_order_33 : decode cX11_order 33 = .ok (.getfield 42, 3) := by decide +kernel
theorem dX11_order_36 : decode cX11_order 36 = .ok (.aload_n 0, 1) := by decide +kernel
theorem dX11_order_37 : decode cX11_order 37 = .ok (.getfield 12, 3) := by decide +kernel
theorem dX11_order_40 : decode cX11_order 40 = .ok (.iload_n 1, 1) := by decide +kernel
theorem dX11_order_41 : decode cX11_order 41 = .ok (.invokevirtual 262, 3) := by decide +kernel
theorem dX11_order_44 : decode cX11_order 44 = .ok (.aload_n 0, 1) := by decide +kernel
theorem dX11_order_45 : decode cX11_order 45 = .ok (.getfield 12, 3) := by decide +kernel
theorem dX11_order_48 : decode cX11_order 48 = .ok (.getfield 131, 3) := by decide +kernel
theorem dX11_order_51 : decode cX11_order 51 = .ok (.getfield 266, 3) := by decide +kernel
theorem dX11_order_54 : decode cX11_order 54 = .ok (.aload_n 0, 1) := by decide +kernel
theorem dX11_order_55 : decode cX11_order 55 = .ok (.getfield 42, 3) := by decide +kernel
theorem dX11_order_58 : decode cX11_order 58 = .ok (.getfield 269, 3) := by decide +kernel
theorem dX11_order_61 : decode cX11_order 61 = .ok (.iload_n 2, 1) := by decide +kernel
theorem dX11_order_62 : decode cX11_order 62 = .ok (.iaload, 1) := by decide +kernel
theorem dX11_order_63 : decode cX11_order 63 = .ok (.iaload, 1) := by decide +kernel
theorem dX11_order_64 : decode cX11_order 64 = .ok (.ireturn, 1) := by decide +kernel
set_option maxRecDepth 20000 in
theorem ggX11_next_X11_isName : GoodIn wsX11_next wsX11_isName := goodIn_r _ [8, 9, 10, 11, 7, 12] (by decide +kernel) (by decide +kernel)
set_option maxRecDepth 20000 in
theorem gX11_next_X11_isName : GoodIn wsX11_next (va_wsS RX11 122 yX11_isName wsX11_isName) := goodIn_app (goodIn_of _ (by decide +kernel)) ggX11_next_X11_isName
set_option maxRecDepth 20000 in
theorem ggX11_next_X1_placeBehind : GoodIn wsX11_next wsX1_placeBehind := goodIn_r _ [17, 18, 19, 33, 34, 35, 36, 37, 38, 39] (by decide +kernel) (by decide +kernel)
set_option maxRecDepth 20000 in
theorem gX11_next_X1_placeBehind : GoodIn wsX11_next (wsV RX11 272 RX1 yX1_placeBehind wsX1_placeBehind) := goodIn_app (goodIn_of _ (by decide +kernel)) ggX11_next_X1_placeBehind
theorem dX11_next_0 : decode cX11_next 0 = .ok (.iload_n 1, 1) := by decide +kernel
theorem dX11_next_1 : decode cX11_next 1 = .ok (.ifCond .eq 12, 3) := by decide +kernel
theorem dX11_next_4 : decode cX11_next 4 = .ok (.iload_n 1, 1) := by decide +kernel
theorem dX11_next_5 : decode cX11_next 5 = .ok (.invokestatic 122, 3) := by decide +kernel
theorem dX11_next_8 : decode cX11_next 8 = .ok (.ifCond .ne 5, 3) := by decide +kernel
theorem dX11_next_11 : decode cX11_next 11 = .ok (.iconst (-1), 1) := by decide +kernel
theorem dX11_next_12 : decode cX11_next 12 = .ok (.ireturn, 1) := by decide +kernel
theorem dX11_next_13 : decode cX11_next 13 = .ok (.aload_n 0, 1) := by decide +kernel
theorem dX11_next_14 : decode cX11_next 14 = .ok (.getfield 12, 3) := by decide +kernel
theorem dX11_next_17 : decode cX11_next 17 = .ok (.getfield 131, 3) := by decide +kernel
theorem dX11_next_20 : decode cX11_next 20 = .ok (.iload_n 1, 1) := by decide +kernel
theorem dX11_next_21 : decode cX11_next 21 = .ok (.invokevirtual 272, 3) := by decide +kernel
theorem dX11_next_24 : decode cX11_next 24 = .ok (.istore_n 2, 1) := by decide +kernel
theorem dX11_next_25 : decode cX11_next 25 = .ok (.iload_n 2, 1) := by decide +kernel
theorem dX11_next_26 : decode cX11_next 26 = .ok (.aload_n 0, 1) := by decide +kernel
theorem dX11_next_27 : decode cX11_next 27 = .ok (.getfield 12, 3) := by decide +kernel
theorem dX11_next_30 : decode cX11_next 30 = .ok (.getfield 131, 3) := by decide +kernel
theorem dX11_next_33 : decode cX11_next 33 = .ok (.getfield 140, 3) := by decide +kernel
theorem dX11_next_36 : decode cX11_next 36 = .ok (.if_icmp .ge 18, 3) := by decide +kernel
theorem dX11_next_39 : decode cX11_next 39 = .ok (.aload_n 0, 1) := by decide +kernel
theorem dX11_next_40 : decode cX11_next 40 = .ok (.getfield 12, 3) := by decide +kernel
theorem dX11_next_43 : decode cX11_next 43 = .ok (.getfield 131, 3) := by decide +kernel
theorem dX11_next_46 : decode cX11_next 46 = .ok (.getfield 266, 3) := by decide +kernel
theorem dX11_next_49 : decode cX11_next 49 = .ok (.iload_n 2, 1) := by decide +kernel
theorem dX11_next_50 : decode cX11_next 50 = .ok (.iaload, 1) := by decide +kernel
theorem dX11_next_51 : decode cX11_next 51 = .ok (.goto 5, 3) := by decide +kernel
theorem dX11_next_54 : decode cX11_next 54 = .ok (.bipush (-2), 2) := by decide +kernel
theorem dX11_next_56 : decode cX11_next 56 = .ok (.ireturn, 1) := by decide +kernel
set_option maxRecDepth 20000 in
theorem ggX11_turn_X0_bestToTurn : GoodIn wsX11_turn wsX0_bestToTurn := goodIn_r _ [8, 9, 10, 11, 12, 13, 14, 15, 16, 17, 18, 7, 19, 20, 21, 22, 23, 24, 25, 26, 27, 28, 29, 30, 31, 32, 33, 34, 35, 36, 37, 38, 39, 40, 41, 42, 43, 44, 45, 46, 47, 58, 59, 60, 61, 62, 63, 64, 65, 66, 67, 68, 69, 70, 71, 72, 73] (by decide +kernel) (by decide +kernel)
set_option maxRecDepth 20000 in
theorem gX11_turn_X0_bestToTurn : GoodIn wsX11_turn (wsV RX11 275 RX0 yX0_bestToTurn wsX0_bestToTurn) := goodIn_app (goodIn_of _ (by decide +kernel)) ggX11_turn_X0_bestToTurn
theorem dX11_turn_0 : decode cX11_turn 0 = .ok (.aload_n 0, 1) := by decide +kernel
theorem dX11_turn_1 : decode cX11_turn 1 = .ok (.getfield 12, 3) := by decide +kernel
theorem dX11_turn_4 : decode cX11_turn 4 = .ok (.invokevirtual 275, 3) := by decide +kernel
theorem dX11_turn_7 : decode cX11_turn 7 = .ok (.istore_n 1, 1) := by decide +kernel
theorem dX11_turn_8 : decode cX11_turn 8 = .ok (.iload_n 1, 1) := by decide +kernel
theorem dX11_turn_9 : decode cX11_turn 9 = .ok (.ifCond .ge 8, 3) := by decide +kernel
theorem dX11_turn_12 : decode cX11_turn 12 = .ok (.bipush (-2), 2) := by decide +kernel
theorem dX11_turn_14 : decode cX11_turn 14 = .ok (.goto 15, 3) := by decide +kernel
theorem dX11_turn_17 : decode cX11_turn 17 = .ok (.aload_n 0, 1) := by decide +kernel
theorem dX11_turn_18 : decode cX11_turn 18 = .ok (.getfield 12, 3) := by decide +kernel
theorem dX11_turn_21 : decode cX11_turn 21 = .ok (.getfield 131, 3) := by decide +kernel
theorem dX11_turn_24 : decode cX11_turn 24 = .ok (.getfield 266, 3) := by decide +kernel
theorem dX11_turn_27 : decode cX11_turn 27 = .ok (.iload_n 1, 1) := by decide +kernel
theorem dX11_turn_28 : decode cX11_turn 28 = .ok (.iaload, 1) := by decide +kernel
theorem dX11_turn_29 : decode cX11_turn 29 = .ok (.ireturn, 1) := by decide +kernel
set_option maxRecDepth 20000 in
theorem ggX11_change_X11_isWithin : GoodIn wsX11_change wsX11_isWithin := goodIn_r _ [10] (by decide +kernel) (by decide +kernel)
set_option maxRecDepth 20000 in
theorem gX11_change_X11_isWithin : GoodIn wsX11_change (va_wsS RX11 78 yX11_isWithin wsX11_isWithin) := goodIn_app (goodIn_of _ (by decide +kernel)) ggX11_change_X11_isWithin
set_option maxRecDepth 20000 in
theorem ggX11_change_X7_find : GoodIn wsX11_change wsX7_find := goodIn_r _ [15, 16, 17, 18, 19, 20, 21, 22, 23, 24, 25, 26, 27, 28, 29, 30, 31, 32, 33, 34, 35, 36, 37, 38, 39, 40, 41, 42, 43, 44, 45, 46, 47, 48, 49, 50, 51, 52, 53, 54, 55, 56, 57, 58, 59, 60, 61, 62, 63, 64, 65, 66, 67, 68, 69, 70, 71, 72, 73, 74, 75, 76, 77, 78, 79, 80, 81, 82, 83, 84, 85, 86, 87, 88, 89, 90, 91, 92, 93, 94, 14, 95, 96, 97, 108, 109, 110, 111, 112, 113, 114, 115, 116, 117, 118, 119, 120, 121, 122, 123, 124, 125, 126, 127, 128, 129] (by decide +kernel) (by decide +kernel)
set_option maxRecDepth 20000 in
theorem gX11_change_X7_find : GoodIn wsX11_change (wsV RX11 278 RX7 yX7_find wsX7_find) := goodIn_app (goodIn_of _ (by decide +kernel)) ggX11_change_X7_find
theorem dX11_change_0 : decode cX11_change 0 = .ok (.iload_n 1, 1) := by decide +kernel
theorem dX11_change_1 : decode cX11_change 1 = .ok (.iconst 0, 1) := by decide +kernel
theorem dX11_change_2 : decode cX11_change 2 = .ok (.iconst 1, 1) := by decide +kernel
theorem dX11_change_3 : decode cX11_change 3 = .ok (.invokestatic 78, 3) := by decide +kernel
theorem dX11_change_6 : decode cX11_change 6 = .ok (.ifCond .ne 5, 3) := by decide +kernel
theorem dX11_change_9 : decode cX11_change 9 = .ok (.iconst (-1), 1) := by decide +kernel
theorem dX11_change_10 : decode cX11_change 10 = .ok (.ireturn, 1) := by decide +kernel
theorem dX11_change_11 : decode cX11_change 11 = .ok (.aload_n 0, 1) := by decide +kernel
theorem dX11_change_12 : decode cX11_change 12 = .ok (.getfield 56, 3) := by decide +kernel
theorem dX11_change_15 : decode cX11_change 15 = .ok (.aload_n 0, 1) := by decide +kernel
theorem dX11_change_16 : decode cX11_change 16 = .ok (.getfield 12, 3) := by decide +kernel
theorem dX11_change_19 : decode cX11_change 19 = .ok (.invokevirtual 278, 3) := by decide +kernel
theorem dX11_change_22 : decode cX11_change 22 = .ok (.ifCond .ne 6, 3) := by decide +kernel
theorem dX11_change_25 : decode cX11_change 25 = .ok (.bipush (-2), 2) := by decide +kernel
theorem dX11_change_27 : decode cX11_change 27 = .ok (.ireturn, 1) := by decide +kernel
theorem dX11_change_28 : decode cX11_change 28 = .ok (.aload_n 0, 1) := by decide +kernel
theorem dX11_change_29 : decode cX11_change 29 = .ok (.getfield 12, 3) := by decide +kernel
theorem dX11_change_32 : decode cX11_change 32 = .ok (.getfield 131, 3) := by decide +kernel
theorem dX11_change_35 : decode cX11_change 35 = .ok (.getfield 266, 3) := by decide +kernel
theorem dX11_change_38 : decode cX11_change 38 = .ok (.iload_n 1, 1) := by decide +kernel
theorem dX11_change_39 : decode cX11_change 39 = .ok (.ifCond .ne 13, 3) := by decide +kernel
theorem dX11_change_42 : decode cX11_change 42 = .ok (.aload_n 0, 1) := by decide +kernel
theorem dX11_change_43 : decode cX11_change 43 = .ok (.getfield 56, 3) := by decide +kernel
theorem dX11_change_46 : decode cX11_change 46 = .ok (.getfield 279, 3) := by decide +kernel
theorem dX11_change_49 : decode cX11_change 49 = .ok (.goto 10, 3) := by decide +kernel
theorem dX11_change_52 : decode cX11_change 52 = .ok (.aload_n 0, 1) := by decide +kernel
theorem dX11_change_53 : decode cX11_change 53 = .ok (.getfield 56, 3) := by decide +kernel
theorem dX11_change_56 : decode cX11_change 56 = .ok (.getfield 282, 3) := by decide +kernel
theorem dX11_change_59 : decode cX11_change 59 = .ok (.iaload, 1) := by decide +kernel
theorem dX11_change_60 : decode cX11_change 60 = .ok (.ireturn, 1) := by decide +kernel
set_option maxRecDepth 20000 in
theorem ggX11_fits_X11_isRow : GoodIn wsX11_fits wsX11_isRow := goodIn_r _ [15, 16, 17, 14, 18] (by decide +kernel) (by decide +kernel)
set_option maxRecDepth 20000 in
theorem gX11_fits_X11_isRow : GoodIn wsX11_fits (va_wsS RX11 285 yX11_isRow wsX11_isRow) := goodIn_app (goodIn_of _ (by decide +kernel)) ggX11_fits_X11_isRow
set_option maxRecDepth 20000 in
theorem ggX11_fits_X11_isWithin : GoodIn wsX11_fits wsX11_isWithin := goodIn_r _ [18] (by decide +kernel) (by decide +kernel)
set_option maxRecDepth 20000 in
theorem gX11_fits_X11_isWithin : GoodIn wsX11_fits (va_wsS RX11 78 yX11_isWithin wsX11_isWithin) := goodIn_app (goodIn_of _ (by decide +kernel)) ggX11_fits_X11_isWithin
set_option maxRecDepth 20000 in
theorem ggX11_fits_X11_isName : GoodIn wsX11_fits wsX11_isName := goodIn_r _ [21, 22, 16, 17, 14, 18] (by decide +kernel) (by decide +kernel)
set_option maxRecDepth 20000 in
theorem gX11_fits_X11_isName : GoodIn wsX11_fits (va_wsS RX11 122 yX11_isName wsX11_isName) := goodIn_app (goodIn_of _ (by decide +kernel)) ggX11_fits_X11_isName
set_option maxRecDepth 20000 in
theorem ggX11_fits_X1_placeOf : GoodIn wsX11_fits wsX1_placeOf := goodIn_r _ [27, 28, 29, 154, 155, 156, 157, 158, 159, 160] (by decide +kernel) (by decide +kernel)
set_option maxRecDepth 20000 in
theorem gX11_fits_X1_placeOf : GoodIn wsX11_fits (wsV RX11 135 RX1 yX1_placeOf wsX1_placeOf) := goodIn_app (goodIn_of _ (by decide +kernel)) ggX11_fits_X1_placeOf
set_option maxRecDepth 20000 in
theorem ggX11_fits_X6_isMissing : GoodIn wsX11_fits wsX6_isMissing := goodIn_r _ [34, 35, 152, 153] (by decide +kernel) (by decide +kernel)
set_option maxRecDepth 20000 in
theorem gX11_fits_X6_isMissing : GoodIn wsX11_fits (wsV RX11 288 RX6 yX6_isMissing wsX6_isMissing) := goodIn_app (goodIn_of _ (by decide +kernel)) ggX11_fits_X6_isMissing
set_option maxRecDepth 20000 in
theorem ggX11_fits_X3_want : GoodIn wsX11_fits wsX3_want := goodIn_r _ [40, 41, 42, 43, 44, 45, 46, 47, 48, 49, 50, 17, 14, 18, 51, 52, 53, 54, 55, 56, 57, 58, 59, 60, 61, 62, 63, 64, 65, 66, 67, 68, 69, 70, 71, 72, 73, 74, 161, 162, 163, 164, 165, 166, 167, 168, 169, 170, 171] (by decide +kernel) (by decide +kernel)
set_option maxRecDepth 20000 in
theorem gX11_fits_X3_want : GoodIn wsX11_fits (wsV RX11 296 RX3 yX3_want wsX3_want) := goodIn_app (goodIn_of _ (by decide +kernel)) ggX11_fits_X3_want
set_option maxRecDepth 20000 in
theorem ggX11_fits_X3_tryWeights : GoodIn wsX11_fits wsX3_tryWeights := goodIn_r _ [78, 79, 80, 81, 82, 83, 84, 85, 39, 86, 41, 42, 43, 87, 88, 89, 90, 91, 92, 93, 94, 95, 96, 97, 98, 99, 100, 101, 102, 103, 104, 105, 106, 107, 108, 109, 110, 17, 14, 18, 111, 112, 113, 114, 115, 116, 117, 118, 119, 120, 121, 122, 123, 124, 125, 126, 127, 128, 129, 70, 130, 131, 132, 133, 134, 135, 136, 137, 138, 149, 150, 151, 154, 155, 156, 157, 158, 159, 160, 161, 162, 163, 164, 165, 172, 173, 166, 167, 168, 169, 170, 171, 174, 175, 176, 177] (by decide +kernel) (by decide +kernel)
set_option maxRecDepth 20000 in
theorem gX11_fits_X3_tryWeights : GoodIn wsX11_fits (wsV RX11 300 RX3 yX3_tryWeights wsX3_tryWeights) := goodIn_app (goodIn_of _ (by decide +kernel)) ggX11_fits_X3_tryWeights
theorem dX11_fits_0 : decode cX11_fits 0 = .ok (.iload_n 1, 1) := by decide +kernel
theorem dX11_fits_1 : decode cX11_fits 1 = .ok (.invokestatic 285, 3) := by decide +kernel
theorem dX11_fits_4 : decode cX11_fits 4 = .ok (.ifCond .eq 30, 3) := by decide +kernel
theorem dX11_fits_7 : decode cX11_fits 7 = .ok (.iload_n 2, 1) := by decide +kernel
theorem dX11_fits_8 : decode cX11_fits 8 = .ok (.iconst 0, 1) := by decide +kernel
theorem dX11_fits_9 : decode cX11_fits 9 = .ok (.bipush 17, 2) := by decide +kernel
theorem dX11_fits_11 : decode cX11_fits 11 = .ok (.invokestatic 78, 3) := by decide +kernel
theorem dX11_fits_14 : decode cX11_fits 14 = .ok (.ifCond .eq 20, 3) := by decide +kernel
theorem dX11_fits_17 : decode cX11_fits 17 = .ok (.iload_n 3, 1) := by decide +kernel
theorem dX11_fits_18 : decode cX11_fits 18 = .ok (.invokestatic 122, 3) := by decide +kernel
theorem dX11_fits_21 : decode cX11_fits 21 = .ok (.ifCond .eq 13, 3) := by decide +kernel
theorem dX11_fits_24 : decode cX11_fits 24 = .ok (.iload 4, 2) := by decide +kernel
theorem dX11_fits_26 : decode cX11_fits 26 = .ok (.iconst 0, 1) := by decide +kernel
theorem dX11_fits_27 : decode cX11_fits 27 = .ok (.iconst 1, 1) := by decide +kernel
theorem dX11_fits_28 : decode cX11_fits 28 = .ok (.invokestatic 78, 3) := by decide +kernel
theorem dX11_fits_31 : decode cX11_fits 31 = .ok (.ifCond .ne 5, 3) := by decide +kernel
theorem dX11_fits_34 : decode cX11_fits 34 = .ok (.iconst (-1), 1) := by decide +kernel
theorem dX11_fits_35 : decode cX11_fits 35 = .ok (.ireturn, 1) := by decide +kernel
theorem dX11_fits_36 : decode cX11_fits 36 = .ok (.aload_n 0, 1) := by decide +kernel
theorem dX11_fits_37 : decode cX11_fits 37 = .ok (.getfield 12, 3) := by decide +kernel
theorem dX11_fits_40 : decode cX11_fits 40 = .ok (.getfield 131, 3) := by decide +kernel
theorem dX11_fits_43 : decode cX11_fits 43 = .ok (.iload_n 3, 1) := by decide +kernel
theorem dX11_fits_44 : decode cX11_fits 44 = .ok (.invokevirtual 135, 3) := by decide +kernel
theorem dX11_fits_47 : decode cX11_fits 47 = .ok (.istore 5, 2) := by decide +kernel
theorem dX11_fits_49 : decode cX11_fits 49 = .ok (.iload 5, 2) := by decide +kernel
theorem dX11_fits_51 : decode cX11_fits 51 = .ok (.ifCond .ge 6, 3) := by decide +kernel
theorem dX11_fits_54 : decode cX11_fits 54 = .ok (.bipush (-2), 2) := by decide +kernel
theorem dX11_fits_56 : decode cX11_fits 56 = .ok (.ireturn, 1) := by decide +kernel
theorem dX11_fits_57 : decode cX11_fits 57 = .ok (.aload_n 0, 1) := by decide +kernel
theorem dX11_fits_58 : decode cX11_fits 58 = .ok (.getfield 28, 3) := by decide +kernel
theorem dX11_fits_61 : decode cX11_fits 61 = .ok (.iload_n 1, 1) := by decide +kernel
theorem dX11_fits_62 : decode cX11_fits 62 = .ok (.invokevirtual 288, 3) := by decide +kernel
theorem dX11_fits_65 : decode cX11_fits 65 = .ok (.ifCond .eq 6, 3) := by decide +kernel
theorem dX11_fits_68 : decode cX11_fits 68 = .ok (.bipush (-11), 2) := by decide +kernel
theorem dX11_fits_70 : decode cX11_fits 70 = .ok (.ireturn, 1) := by decide +kernel
theorem dX11_fits_71 : decode cX11_fits 71 = .ok (.iload_n 2, 1) := by decide +kernel
theorem dX11_fits_72 : decode cX11_fits 72 = .ok (.aload_n 0, 1) := by decide +kernel
theorem dX11_fits_73 : decode cX11_fits 73 = .ok (.getfield 28, 3) := by decide +kernel
theorem dX11_fits_76 : decode cX11_fits 76 = .ok (.getfield 291, 3) := by decide +kernel
theorem dX11_fits_79 : decode cX11_fits 79 = .ok (.iload_n 1, 1) := by decide +kernel
theorem dX11_fits_80 : decode cX11_fits 80 = .ok (.iaload, 1) := by decide +kernel
theorem dX11_fits_81 : decode cX11_fits 81 = .ok (.if_icmp .le 6, 3) := by decide +kernel
theorem dX11_fits_84 : decode cX11_fits 84 = .ok (.bipush (-13), 2) := by decide +kernel
theorem dX11_fits_86 : decode cX11_fits 86 = .ok (.ireturn, 1) := by decide +kernel
theorem dX11_fits_87 : decode cX11_fits 87 = .ok (.iload_n 2, 1) := by decide +kernel
theorem dX11_fits_88 : decode cX11_fits 88 = .ok (.aload_n 0, 1) := by decide +kernel
theorem dX11_fits_89 : decode cX11_fits 89 = .ok (.getfield 12, 3) := by decide +kernel
theorem dX11_fits_92 : decode cX11_fits 92 = .ok (.getfield 131, 3) := by decide +kernel
theorem dX11_fits_95 : decode cX11_fits 95 = .ok (.getfield 140, 3) := by decide +kernel
theorem dX11_fits_98 : decode cX11_fits 98 = .ok (.iconst 1, 1) := by decide +kernel
theorem dX11_fits_99 : decode cX11_fits 99 = .ok (.iadd, 1) := by decide +kernel
theorem dX11_fits_100 : decode cX11_fits 100 = .ok (.if_icmp .le 6, 3) := by decide +kernel
theorem dX11_fits_103 : decode cX11_fits 103 = .ok (.bipush (-5), 2) := by decide +kernel
theorem dX11_fits_105 : decode cX11_fits 105 = .ok (.ireturn, 1) := by decide +kernel
theorem dX11_fits_106 : decode cX11_fits 106 = .ok (.aload_n 0, 1) := by decide +kernel
theorem dX11_fits_107 : decode cX11_fits 107 = .ok (.getfield 63, 3) := by decide +kernel
theorem dX11_fits_110 : decode cX11_fits 110 = .ok (.aload_n 0, 1) := by decide +kernel
theorem dX11_fits_111 : decode cX11_fits 111 = .ok (.getfield 12, 3) := by decide +kernel
theorem dX11_fits_114 : decode cX11_fits 114 = .ok (.getfield 82, 3) := by decide +kernel
theorem dX11_fits_117 : decode cX11_fits 117 = .ok (.aload_n 0, 1) := by decide +kernel
theorem dX11_fits_118 : decode cX11_fits 118 = .ok (.getfield 28, 3) := by decide +kernel
theorem dX11_fits_121 : decode cX11_fits 121 = .ok (.getfield 293, 3) := by decide +kernel
theorem dX11_fits_124 : decode cX11_fits 124 = .ok (.iload_n 1, 1) := by decide +kernel
theorem dX11_fits_125 : decode cX11_fits 125 = .ok (.aaload, 1) := by decide +kernel
theorem dX11_fits_126 : decode cX11_fits 126 = .ok (.iload_n 2, 1) := by decide +kernel
theorem dX11_fits_127 : decode cX11_fits 127 = .ok (.invokevirtual 296, 3) := by decide +kernel
theorem dX11_fits_130 : decode cX11_fits 130 = .ok (.aload_n 0, 1) := by decide +kernel
theorem dX11_fits_131 : decode cX11_fits 131 = .ok (.getfield 63, 3) := by decide +kernel
theorem dX11_fits_134 : decode cX11_fits 134 = .ok (.aload_n 0, 1) := by decide +kernel
theorem dX11_fits_135 : decode cX11_fits 135 = .ok (.getfield 12, 3) := by decide +kernel
theorem dX11_fits_138 : decode cX11_fits 138 = .ok (.aload_n 0, 1) := by decide +kernel
theorem dX11_fits_139 : decode cX11_fits 139 = .ok (.getfield 42, 3) := by decide +kernel
theorem dX11_fits_142 : decode cX11_fits 142 = .ok (.iload 5, 2) := by decide +kernel
theorem dX11_fits_144 : decode cX11_fits 144 = .ok (.invokevirtual 300, 3) := by decide +kernel
theorem dX11_fits_147 : decode cX11_fits 147 = .ok (.iload 4, 2) := by decide +kernel
theorem dX11_fits_149 : decode cX11_fits 149 = .ok (.ifCond .ne 13, 3) := by decide +kernel
theorem dX11_fits_152 : decode cX11_fits 152 = .ok (.aload_n 0, 1) := by decide +kernel
theorem dX11_fits_153 : decode cX11_fits 153 = .ok (.getfield 63, 3) := by decide +kernel
theorem dX11_fits_156 : decode cX11_fits 156 = .ok (.getfield 304, 3) := by decide +kernel
theorem dX11_fits_159 : decode cX11_fits 159 = .ok (.goto 10, 3) := by decide +kernel
theorem dX11_fits_162 : decode cX11_fits 162 = .ok (.aload_n 0, 1) := by decide +kernel
theorem dX11_fits_163 : decode cX11_fits 163 = .ok (.getfield 63, 3) := by decide +kernel
theorem dX11_fits_166 : decode cX11_fits 166 = .ok (.getfield 307, 3) := by decide +kernel
theorem dX11_fits_169 : decode cX11_fits 169 = .ok (.ireturn, 1) := by decide +kernel
set_option maxRecDepth 20000 in
theorem ggX11_say_X5_write : GoodIn wsX11_say wsX5_write := goodIn_r _ [10, 11, 12, 13, 14, 15, 16, 17, 18, 19, 20, 9, 21, 22, 23, 24, 25, 26, 27, 28, 29, 30, 31, 32, 33, 34, 35, 36, 37, 38, 52, 53, 54, 55, 56, 57, 58, 59, 60] (by decide +kernel) (by decide +kernel)
set_option maxRecDepth 20000 in
theorem gX11_say_X5_write : GoodIn wsX11_say (wsV RX11 310 RX5 yX5_write wsX5_write) := goodIn_app (goodIn_of _ (by decide +kernel)) ggX11_say_X5_write
theorem dX11_say_0 : decode cX11_say 0 = .ok (.iload_n 1, 1) := by decide +kernel
theorem dX11_say_1 : decode cX11_say 1 = .ok (.iconst (-1), 1) := by decide +kernel
theorem dX11_say_2 : decode cX11_say 2 = .ok (.if_icmp .ge 5, 3) := by decide +kernel
theorem dX11_say_5 : decode cX11_say 5 = .ok (.iconst (-1), 1) := by decide +kernel
theorem dX11_say_6 : decode cX11_say 6 = .ok (.ireturn, 1) := by decide +kernel
theorem dX11_say_7 : decode cX11_say 7 = .ok (.aload_n 0, 1) := by decide +kernel
theorem dX11_say_8 : decode cX11_say 8 = .ok (.getfield 70, 3) := by decide +kernel
theorem dX11_say_11 : decode cX11_say 11 = .ok (.aload_n 0, 1) := by decide +kernel
theorem dX11_say_12 : decode cX11_say 12 = .ok (.getfield 12, 3) := by decide +kernel
theorem dX11_say_15 : decode cX11_say 15 = .ok (.getfield 131, 3) := by decide +kernel
theorem dX11_say_18 : decode cX11_say 18 = .ok (.invokevirtual 310, 3) := by decide +kernel
theorem dX11_say_21 : decode cX11_say 21 = .ok (.iload_n 1, 1) := by decide +kernel
theorem dX11_say_22 : decode cX11_say 22 = .ok (.iconst (-1), 1) := by decide +kernel
theorem dX11_say_23 : decode cX11_say 23 = .ok (.if_icmp .ne 11, 3) := by decide +kernel
theorem dX11_say_26 : decode cX11_say 26 = .ok (.aload_n 0, 1) := by decide +kernel
theorem dX11_say_27 : decode cX11_say 27 = .ok (.getfield 70, 3) := by decide +kernel
theorem dX11_say_30 : decode cX11_say 30 = .ok (.getfield 314, 3) := by decide +kernel
theorem dX11_say_33 : decode cX11_say 33 = .ok (.ireturn, 1) := by decide +kernel
theorem dX11_say_34 : decode cX11_say 34 = .ok (.iload_n 1, 1) := by decide +kernel
theorem dX11_say_35 : decode cX11_say 35 = .ok (.aload_n 0, 1) := by decide +kernel
theorem dX11_say_36 : decode cX11_say 36 = .ok (.getfield 70, 3) := by decide +kernel
theorem dX11_say_39 : decode cX11_say 39 = .ok (.getfield 314, 3) := by decide +kernel
theorem dX11_say_42 : decode cX11_say 42 = .ok (.if_icmp .ge 15, 3) := by decide +kernel
theorem dX11_say_45 : decode cX11_say 45 = .ok (.aload_n 0, 1) := by decide +kernel
theorem dX11_say_46 : decode cX11_say 46 = .ok (.getfield 70, 3) := by decide +kernel
theorem dX11_say_49 : decode cX11_say 49 = .ok (.getfield 317, 3) := by decide +kernel
theorem dX11_say_52 : decode cX11_say 52 = .ok (.iload_n 1, 1) := by decide +kernel
theorem dX11_say_53 : decode cX11_say 53 = .ok (.caload, 1) := by decide +kernel
theorem dX11_say_54 : decode cX11_say 54 = .ok (.goto 5, 3) := by decide +kernel
theorem dX11_say_57 : decode cX11_say 57 = .ok (.bipush (-2), 2) := by decide +kernel
theorem dX11_say_59 : decode cX11_say 59 = .ok (.ireturn, 1) := by decide +kernel
set_option maxRecDepth 20000 in
theorem ggX11_feed_X11_isWithin : GoodIn wsX11_feed wsX11_isWithin := goodIn_r _ [7] (by decide +kernel) (by decide +kernel)
set_option maxRecDepth 20000 in
theorem gX11_feed_X11_isWithin : GoodIn wsX11_feed (va_wsS RX11 78 yX11_isWithin wsX11_isWithin) := goodIn_app (goodIn_of _ (by decide +kernel)) ggX11_feed_X11_isWithin
theorem dX11_feed_0 : decode cX11_feed 0 = .ok (.iload_n 1, 1) := by decide +kernel
theorem dX11_feed_1 : decode cX11_feed 1 = .ok (.bipush 32, 2) := by decide +kernel
theorem dX11_feed_3 : decode cX11_feed 3 = .ok (.bipush 126, 2) := by decide +kernel
theorem dX11_feed_5 : decode cX11_feed 5 = .ok (.invokestatic 78, 3) := by decide +kernel
theorem dX11_feed_8 : decode cX11_feed 8 = .ok (.ifCond .ne 5, 3) := by decide +kernel
theorem dX11_feed_11 : decode cX11_feed 11 = .ok (.iconst (-1), 1) := by decide +kernel
theorem dX11_feed_12 : decode cX11_feed 12 = .ok (.ireturn, 1) := by decide +kernel
theorem dX11_feed_13 : decode cX11_feed 13 = .ok (.aload_n 0, 1) := by decide +kernel
theorem dX11_feed_14 : decode cX11_feed 14 = .ok (.getfield 35, 3) := by decide +kernel
theorem dX11_feed_17 : decode cX11_feed 17 = .ok (.getfield 321, 3) := by decide +kernel
theorem dX11_feed_20 : decode cX11_feed 20 = .ok (.aload_n 0, 1) := by decide +kernel
theorem dX11_feed_21 : decode cX11_feed 21 = .ok (.getfield 35, 3) := by decide +kernel
theorem dX11_feed_24 : decode cX11_feed 24 = .ok (.getfield 322, 3) := by decide +kernel
theorem dX11_feed_27 : decode cX11_feed 27 = .ok (.arraylength, 1) := by decide +kernel
theorem dX11_feed_28 : decode cX11_feed 28 = .ok (.if_icmp .lt 6, 3) := by decide +kernel
theorem dX11_feed_31 : decode cX11_feed 31 = .ok (.bipush (-3), 2) := by decide +kernel
theorem dX11_feed_33 : decode cX11_feed 33 = .ok (.ireturn, 1) := by decide +kernel
theorem dX11_feed_34 : decode cX11_feed 34 = .ok (.aload_n 0, 1) := by decide +kernel
theorem dX11_feed_35 : decode cX11_feed 35 = .ok (.getfield 35, 3) := by decide +kernel
theorem dX11_feed_38 : decode cX11_feed 38 = .ok (.getfield 322, 3) := by decide +kernel
theorem dX11_feed_41 : decode cX11_feed 41 = .ok (.aload_n 0, 1) := by decide +kernel
theorem dX11_feed_42 : decode cX11_feed 42 = .ok (.getfield 35, 3) := by decide +kernel
theorem dX11_feed_45 : decode cX11_feed 45 = .ok (.getfield 321, 3) := by decide +kernel
theorem dX11_feed_48 : decode cX11_feed 48 = .ok (.iload_n 1, 1) := by decide +kernel
theorem dX11_feed_49 : decode cX11_feed 49 = .ok (.i2b, 1) := by decide +kernel
theorem dX11_feed_50 : decode cX11_feed 50 = .ok (.bastore, 1) := by decide +kernel
theorem dX11_feed_51 : decode cX11_feed 51 = .ok (.aload_n 0, 1) := by decide +kernel
theorem dX11_feed_52 : decode cX11_feed 52 = .ok (.getfield 35, 3) := by decide +kernel
theorem dX11_feed_55 : decode cX11_feed 55 = .ok (.dup, 1) := by decide +kernel
theorem dX11_feed_56 : decode cX11_feed 56 = .ok (.getfield 321, 3) := by decide +kernel
theorem dX11_feed_59 : decode cX11_feed 59 = .ok (.iconst 1, 1) := by decide +kernel
theorem dX11_feed_60 : decode cX11_feed 60 = .ok (.iadd, 1) := by decide +kernel
theorem dX11_feed_61 : decode cX11_feed 61 = .ok (.putfield 321, 3) := by decide +kernel
theorem dX11_feed_64 : decode cX11_feed 64 = .ok (.aload_n 0, 1) := by decide +kernel
theorem dX11_feed_65 : decode cX11_feed 65 = .ok (.getfield 35, 3) := by decide +kernel
theorem dX11_feed_68 : decode cX11_feed 68 = .ok (.getfield 321, 3) := by decide +kernel
theorem dX11_feed_71 : decode cX11_feed 71 = .ok (.ireturn, 1) := by decide +kernel
theorem dX11_wipe_0 : decode cX11_wipe 0 = .ok (.aload_n 0, 1) := by decide +kernel
theorem dX11_wipe_1 : decode cX11_wipe 1 = .ok (.getfield 35, 3) := by decide +kernel
theorem dX11_wipe_4 : decode cX11_wipe 4 = .ok (.getfield 321, 3) := by decide +kernel
theorem dX11_wipe_7 : decode cX11_wipe 7 = .ok (.istore_n 1, 1) := by decide +kernel
theorem dX11_wipe_8 : decode cX11_wipe 8 = .ok (.aload_n 0, 1) := by decide +kernel
theorem dX11_wipe_9 : decode cX11_wipe 9 = .ok (.getfield 35, 3) := by decide +kernel
theorem dX11_wipe_12 : decode cX11_wipe 12 = .ok (.iconst 0, 1) := by decide +kernel
theorem dX11_wipe_13 : decode cX11_wipe 13 = .ok (.putfield 321, 3) := by decide +kernel
theorem dX11_wipe_16 : decode cX11_wipe 16 = .ok (.iload_n 1, 1) := by decide +kernel
theorem dX11_wipe_17 : decode cX11_wipe 17 = .ok (.ireturn, 1) := by decide +kernel
set_option maxRecDepth 20000 in
theorem ggX11_read_X9_findFault : GoodIn wsX11_read wsX9_findFault := goodIn_r _ [7, 8, 9, 10, 11, 12, 6, 13, 14, 15, 16, 17, 18, 19, 20, 21, 22, 23, 24, 25, 26, 27, 28, 29, 30, 31, 32, 33, 34, 35, 36, 37, 38, 39, 40, 41, 42, 43, 44, 45, 46, 47, 48, 49, 50, 51, 52, 53, 54, 55, 56, 57, 58, 59, 60, 61, 62, 63, 64, 65, 66, 67, 68, 69, 70, 71, 72, 73, 74, 75, 76, 77, 78, 79, 80, 81, 82, 83, 84, 85, 86, 87, 88, 89, 90, 91, 92, 93, 94, 95, 96, 97, 98, 99, 100, 101, 102, 103, 104, 105, 106, 107, 108, 109, 110, 257, 258, 259, 260, 261] (by decide +kernel) (by decide +kernel)
set_option maxRecDepth 20000 in
theorem gX11_read_X9_findFault : GoodIn wsX11_read (wsV RX11 326 RX9 yX9_findFault wsX9_findFault) := goodIn_app (goodIn_of _ (by decide +kernel)) ggX11_read_X9_findFault
set_option maxRecDepth 20000 in
theorem ggX11_read_X11_doAllActs : GoodIn wsX11_read wsX11_doAllActs := goodIn_r _ [114, 1, 115, 2, 116, 11, 12, 6, 13, 14, 15, 8, 16, 17, 18, 19, 9, 20, 21, 22, 23, 24, 25, 26, 27, 28, 29, 30, 31, 32, 33, 34, 35, 36, 37, 38, 39, 40, 41, 42, 43, 44, 45, 46, 47, 48, 49, 50, 51, 52, 53, 54, 55, 56, 57, 58, 59, 60, 61, 62, 63, 64, 65, 66, 67, 68, 69, 70, 71, 72, 73, 74, 75, 76, 77, 78, 79, 80, 81, 82, 83, 84, 85, 86, 87, 88, 89, 90, 91, 92, 93, 94, 95, 96, 97, 98, 99, 100, 101, 102, 103, 104, 105, 106, 117, 118, 119, 120, 121, 122, 123, 124, 125, 126, 127, 128, 129, 130, 131, 132, 133, 134, 135, 136, 137, 138, 139, 140, 141, 142, 143, 144, 145, 146, 147, 148, 149, 150, 151, 152, 153, 154, 155, 156, 157, 158, 159, 160, 161, 162, 163, 164, 165, 166, 167, 168, 169, 170, 171, 172, 173, 174, 175, 176, 177, 178, 179, 180, 181, 182, 183, 184, 185, 186, 187, 188, 189, 190, 191, 192, 193, 194, 195, 196, 197, 198, 199, 200, 201, 202, 203, 204, 205, 206, 207, 208, 209, 210, 211, 212, 213, 214, 215, 216, 217, 218, 219, 220, 221, 222, 223, 224, 225, 226, 227, 228, 229, 230, 231, 232, 233, 234, 235, 236, 237, 238, 239, 240, 241, 242, 243, 244, 245, 246, 108, 109, 110, 247, 248, 249, 250, 251, 252, 253, 254, 255, 256, 257, 258, 259, 260, 261, 262, 263, 264, 265, 266, 267, 268, 269, 270, 271, 272, 273, 274, 275, 276, 277, 278, 279, 280, 281] (by decide +kernel) (by decide +kernel)
set_option maxRecDepth 20000 in
theorem gX11_read_X11_doAllActs : GoodIn wsX11_read (wsV RX11 329 RX11 yX11_doAllActs wsX11_doAllActs) := goodIn_app (goodIn_of _ (by decide +kernel)) ggX11_read_X11_doAllActs
theorem dX11_read_0 : decode cX11_read 0 = .ok (.aload_n 0, 1) := by decide +kernel
theorem dX11_read_1 : decode cX11_read 1 = .ok (.getfield 35, 3) := by decide +kernel
theorem dX11_read_4 : decode cX11_read 4 = .ok (.invokevirtual 326, 3) := by decide +kernel
theorem dX11_read_7 : decode cX11_read 7 = .ok (.istore_n 1, 1) := by decide +kernel
theorem dX11_read_8 : decode cX11_read 8 = .ok (.iload_n 1, 1) := by decide +kernel
theorem dX11_read_9 : decode cX11_read 9 = .ok (.ifCond .lt 10, 3) := by decide +kernel
theorem dX11_read_12 : decode cX11_read 12 = .ok (.bipush (-100), 2) := by decide +kernel
theorem dX11_read_14 : decode cX11_read 14 = .ok (.iload_n 1, 1) := by decide +kernel
theorem dX11_read_15 : decode cX11_read 15 = .ok (.isub, 1) := by decide +kernel
theorem dX11_read_16 : decode cX11_read 16 = .ok (.goto 7, 3) := by decide +kernel
theorem dX11_read_19 : decode cX11_read 19 = .ok (.aload_n 0, 1) := by decide +kernel
theorem dX11_read_20 : decode cX11_read 20 = .ok (.invokevirtual 329, 3) := by decide +kernel
theorem dX11_read_23 : decode cX11_read 23 = .ok (.istore_n 2, 1) := by decide +kernel
theorem dX11_read_24 : decode cX11_read 24 = .ok (.aload_n 0, 1) := by decide +kernel
theorem dX11_read_25 : decode cX11_read 25 = .ok (.getfield 35, 3) := by decide +kernel
theorem dX11_read_28 : decode cX11_read 28 = .ok (.iconst 0, 1) := by decide +kernel
theorem dX11_read_29 : decode cX11_read 29 = .ok (.putfield 321, 3) := by decide +kernel
theorem dX11_read_32 : decode cX11_read 32 = .ok (.iload_n 2, 1) := by decide +kernel
theorem dX11_read_33 : decode cX11_read 33 = .ok (.ireturn, 1) := by decide +kernel
set_option maxRecDepth 20000 in
theorem ggX11_doAllActs_X9_readsAct : GoodIn wsX11_doAllActs wsX9_readsAct := goodIn_r _ [8, 9, 10, 11, 12, 13, 14, 7, 15, 16, 17, 18, 19, 20, 21, 22, 23, 24, 25, 26, 27, 28, 29, 30, 31, 32, 33, 34, 35, 36, 37, 38, 39, 40, 41, 42, 43, 44, 45, 46, 47, 48, 49, 50, 51, 52, 53, 54, 55, 56, 57, 58, 59, 60, 61, 62, 63, 64, 65, 66, 67, 68, 69, 70, 71, 72, 73, 74, 75, 76, 77, 78, 79, 80, 81, 82, 83, 84, 85, 86, 87, 88, 89, 90, 91, 92, 93, 94, 95, 96, 97, 98, 99, 100, 101, 102, 103, 247, 248, 249, 250, 251] (by decide +kernel) (by decide +kernel)
set_option maxRecDepth 20000 in
theorem gX11_doAllActs_X9_readsAct : GoodIn wsX11_doAllActs (wsV RX11 335 RX9 yX9_readsAct wsX9_readsAct) := goodIn_app (goodIn_of _ (by decide +kernel)) ggX11_doAllActs_X9_readsAct
set_option maxRecDepth 20000 in
theorem ggX11_doAllActs_X11_doAct : GoodIn wsX11_doAllActs wsX11_doAct := goodIn_r _ [107, 1, 108, 109, 110, 111, 112, 23, 113, 114, 115, 116, 117, 118, 119, 120, 121, 122, 123, 124, 125, 126, 127, 22, 24, 128, 129, 130, 131, 132, 133, 134, 135, 136, 137, 138, 139, 140, 141, 142, 143, 144, 145, 146, 147, 148, 149, 150, 151, 152, 153, 154, 155, 156, 157, 158, 159, 160, 161, 162, 163, 164, 165, 166, 167, 168, 169, 170, 171, 172, 173, 174, 175, 176, 177, 178, 179, 180, 181, 182, 183, 184, 185, 186, 187, 188, 189, 190, 191, 192, 193, 194, 195, 196, 197, 198, 199, 200, 201, 202, 203, 204, 205, 206, 207, 208, 209, 210, 211, 212, 213, 214, 215, 216, 217, 218, 219, 220, 221, 222, 223, 224, 225, 226, 227, 228, 229, 230, 231, 232, 237, 238, 239, 240, 241, 242, 243, 244, 245, 246, 247, 248, 249, 250, 251, 252, 253, 254, 255, 256, 257, 258, 259, 260, 261, 262, 263, 264, 265, 266, 267, 268, 269, 270, 271] (by decide +kernel) (by decide +kernel)
set_option maxRecDepth 20000 in
theorem gX11_doAllActs_X11_doAct : GoodIn wsX11_doAllActs (wsV RX11 339 RX11 yX11_doAct wsX11_doAct) := goodIn_app (goodIn_of _ (by decide +kernel)) ggX11_doAllActs_X11_doAct
set_option maxRecDepth 20000 in
theorem ggX11_doAllActs_X9_isPartedHere : GoodIn wsX11_doAllActs wsX9_isPartedHere := goodIn_r _ [236, 84, 85, 86, 7, 87, 11, 16, 21, 22, 23, 24, 247, 248, 249, 250, 251] (by decide +kernel) (by decide +kernel)
set_option maxRecDepth 20000 in
theorem gX11_doAllActs_X9_isPartedHere : GoodIn wsX11_doAllActs (wsV RX11 342 RX9 yX9_isPartedHere wsX9_isPartedHere) := goodIn_app (goodIn_of _ (by decide +kernel)) ggX11_doAllActs_X9_isPartedHere
theorem dX11_doAllActs_0 : decode cX11_doAllActs 0 = .ok (.aload_n 0, 1) := by decide +kernel
theorem dX11_doAllActs_1 : decode cX11_doAllActs 1 = .ok (.getfield 35, 3) := by decide +kernel
theorem dX11_doAllActs_4 : decode cX11_doAllActs 4 = .ok (.iconst 0, 1) := by decide +kernel
theorem dX11_doAllActs_5 : decode cX11_doAllActs 5 = .ok (.putfield 332, 3) := by decide +kernel
theorem dX11_doAllActs_8 : decode cX11_doAllActs 8 = .ok (.iconst 0, 1) := by decide +kernel
theorem dX11_doAllActs_9 : decode cX11_doAllActs 9 = .ok (.istore_n 1, 1) := by decide +kernel
theorem dX11_doAllActs_10 : decode cX11_doAllActs 10 = .ok (.iload_n 1, 1) := by decide +kernel
theorem dX11_doAllActs_11 : decode cX11_doAllActs 11 = .ok (.aload_n 0, 1) := by decide +kernel
theorem dX11_doAllActs_12 : decode cX11_doAllActs 12 = .ok (.getfield 35, 3) := by decide +kernel
theorem dX11_doAllActs_15 : decode cX11_doAllActs 15 = .ok (.getfield 321, 3) := by decide +kernel
theorem dX11_doAllActs_18 : decode cX11_doAllActs 18 = .ok (.if_icmp .ge 59, 3) := by decide +kernel
theorem dX11_doAllActs_21 : decode cX11_doAllActs 21 = .ok (.aload_n 0, 1) := by decide +kernel
theorem dX11_doAllActs_22 : decode cX11_doAllActs 22 = .ok (.getfield 35, 3) := by decide +kernel
theorem dX11_doAllActs_25 : decode cX11_doAllActs 25 = .ok (.invokevirtual 335, 3) := by decide +kernel
theorem dX11_doAllActs_28 : decode cX11_doAllActs 28 = .ok (.ifCond .eq 10, 3) := by decide +kernel
theorem dX11_doAllActs_31 : decode cX11_doAllActs 31 = .ok (.aload_n 0, 1) := by decide +kernel
theorem dX11_doAllActs_32 : decode cX11_doAllActs 32 = .ok (.invokevirtual 339, 3) := by decide +kernel
theorem dX11_doAllActs_35 : decode cX11_doAllActs 35 = .ok (.ifCond .ge 9, 3) := by decide +kernel
theorem dX11_doAllActs_38 : decode cX11_doAllActs 38 = .ok (.sipush (-200), 3) := by decide +kernel
theorem dX11_doAllActs_41 : decode cX11_doAllActs 41 = .ok (.iload_n 1, 1) := by decide +kernel
theorem dX11_doAllActs_42 : decode cX11_doAllActs 42 = .ok (.isub, 1) := by decide +kernel
theorem dX11_doAllActs_43 : decode cX11_doAllActs 43 = .ok (.ireturn, 1) := by decide +kernel
theorem dX11_doAllActs_44 : decode cX11_doAllActs 44 = .ok (.aload_n 0, 1) := by decide +kernel
theorem dX11_doAllActs_45 : decode cX11_doAllActs 45 = .ok (.getfield 35, 3) := by decide +kernel
theorem dX11_doAllActs_48 : decode cX11_doAllActs 48 = .ok (.invokevirtual 342, 3) := by decide +kernel
theorem dX11_doAllActs_51 : decode cX11_doAllActs 51 = .ok (.ifCond .ne 7, 3) := by decide +kernel
theorem dX11_doAllActs_54 : decode cX11_doAllActs 54 = .ok (.iload_n 1, 1) := by decide +kernel
theorem dX11_doAllActs_55 : decode cX11_doAllActs 55 = .ok (.iconst 1, 1) := by decide +kernel
theorem dX11_doAllActs_56 : decode cX11_doAllActs 56 = .ok (.iadd, 1) := by decide +kernel
theorem dX11_doAllActs_57 : decode cX11_doAllActs 57 = .ok (.ireturn, 1) := by decide +kernel
theorem dX11_doAllActs_58 : decode cX11_doAllActs 58 = .ok (.aload_n 0, 1) := by decide +kernel
theorem dX11_doAllActs_59 : decode cX11_doAllActs 59 = .ok (.getfield 35, 3) := by decide +kernel
theorem dX11_doAllActs_62 : decode cX11_doAllActs 62 = .ok (.dup, 1) := by decide +kernel
theorem dX11_doAllActs_63 : decode cX11_doAllActs 63 = .ok (.getfield 332, 3) := by decide +kernel
theorem dX11_doAllActs_66 : decode cX11_doAllActs 66 = .ok (.iconst 1, 1) := by decide +kernel
theorem dX11_doAllActs_67 : decode cX11_doAllActs 67 = .ok (.iadd, 1) := by decide +kernel
theorem dX11_doAllActs_68 : decode cX11_doAllActs 68 = .ok (.putfield 332, 3) := by decide +kernel
theorem dX11_doAllActs_71 : decode cX11_doAllActs 71 = .ok (.iinc 1 1, 3) := by decide +kernel
theorem dX11_doAllActs_74 : decode cX11_doAllActs 74 = .ok (.goto (-64), 3) := by decide +kernel
theorem dX11_doAllActs_77 : decode cX11_doAllActs 77 = .ok (.sipush (-200), 3) := by decide +kernel
theorem dX11_doAllActs_80 : decode cX11_doAllActs 80 = .ok (.ireturn, 1) := by decide +kernel
set_option maxRecDepth 20000 in
theorem ggX11_doAct_X11_put : GoodIn wsX11_doAct wsX11_put := goodIn_r _ [8, 9, 10, 11, 12, 13, 14, 15, 16, 17, 18, 19, 7, 20, 21, 22, 23, 24, 25, 26, 27, 28, 29, 30, 31, 32, 33, 34, 35, 36, 37, 38, 39, 40, 41, 42, 43, 44, 45, 46, 47, 48, 49, 50, 51, 52, 53, 54, 55, 56, 57, 58, 59, 60, 61, 62, 63, 64, 65, 66, 67, 68, 130, 131, 132, 133, 134, 135, 136, 137, 138, 139, 145, 146, 147, 148, 149, 150, 151, 152, 153, 154, 155, 156, 157, 158, 159, 160] (by decide +kernel) (by decide +kernel)
set_option maxRecDepth 20000 in
theorem gX11_doAct_X11_put : GoodIn wsX11_doAct (wsV RX11 351 RX11 yX11_put wsX11_put) := goodIn_app (goodIn_of _ (by decide +kernel)) ggX11_doAct_X11_put
set_option maxRecDepth 20000 in
theorem ggX11_doAct_X11_move : GoodIn wsX11_doAct wsX11_move := goodIn_r _ [72, 9, 10, 11, 15, 16, 18, 19, 7, 20, 21, 22, 23, 24, 28, 29, 30, 31, 32, 33, 34, 35, 36, 37, 38, 39, 40, 41, 42, 43, 130, 131, 132, 133, 134, 135, 136, 137, 138, 139, 145, 146, 147, 148, 149, 150, 151, 152, 153, 154, 155, 156, 157, 158, 159, 160] (by decide +kernel) (by decide +kernel)
set_option maxRecDepth 20000 in
theorem gX11_doAct_X11_move : GoodIn wsX11_doAct (wsV RX11 355 RX11 yX11_move wsX11_move) := goodIn_app (goodIn_of _ (by decide +kernel)) ggX11_doAct_X11_move
set_option maxRecDepth 20000 in
theorem ggX11_doAct_X11_take : GoodIn wsX11_doAct wsX11_take := goodIn_r _ [76, 9, 11, 18, 19, 7, 20, 21, 22, 23, 24, 37, 38, 39, 40, 41, 42, 43, 77, 78, 79, 80, 81, 82, 83, 84, 85, 86, 87, 88, 89, 90, 91, 92, 93, 94, 56, 57, 58, 59, 60, 61, 62, 63, 64, 65, 66, 67, 68, 130, 131, 132, 133, 134, 135, 136, 137, 138, 139, 145, 146, 147, 148, 149, 150, 151, 152, 153, 154, 155, 156, 157, 158, 159, 160] (by decide +kernel) (by decide +kernel)
set_option maxRecDepth 20000 in
theorem gX11_doAct_X11_take : GoodIn wsX11_doAct (wsV RX11 359 RX11 yX11_take wsX11_take) := goodIn_app (goodIn_of _ (by decide +kernel)) ggX11_doAct_X11_take
set_option maxRecDepth 20000 in
theorem ggX11_doAct_X11_fill : GoodIn wsX11_doAct wsX11_fill := goodIn_r _ [98, 9, 99, 100, 101, 102, 103, 7, 104, 22, 23, 24, 105, 106, 107, 108, 109, 110, 130, 131, 132, 133, 134, 135, 136, 137, 138, 139, 145, 146, 147, 161, 162, 163, 164] (by decide +kernel) (by decide +kernel)
set_option maxRecDepth 20000 in
theorem gX11_doAct_X11_fill : GoodIn wsX11_doAct (wsV RX11 362 RX11 yX11_fill wsX11_fill) := goodIn_app (goodIn_of _ (by decide +kernel)) ggX11_doAct_X11_fill
set_option maxRecDepth 20000 in
theorem ggX11_doAct_X11_set : GoodIn wsX11_doAct wsX11_set := goodIn_r _ [114, 115, 116, 117, 7, 118, 9, 10, 119, 22, 23, 24, 120, 121, 122, 123, 124, 125, 126, 127, 128, 129, 130, 131, 132, 133, 134, 135, 136, 137, 138, 139, 145, 146, 147, 155, 156, 157, 158, 159, 160] (by decide +kernel) (by decide +kernel)
set_option maxRecDepth 20000 in
theorem gX11_doAct_X11_set : GoodIn wsX11_doAct (wsV RX11 365 RX11 yX11_set wsX11_set) := goodIn_app (goodIn_of _ (by decide +kernel)) ggX11_doAct_X11_set
theorem dX11_doAct_0 : decode cX11_doAct 0 = .ok (.aload_n 0, 1) := by decide +kernel
theorem dX11_doAct_1 : decode cX11_doAct 1 = .ok (.getfield 35, 3) := by decide +kernel
theorem dX11_doAct_4 : decode cX11_doAct 4 = .ok (.getfield 345, 3) := by decide +kernel
theorem dX11_doAct_7 : decode cX11_doAct 7 = .ok (.astore_n 1, 1) := by decide +kernel
theorem dX11_doAct_8 : decode cX11_doAct 8 = .ok (.aload_n 0, 1) := by decide +kernel
theorem dX11_doAct_9 : decode cX11_doAct 9 = .ok (.getfield 35, 3) := by decide +kernel
theorem dX11_doAct_12 : decode cX11_doAct 12 = .ok (.getfield 348, 3) := by decide +kernel
theorem dX11_doAct_15 : decode cX11_doAct 15 = .ok (.tableswitch 85 0 3 #[29, 52, 66, 74], 29) := by decide +kernel
theorem dX11_doAct_44 : decode cX11_doAct 44 = .ok (.aload_n 0, 1) := by decide +kernel
theorem dX11_doAct_45 : decode cX11_doAct 45 = .ok (.aload_n 1, 1) := by decide +kernel
theorem dX11_doAct_46 : decode cX11_doAct 46 = .ok (.iconst 0, 1) := by decide +kernel
theorem dX11_doAct_47 : decode cX11_doAct 47 = .ok (.iaload, 1) := by decide +kernel
theorem dX11_doAct_48 : decode cX11_doAct 48 = .ok (.aload_n 1, 1) := by decide +kernel
theorem dX11_doAct_49 : decode cX11_doAct 49 = .ok (.iconst 1, 1) := by decide +kernel
theorem dX11_doAct_50 : decode cX11_doAct 50 = .ok (.iaload, 1) := by decide +kernel
theorem dX11_doAct_51 : decode cX11_doAct 51 = .ok (.aload_n 1, 1) := by decide +kernel
theorem dX11_doAct_52 : decode cX11_doAct 52 = .ok (.iconst 2, 1) := by decide +kernel
theorem dX11_doAct_53 : decode cX11_doAct 53 = .ok (.iaload, 1) := by decide +kernel
theorem dX11_doAct_54 : decode cX11_doAct 54 = .ok (.aload_n 1, 1) := by decide +kernel
theorem dX11_doAct_55 : decode cX11_doAct 55 = .ok (.iconst 3, 1) := by decide +kernel
theorem dX11_doAct_56 : decode cX11_doAct 56 = .ok (.iaload, 1) := by decide +kernel
theorem dX11_doAct_57 : decode cX11_doAct 57 = .ok (.aload_n 1, 1) := by decide +kernel
theorem dX11_doAct_58 : decode cX11_doAct 58 = .ok (.iconst 4, 1) := by decide +kernel
theorem dX11_doAct_59 : decode cX11_doAct 59 = .ok (.iaload, 1) := by decide +kernel
theorem dX11_doAct_60 : decode cX11_doAct 60 = .ok (.aload_n 1, 1) := by decide +kernel
theorem dX11_doAct_61 : decode cX11_doAct 61 = .ok (.iconst 5, 1) := by decide +kernel
theorem dX11_doAct_62 : decode cX11_doAct 62 = .ok (.iaload, 1) := by decide +kernel
theorem dX11_doAct_63 : decode cX11_doAct 63 = .ok (.invokevirtual 351, 3) := by decide +kernel
theorem dX11_doAct_66 : decode cX11_doAct 66 = .ok (.ireturn, 1) := by decide +kernel
