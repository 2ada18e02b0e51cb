theorem dX6_spread_45 : decode cX6_spread 45 = .ok (.iload_n 1, 1) := by decide +kernel
theorem dX6_spread_46 : decode cX6_spread 46 = .ok (.iload_n 2, 1) := by decide +kernel
theorem dX6_spread_47 : decode cX6_spread 47 = .ok (.invokevirtual 153, 3) := by decide +kernel
theorem dX6_spread_50 : decode cX6_spread 50 = .ok (.iload_n 3, 1) := by decide +kernel
theorem dX6_spread_51 : decode cX6_spread 51 = .ok (.iload 4, 2) := by decide +kernel
theorem dX6_spread_53 : decode cX6_spread 53 = .ok (.invokevirtual 204, 3) := by decide +kernel
theorem dX6_spread_56 : decode cX6_spread 56 = .ok (.aload_n 0, 1) := by decide +kernel
theorem dX6_spread_57 : decode cX6_spread 57 = .ok (.iload 5, 2) := by decide +kernel
theorem dX6_spread_59 : decode cX6_spread 59 = .ok (.invokevirtual 208, 3) := by decide +kernel
theorem dX6_spread_62 : decode cX6_spread 62 = .ok (.ireturn, 1) := by decide +kernel
set_option maxRecDepth 20000 in
theorem ggX6_bestOf_X6_laySpread : GoodIn wsX6_bestOf wsX6_laySpread := goodIn_r _ [7, 2, 8, 1, 9, 10, 11, 12, 13, 14, 15, 16, 6, 17, 18, 19, 20, 21, 22, 23, 24, 25, 26, 27, 28, 29, 30, 31, 32, 33, 37, 38, 39, 40, 41, 42, 43, 44, 45, 46, 47, 48, 49, 50, 51, 52, 53, 54, 55, 56, 57, 58, 59, 60, 61, 62, 63, 64, 65, 66, 67, 68, 69, 70] (by decide +kernel) (by decide +kernel)
set_option maxRecDepth 20000 in
theorem gX6_bestOf_X6_laySpread : GoodIn wsX6_bestOf (wsV RX6 204 RX6 yX6_laySpread wsX6_laySpread) := goodIn_app (goodIn_of _ (by decide +kernel)) ggX6_bestOf_X6_laySpread
set_option maxRecDepth 20000 in
theorem ggX6_bestOf_X6_ones : GoodIn wsX6_bestOf wsX6_ones := goodIn_r _ [36] (by decide +kernel) (by decide +kernel)
set_option maxRecDepth 20000 in
theorem gX6_bestOf_X6_ones : GoodIn wsX6_bestOf (va_wsS RX6 159 yX6_ones wsX6_ones) := goodIn_app (goodIn_of _ (by decide +kernel)) ggX6_bestOf_X6_ones
theorem dX6_bestOf_0 : decode cX6_bestOf 0 = .ok (.iconst (-1), 1) := by decide +kernel
theorem dX6_bestOf_1 : decode cX6_bestOf 1 = .ok (.istore 4, 2) := by decide +kernel
theorem dX6_bestOf_3 : decode cX6_bestOf 3 = .ok (.iconst 0, 1) := by decide +kernel
theorem dX6_bestOf_4 : decode cX6_bestOf 4 = .ok (.istore 5, 2) := by decide +kernel
theorem dX6_bestOf_6 : decode cX6_bestOf 6 = .ok (.iconst 0, 1) := by decide +kernel
theorem dX6_bestOf_7 : decode cX6_bestOf 7 = .ok (.istore 6, 2) := by decide +kernel
theorem dX6_bestOf_9 : decode cX6_bestOf 9 = .ok (.iload 6, 2) := by decide +kernel
theorem dX6_bestOf_11 : decode cX6_bestOf 11 = .ok (.iconst 3, 1) := by decide +kernel
theorem dX6_bestOf_12 : decode cX6_bestOf 12 = .ok (.if_icmp .ge 73, 3) := by decide +kernel
theorem dX6_bestOf_15 : decode cX6_bestOf 15 = .ok (.aload_n 0, 1) := by decide +kernel
theorem dX6_bestOf_16 : decode cX6_bestOf 16 = .ok (.iload_n 1, 1) := by decide +kernel
theorem dX6_bestOf_17 : decode cX6_bestOf 17 = .ok (.iload_n 2, 1) := by decide +kernel
theorem dX6_bestOf_18 : decode cX6_bestOf 18 = .ok (.iload 6, 2) := by decide +kernel
theorem dX6_bestOf_20 : decode cX6_bestOf 20 = .ok (.iload_n 3, 1) := by decide +kernel
theorem dX6_bestOf_21 : decode cX6_bestOf 21 = .ok (.invokevirtual 204, 3) := by decide +kernel
theorem dX6_bestOf_24 : decode cX6_bestOf 24 = .ok (.bipush 64, 2) := by decide +kernel
theorem dX6_bestOf_26 : decode cX6_bestOf 26 = .ok (.aload_n 0, 1) := by decide +kernel
theorem dX6_bestOf_27 : decode cX6_bestOf 27 = .ok (.getfield 175, 3) := by decide +kernel
theorem dX6_bestOf_30 : decode cX6_bestOf 30 = .ok (.imul, 1) := by decide +kernel
theorem dX6_bestOf_31 : decode cX6_bestOf 31 = .ok (.aload_n 0, 1) := by decide +kernel
theorem dX6_bestOf_32 : decode cX6_bestOf 32 = .ok (.getfield 169, 3) := by decide +kernel
theorem dX6_bestOf_35 : decode cX6_bestOf 35 = .ok (.invokestatic 159, 3) := by decide +kernel
theorem dX6_bestOf_38 : decode cX6_bestOf 38 = .ok (.iadd, 1) := by decide +kernel
theorem dX6_bestOf_39 : decode cX6_bestOf 39 = .ok (.istore 7, 2) := by decide +kernel
theorem dX6_bestOf_41 : decode cX6_bestOf 41 = .ok (.iload 4, 2) := by decide +kernel
theorem dX6_bestOf_43 : decode cX6_bestOf 43 = .ok (.iconst (-1), 1) := by decide +kernel
theorem dX6_bestOf_44 : decode cX6_bestOf 44 = .ok (.if_icmp .eq 10, 3) := by decide +kernel
theorem dX6_bestOf_47 : decode cX6_bestOf 47 = .ok (.iload 7, 2) := by decide +kernel
theorem dX6_bestOf_49 : decode cX6_bestOf 49 = .ok (.iload 5, 2) := by decide +kernel
theorem dX6_bestOf_51 : decode cX6_bestOf 51 = .ok (.if_icmp .ge 8, 3) := by decide +kernel
theorem dX6_bestOf_54 : decode cX6_bestOf 54 = .ok (.iload 6, 2) := by decide +kernel
theorem dX6_bestOf_56 : decode cX6_bestOf 56 = .ok (.goto 5, 3) := by decide +kernel
theorem dX6_bestOf_59 : decode cX6_bestOf 59 = .ok (.iload 4, 2) := by decide +kernel
theorem dX6_bestOf_61 : decode cX6_bestOf 61 = .ok (.istore 4, 2) := by decide +kernel
theorem dX6_bestOf_63 : decode cX6_bestOf 63 = .ok (.iload 4, 2) := by decide +kernel
theorem dX6_bestOf_65 : decode cX6_bestOf 65 = .ok (.iload 6, 2) := by decide +kernel
theorem dX6_bestOf_67 : decode cX6_bestOf 67 = .ok (.if_icmp .ne 8, 3) := by decide +kernel
theorem dX6_bestOf_70 : decode cX6_bestOf 70 = .ok (.iload 7, 2) := by decide +kernel
theorem dX6_bestOf_72 : decode cX6_bestOf 72 = .ok (.goto 5, 3) := by decide +kernel
theorem dX6_bestOf_75 : decode cX6_bestOf 75 = .ok (.iload 5, 2) := by decide +kernel
theorem dX6_bestOf_77 : decode cX6_bestOf 77 = .ok (.istore 5, 2) := by decide +kernel
theorem dX6_bestOf_79 : decode cX6_bestOf 79 = .ok (.iinc 6 1, 3) := by decide +kernel
theorem dX6_bestOf_82 : decode cX6_bestOf 82 = .ok (.goto (-73), 3) := by decide +kernel
theorem dX6_bestOf_85 : decode cX6_bestOf 85 = .ok (.iload 4, 2) := by decide +kernel
theorem dX6_bestOf_87 : decode cX6_bestOf 87 = .ok (.ireturn, 1) := by decide +kernel
set_option maxRecDepth 20000 in
theorem ggX6_best_X6_isNode : GoodIn wsX6_best wsX6_isNode := goodIn_r _ [5, 6, 7, 8, 4, 9, 76, 77, 78, 79, 80, 81, 82, 83, 84, 85, 86, 87, 88, 89, 90, 91, 92, 93, 94, 95, 96, 97, 98, 99, 100, 101, 102, 103, 104, 105, 106, 107, 108, 109] (by decide +kernel) (by decide +kernel)
set_option maxRecDepth 20000 in
theorem gX6_best_X6_isNode : GoodIn wsX6_best (wsV RX6 140 RX6 yX6_isNode wsX6_isNode) := goodIn_app (goodIn_of _ (by decide +kernel)) ggX6_best_X6_isNode
set_option maxRecDepth 20000 in
theorem ggX6_best_X6_isSet : GoodIn wsX6_best wsX6_isSet := goodIn_r _ [13, 6, 7, 8, 4, 9, 76, 77, 78, 79, 80, 81, 82, 83, 84, 85, 86, 87, 88, 89, 90, 91, 92, 93, 94, 95, 96, 97, 98, 99, 100, 101, 102, 103, 104, 105, 106, 107, 108, 109] (by decide +kernel) (by decide +kernel)
set_option maxRecDepth 20000 in
theorem gX6_best_X6_isSet : GoodIn wsX6_best (wsV RX6 150 RX6 yX6_isSet wsX6_isSet) := goodIn_app (goodIn_of _ (by decide +kernel)) ggX6_best_X6_isSet
set_option maxRecDepth 20000 in
theorem ggX6_best_X6_treeOf : GoodIn wsX6_best wsX6_treeOf := goodIn_r _ [17, 6, 18, 19, 20, 21, 4, 22, 23, 24, 25, 26, 27, 28, 29, 30, 31, 32, 33, 34, 35, 36, 37, 38, 39, 40, 41, 42, 76, 77, 78, 79, 80, 81, 82, 83, 84, 85, 86, 87, 88, 89, 90, 91, 92, 93, 94, 95, 96, 97, 98, 99, 100, 101, 102, 103, 104, 105, 106, 107, 108, 109] (by decide +kernel) (by decide +kernel)
set_option maxRecDepth 20000 in
theorem gX6_best_X6_treeOf : GoodIn wsX6_best (wsV RX6 153 RX6 yX6_treeOf wsX6_treeOf) := goodIn_app (goodIn_of _ (by decide +kernel)) ggX6_best_X6_treeOf
set_option maxRecDepth 20000 in
theorem ggX6_best_X6_bestOf : GoodIn wsX6_best wsX6_bestOf := goodIn_r _ [46, 47, 48, 49, 50, 51, 4, 52, 53, 54, 55, 56, 32, 57, 58, 59, 60, 61, 62, 63, 20, 21, 22, 64, 65, 66, 67, 68, 69, 70, 71, 72, 34, 33, 73, 74, 75, 76, 77, 78, 79, 80, 81, 82, 83, 84, 85, 86, 87, 88, 89, 90, 91, 92, 93, 94, 95, 96, 97, 98, 99, 100, 101, 102, 103, 104, 105, 106, 107, 108, 109] (by decide +kernel) (by decide +kernel)
set_option maxRecDepth 20000 in
theorem gX6_best_X6_bestOf : GoodIn wsX6_best (wsV RX6 211 RX6 yX6_bestOf wsX6_bestOf) := goodIn_app (goodIn_of _ (by decide +kernel)) ggX6_best_X6_bestOf
theorem dX6_best_0 : decode cX6_best 0 = .ok (.aload_n 0, 1) := by decide +kernel
theorem dX6_best_1 : decode cX6_best 1 = .ok (.iload_n 1, 1) := by decide +kernel
theorem dX6_best_2 : decode cX6_best 2 = .ok (.invokevirtual 140, 3) := by decide +kernel
theorem dX6_best_5 : decode cX6_best 5 = .ok (.ifCond .ne 7, 3) := by decide +kernel
theorem dX6_best_8 : decode cX6_best 8 = .ok (.sipush (-1001), 3) := by decide +kernel
theorem dX6_best_11 : decode cX6_best 11 = .ok (.ireturn, 1) := by decide +kernel
theorem dX6_best_12 : decode cX6_best 12 = .ok (.aload_n 0, 1) := by decide +kernel
theorem dX6_best_13 : decode cX6_best 13 = .ok (.iload_n 2, 1) := by decide +kernel
theorem dX6_best_14 : decode cX6_best 14 = .ok (.invokevirtual 150, 3) := by decide +kernel
theorem dX6_best_17 : decode cX6_best 17 = .ok (.ifCond .eq 18, 3) := by decide +kernel
theorem dX6_best_20 : decode cX6_best 20 = .ok (.aload_n 0, 1) := by decide +kernel
theorem dX6_best_21 : decode cX6_best 21 = .ok (.iload_n 1, 1) := by decide +kernel
theorem dX6_best_22 : decode cX6_best 22 = .ok (.aload_n 0, 1) := by decide +kernel
theorem dX6_best_23 : decode cX6_best 23 = .ok (.iload_n 1, 1) := by decide +kernel
theorem dX6_best_24 : decode cX6_best 24 = .ok (.iload_n 2, 1) := by decide +kernel
theorem dX6_best_25 : decode cX6_best 25 = .ok (.invokevirtual 153, 3) := by decide +kernel
theorem dX6_best_28 : decode cX6_best 28 = .ok (.iload_n 3, 1) := by decide +kernel
theorem dX6_best_29 : decode cX6_best 29 = .ok (.invokevirtual 211, 3) := by decide +kernel
theorem dX6_best_32 : decode cX6_best 32 = .ok (.goto 6, 3) := by decide +kernel
theorem dX6_best_35 : decode cX6_best 35 = .ok (.sipush (-1002), 3) := by decide +kernel
theorem dX6_best_38 : decode cX6_best 38 = .ok (.ireturn, 1) := by decide +kernel
set_option maxRecDepth 20000 in
theorem ggX6_sendNow_X6_bestOf : GoodIn wsX6_sendNow wsX6_bestOf := goodIn_r _ [12, 5, 13, 14, 15, 16, 11, 17, 3, 7, 18, 19, 20, 21, 22, 23, 24, 25, 26, 27, 28, 29, 30, 31, 32, 33, 34, 35, 36, 37, 38, 39, 40, 41, 42, 43, 44, 45, 46, 47, 48, 49, 50, 51, 52, 53, 54, 55, 56, 57, 58, 59, 60, 61, 62, 63, 64, 65, 66, 67, 68, 69, 70, 71, 72, 73, 74, 75, 76, 77, 78] (by decide +kernel) (by decide +kernel)
set_option maxRecDepth 20000 in
theorem gX6_sendNow_X6_bestOf : GoodIn wsX6_sendNow (wsV RX6 211 RX6 yX6_bestOf wsX6_bestOf) := goodIn_app (goodIn_of _ (by decide +kernel)) ggX6_sendNow_X6_bestOf
set_option maxRecDepth 20000 in
theorem ggX6_sendNow_X6_laySpread : GoodIn wsX6_sendNow wsX6_laySpread := goodIn_r _ [17, 13, 3, 5, 7, 18, 19, 20, 21, 22, 23, 24, 11, 25, 26, 27, 28, 29, 30, 31, 32, 33, 34, 35, 36, 37, 38, 39, 40, 41, 45, 46, 47, 48, 49, 50, 51, 52, 53, 54, 55, 56, 57, 58, 59, 60, 61, 62, 63, 64, 65, 66, 67, 68, 69, 70, 71, 72, 73, 74, 75, 76, 77, 78] (by decide +kernel) (by decide +kernel)
set_option maxRecDepth 20000 in
theorem gX6_sendNow_X6_laySpread : GoodIn wsX6_sendNow (wsV RX6 204 RX6 yX6_laySpread wsX6_laySpread) := goodIn_app (goodIn_of _ (by decide +kernel)) ggX6_sendNow_X6_laySpread
theorem dX6_sendNow_0 : decode cX6_sendNow 0 = .ok (.aload_n 0, 1) := by decide +kernel
theorem dX6_sendNow_1 : decode cX6_sendNow 1 = .ok (.iload_n 1, 1) := by decide +kernel
theorem dX6_sendNow_2 : decode cX6_sendNow 2 = .ok (.iload_n 2, 1) := by decide +kernel
theorem dX6_sendNow_3 : decode cX6_sendNow 3 = .ok (.aload_n 0, 1) := by decide +kernel
theorem dX6_sendNow_4 : decode cX6_sendNow 4 = .ok (.iload_n 1, 1) := by decide +kernel
theorem dX6_sendNow_5 : decode cX6_sendNow 5 = .ok (.iload_n 2, 1) := by decide +kernel
theorem dX6_sendNow_6 : decode cX6_sendNow 6 = .ok (.iload_n 3, 1) := by decide +kernel
theorem dX6_sendNow_7 : decode cX6_sendNow 7 = .ok (.invokevirtual 211, 3) := by decide +kernel
theorem dX6_sendNow_10 : decode cX6_sendNow 10 = .ok (.iload_n 3, 1) := by decide +kernel
theorem dX6_sendNow_11 : decode cX6_sendNow 11 = .ok (.invokevirtual 204, 3) := by decide +kernel
theorem dX6_sendNow_14 : decode cX6_sendNow 14 = .ok (.aload_n 0, 1) := by decide +kernel
theorem dX6_sendNow_15 : decode cX6_sendNow 15 = .ok (.dup, 1) := by decide +kernel
theorem dX6_sendNow_16 : decode cX6_sendNow 16 = .ok (.getfield 215, 3) := by decide +kernel
theorem dX6_sendNow_19 : decode cX6_sendNow 19 = .ok (.iconst 1, 1) := by decide +kernel
theorem dX6_sendNow_20 : decode cX6_sendNow 20 = .ok (.iadd, 1) := by decide +kernel
theorem dX6_sendNow_21 : decode cX6_sendNow 21 = .ok (.putfield 215, 3) := by decide +kernel
theorem dX6_sendNow_24 : decode cX6_sendNow 24 = .ok (.aload_n 0, 1) := by decide +kernel
theorem dX6_sendNow_25 : decode cX6_sendNow 25 = .ok (.dup, 1) := by decide +kernel
theorem dX6_sendNow_26 : decode cX6_sendNow 26 = .ok (.getfield 218, 3) := by decide +kernel
theorem dX6_sendNow_29 : decode cX6_sendNow 29 = .ok (.aload_n 0, 1) := by decide +kernel
theorem dX6_sendNow_30 : decode cX6_sendNow 30 = .ok (.getfield 172, 3) := by decide +kernel
theorem dX6_sendNow_33 : decode cX6_sendNow 33 = .ok (.iadd, 1) := by decide +kernel
theorem dX6_sendNow_34 : decode cX6_sendNow 34 = .ok (.putfield 218, 3) := by decide +kernel
theorem dX6_sendNow_37 : decode cX6_sendNow 37 = .ok (.aload_n 0, 1) := by decide +kernel
theorem dX6_sendNow_38 : decode cX6_sendNow 38 = .ok (.dup, 1) := by decide +kernel
theorem dX6_sendNow_39 : decode cX6_sendNow 39 = .ok (.getfield 221, 3) := by decide +kernel
theorem dX6_sendNow_42 : decode cX6_sendNow 42 = .ok (.aload_n 0, 1) := by decide +kernel
theorem dX6_sendNow_43 : decode cX6_sendNow 43 = .ok (.getfield 175, 3) := by decide +kernel
theorem dX6_sendNow_46 : decode cX6_sendNow 46 = .ok (.iadd, 1) := by decide +kernel
theorem dX6_sendNow_47 : decode cX6_sendNow 47 = .ok (.putfield 221, 3) := by decide +kernel
theorem dX6_sendNow_50 : decode cX6_sendNow 50 = .ok (.aload_n 0, 1) := by decide +kernel
theorem dX6_sendNow_51 : decode cX6_sendNow 51 = .ok (.dup, 1) := by decide +kernel
theorem dX6_sendNow_52 : decode cX6_sendNow 52 = .ok (.getfield 224, 3) := by decide +kernel
theorem dX6_sendNow_55 : decode cX6_sendNow 55 = .ok (.aload_n 0, 1) := by decide +kernel
theorem dX6_sendNow_56 : decode cX6_sendNow 56 = .ok (.getfield 178, 3) := by decide +kernel
theorem dX6_sendNow_59 : decode cX6_sendNow 59 = .ok (.iadd, 1) := by decide +kernel
theorem dX6_sendNow_60 : decode cX6_sendNow 60 = .ok (.putfield 224, 3) := by decide +kernel
theorem dX6_sendNow_63 : decode cX6_sendNow 63 = .ok (.aload_n 0, 1) := by decide +kernel
theorem dX6_sendNow_64 : decode cX6_sendNow 64 = .ok (.getfield 175, 3) := by decide +kernel
theorem dX6_sendNow_67 : decode cX6_sendNow 67 = .ok (.ireturn, 1) := by decide +kernel
set_option maxRecDepth 20000 in
theorem ggX6_send_X6_isNode : GoodIn wsX6_send wsX6_isNode := goodIn_r _ [5, 6, 7, 8, 4, 9, 84, 85, 86, 87, 88, 89, 90, 91, 92, 93, 94, 95, 96, 97, 98, 99, 100, 101, 102, 103, 104, 105, 106, 107, 108, 109, 110, 111, 112, 113, 114, 115, 116, 117] (by decide +kernel) (by decide +kernel)
set_option maxRecDepth 20000 in
theorem gX6_send_X6_isNode : GoodIn wsX6_send (wsV RX6 140 RX6 yX6_isNode wsX6_isNode) := goodIn_app (goodIn_of _ (by decide +kernel)) ggX6_send_X6_isNode
set_option maxRecDepth 20000 in
theorem ggX6_send_X6_isSet : GoodIn wsX6_send wsX6_isSet := goodIn_r _ [13, 6, 7, 8, 4, 9, 84, 85, 86, 87, 88, 89, 90, 91, 92, 93, 94, 95, 96, 97, 98, 99, 100, 101, 102, 103, 104, 105, 106, 107, 108, 109, 110, 111, 112, 113, 114, 115, 116, 117] (by decide +kernel) (by decide +kernel)
set_option maxRecDepth 20000 in
theorem gX6_send_X6_isSet : GoodIn wsX6_send (wsV RX6 150 RX6 yX6_isSet wsX6_isSet) := goodIn_app (goodIn_of _ (by decide +kernel)) ggX6_send_X6_isSet
set_option maxRecDepth 20000 in
theorem ggX6_send_X6_treeOf : GoodIn wsX6_send wsX6_treeOf := goodIn_r _ [17, 6, 18, 19, 20, 21, 4, 22, 23, 24, 25, 26, 27, 28, 29, 30, 31, 32, 33, 34, 35, 36, 37, 38, 39, 40, 41, 42, 84, 85, 86, 87, 88, 89, 90, 91, 92, 93, 94, 95, 96, 97, 98, 99, 100, 101, 102, 103, 104, 105, 106, 107, 108, 109, 110, 111, 112, 113, 114, 115, 116, 117] (by decide +kernel) (by decide +kernel)
set_option maxRecDepth 20000 in
theorem gX6_send_X6_treeOf : GoodIn wsX6_send (wsV RX6 153 RX6 yX6_treeOf wsX6_treeOf) := goodIn_app (goodIn_of _ (by decide +kernel)) ggX6_send_X6_treeOf
set_option maxRecDepth 20000 in
theorem ggX6_send_X6_sendNow : GoodIn wsX6_send wsX6_sendNow := goodIn_r _ [46, 47, 48, 49, 50, 51, 52, 53, 54, 55, 56, 4, 57, 58, 59, 60, 61, 62, 63, 64, 32, 65, 66, 67, 68, 69, 70, 71, 20, 21, 22, 72, 73, 74, 75, 76, 77, 78, 79, 80, 34, 33, 81, 82, 83, 84, 85, 86, 87, 88, 89, 90, 91, 92, 93, 94, 95, 96, 97, 98, 99, 100, 101, 102, 103, 104, 105, 106, 107, 108, 109, 110, 111, 112, 113, 114, 115, 116, 117] (by decide +kernel) (by decide +kernel)
set_option maxRecDepth 20000 in
theorem gX6_send_X6_sendNow : GoodIn wsX6_send (wsV RX6 227 RX6 yX6_sendNow wsX6_sendNow) := goodIn_app (goodIn_of _ (by decide +kernel)) ggX6_send_X6_sendNow
theorem dX6_send_0 : decode cX6_send 0 = .ok (.aload_n 0, 1) := by decide +kernel
theorem dX6_send_1 : decode cX6_send 1 = .ok (.iload_n 1, 1) := by decide +kernel
theorem dX6_send_2 : decode cX6_send 2 = .ok (.invokevirtual 140, 3) := by decide +kernel
theorem dX6_send_5 : decode cX6_send 5 = .ok (.ifCond .ne 7, 3) := by decide +kernel
theorem dX6_send_8 : decode cX6_send 8 = .ok (.sipush (-1001), 3) := by decide +kernel
theorem dX6_send_11 : decode cX6_send 11 = .ok (.ireturn, 1) := by decide +kernel
theorem dX6_send_12 : decode cX6_send 12 = .ok (.aload_n 0, 1) := by decide +kernel
theorem dX6_send_13 : decode cX6_send 13 = .ok (.iload_n 2, 1) := by decide +kernel
theorem dX6_send_14 : decode cX6_send 14 = .ok (.invokevirtual 150, 3) := by decide +kernel
theorem dX6_send_17 : decode cX6_send 17 = .ok (.ifCond .eq 18, 3) := by decide +kernel
theorem dX6_send_20 : decode cX6_send 20 = .ok (.aload_n 0, 1) := by decide +kernel
theorem dX6_send_21 : decode cX6_send 21 = .ok (.iload_n 1, 1) := by decide +kernel
theorem dX6_send_22 : decode cX6_send 22 = .ok (.aload_n 0, 1) := by decide +kernel
theorem dX6_send_23 : decode cX6_send 23 = .ok (.iload_n 1, 1) := by decide +kernel
theorem dX6_send_24 : decode cX6_send 24 = .ok (.iload_n 2, 1) := by decide +kernel
theorem dX6_send_25 : decode cX6_send 25 = .ok (.invokevirtual 153, 3) := by decide +kernel
theorem dX6_send_28 : decode cX6_send 28 = .ok (.iload_n 3, 1) := by decide +kernel
theorem dX6_send_29 : decode cX6_send 29 = .ok (.invokevirtual 227, 3) := by decide +kernel
theorem dX6_send_32 : decode cX6_send 32 = .ok (.goto 6, 3) := by decide +kernel
theorem dX6_send_35 : decode cX6_send 35 = .ok (.sipush (-1002), 3) := by decide +kernel
theorem dX6_send_38 : decode cX6_send 38 = .ok (.ireturn, 1) := by decide +kernel
theorem dX6_bundlesMany_0 : decode cX6_bundlesMany 0 = .ok (.iconst 0, 1) := by decide +kernel
theorem dX6_bundlesMany_1 : decode cX6_bundlesMany 1 = .ok (.istore_n 1, 1) := by decide +kernel
theorem dX6_bundlesMany_2 : decode cX6_bundlesMany 2 = .ok (.iconst 0, 1) := by decide +kernel
theorem dX6_bundlesMany_3 : decode cX6_bundlesMany 3 = .ok (.istore_n 2, 1) := by decide +kernel
theorem dX6_bundlesMany_4 : decode cX6_bundlesMany 4 = .ok (.iload_n 2, 1) := by decide +kernel
theorem dX6_bundlesMany_5 : decode cX6_bundlesMany 5 = .ok (.iconst 4, 1) := by decide +kernel
theorem dX6_bundlesMany_6 : decode cX6_bundlesMany 6 = .ok (.if_icmp .ge 26, 3) := by decide +kernel
theorem dX6_bundlesMany_9 : decode cX6_bundlesMany 9 = .ok (.iload_n 1, 1) := by decide +kernel
theorem dX6_bundlesMany_10 : decode cX6_bundlesMany 10 = .ok (.aload_n 0, 1) := by decide +kernel
theorem dX6_bundlesMany_11 : decode cX6_bundlesMany 11 = .ok (.getfield 29, 3) := by decide +kernel
theorem dX6_bundlesMany_14 : decode cX6_bundlesMany 14 = .ok (.iload_n 2, 1) := by decide +kernel
theorem dX6_bundlesMany_15 : decode cX6_bundlesMany 15 = .ok (.iaload, 1) := by decide +kernel
theorem dX6_bundlesMany_16 : decode cX6_bundlesMany 16 = .ok (.ifCond .eq 7, 3) := by decide +kernel
theorem dX6_bundlesMany_19 : decode cX6_bundlesMany 19 = .ok (.iconst 1, 1) := by decide +kernel
theorem dX6_bundlesMany_20 : decode cX6_bundlesMany 20 = .ok (.goto 4, 3) := by decide +kernel
theorem dX6_bundlesMany_23 : decode cX6_bundlesMany 23 = .ok (.iconst 0, 1) := by decide +kernel
theorem dX6_bundlesMany_24 : decode cX6_bundlesMany 24 = .ok (.iadd, 1) := by decide +kernel
theorem dX6_bundlesMany_25 : decode cX6_bundlesMany 25 = .ok (.istore_n 1, 1) := by decide +kernel
theorem dX6_bundlesMany_26 : decode cX6_bundlesMany 26 = .ok (.iinc 2 1, 3) := by decide +kernel
theorem dX6_bundlesMany_29 : decode cX6_bundlesMany 29 = .ok (.goto (-25), 3) := by decide +kernel
theorem dX6_bundlesMany_32 : decode cX6_bundlesMany 32 = .ok (.iload_n 1, 1) := by decide +kernel
theorem dX6_bundlesMany_33 : decode cX6_bundlesMany 33 = .ok (.ireturn, 1) := by decide +kernel
set_option maxRecDepth 20000 in
theorem ggX6_howMany_X6_bundlesMany : GoodIn wsX6_howMany wsX6_bundlesMany := goodIn_r _ [16, 17, 18, 19, 20, 21, 22, 23, 24, 25, 26, 27, 28, 29, 30, 31, 32, 33, 34, 35, 36, 37, 38, 39, 40, 41, 42, 43, 44, 45, 46, 47, 48, 49, 50, 51] (by decide +kernel) (by decide +kernel)
set_option maxRecDepth 20000 in
theorem gX6_howMany_X6_bundlesMany : GoodIn wsX6_howMany (wsV RX6 230 RX6 yX6_bundlesMany wsX6_bundlesMany) := goodIn_app (goodIn_of _ (by decide +kernel)) ggX6_howMany_X6_bundlesMany
theorem dX6_howMany_0 : decode cX6_howMany 0 = .ok (.iload_n 1, 1) := by decide +kernel
theorem dX6_howMany_1 : decode cX6_howMany 1 = .ok (.tableswitch 123 0 11 #[63, 68, 73, 78, 83, 88, 93, 98, 103, 108, 113, 118], 63) := by decide +kernel
theorem dX6_howMany_64 : decode cX6_howMany 64 = .ok (.aload_n 0, 1) := by decide +kernel
theorem dX6_howMany_65 : decode cX6_howMany 65 = .ok (.getfield 82, 3) := by decide +kernel
theorem dX6_howMany_68 : decode cX6_howMany 68 = .ok (.ireturn, 1) := by decide +kernel
theorem dX6_howMany_69 : decode cX6_howMany 69 = .ok (.aload_n 0, 1) := by decide +kernel
theorem dX6_howMany_70 : decode cX6_howMany 70 = .ok (.getfield 85, 3) := by decide +kernel
theorem dX6_howMany_73 : decode cX6_howMany 73 = .ok (.ireturn, 1) := by decide +kernel
theorem dX6_howMany_74 : decode cX6_howMany 74 = .ok (.aload_n 0, 1) := by decide +kernel
theorem dX6_howMany_75 : decode cX6_howMany 75 = .ok (.getfield 52, 3) := by decide +kernel
theorem dX6_howMany_78 : decode cX6_howMany 78 = .ok (.ireturn, 1) := by decide +kernel
theorem dX6_howMany_79 : decode cX6_howMany 79 = .ok (.aload_n 0, 1) := by decide +kernel
theorem dX6_howMany_80 : decode cX6_howMany 80 = .ok (.getfield 19, 3) := by decide +kernel
theorem dX6_howMany_83 : decode cX6_howMany 83 = .ok (.ireturn, 1) := by decide +kernel
theorem dX6_howMany_84 : decode cX6_howMany 84 = .ok (.aload_n 0, 1) := by decide +kernel
theorem dX6_howMany_85 : decode cX6_howMany 85 = .ok (.getfield 23, 3) := by decide +kernel
theorem dX6_howMany_88 : decode cX6_howMany 88 = .ok (.ireturn, 1) := by decide +kernel
theorem dX6_howMany_89 : decode cX6_howMany 89 = .ok (.aload_n 0, 1) := by decide +kernel
theorem dX6_howMany_90 : decode cX6_howMany 90 = .ok (.getfield 26, 3) := by decide +kernel
theorem dX6_howMany_93 : decode cX6_howMany 93 = .ok (.ireturn, 1) := by decide +kernel
theorem dX6_howMany_94 : decode cX6_howMany 94 = .ok (.aload_n 0, 1) := by decide +kernel
theorem dX6_howMany_95 : decode cX6_howMany 95 = .ok (.invokevirtual 230, 3) := by decide +kernel
theorem dX6_howMany_98 : decode cX6_howMany 98 = .ok (.ireturn, 1) := by decide +kernel
theorem dX6_howMany_99 : decode cX6_howMany 99 = .ok (.aload_n 0, 1) := by decide +kernel
theorem dX6_howMany_100 : decode cX6_howMany 100 = .ok (.getfield 88, 3) := by decide +kernel
theorem dX6_howMany_103 : decode cX6_howMany 103 = .ok (.ireturn, 1) := by decide +kernel
theorem dX6_howMany_104 : decode cX6_howMany 104 = .ok (.aload_n 0, 1) := by decide +kernel
theorem dX6_howMany_105 : decode cX6_howMany 105 = .ok (.getfield 215, 3) := by decide +kernel
theorem dX6_howMany_108 : decode cX6_howMany 108 = .ok (.ireturn, 1) := by decide +kernel
theorem dX6_howMany_109 : decode cX6_howMany 109 = .ok (.aload_n 0, 1) := by decide +kernel
theorem dX6_howMany_110 : decode cX6_howMany 110 = .ok (.getfield 218, 3) := by decide +kernel
theorem dX6_howMany_113 : decode cX6_howMany 113 = .ok (.ireturn, 1) := by decide +kernel
theorem dX6_howMany_114 : decode cX6_howMany 114 = .ok (.aload_n 0, 1) := by decide +kernel
theorem dX6_howMany_115 : decode cX6_howMany 115 = .ok (.getfield 221, 3) := by decide +kernel
theorem dX6_howMany_118 : decode cX6_howMany 118 = .ok (.ireturn, 1) := by decide +kernel
theorem dX6_howMany_119 : decode cX6_howMany 119 = .ok (.aload_n 0, 1) := by decide +kernel
theorem dX6_howMany_120 : decode cX6_howMany 120 = .ok (.getfield 224, 3) := by decide +kernel
theorem dX6_howMany_123 : decode cX6_howMany 123 = .ok (.ireturn, 1) := by decide +kernel
theorem dX6_howMany_124 : decode cX6_howMany 124 = .ok (.sipush (-1002), 3) := by decide +kernel
theorem dX6_howMany_127 : decode cX6_howMany 127 = .ok (.ireturn, 1) := by decide +kernel
set_option maxRecDepth 20000 in
theorem ggX6_count_X6_howMany : GoodIn wsX6_count wsX6_howMany := goodIn_r _ [5, 6, 7, 8, 9, 10, 11, 12, 13, 14, 15, 16, 17, 18, 19, 4, 20, 21, 22, 23, 24, 25, 26, 27, 28, 29, 30, 31, 32, 33, 34, 35, 36, 37, 38, 39, 40, 41, 42, 43, 44, 45, 46, 47, 48, 49, 50, 51, 52, 53, 54, 55] (by decide +kernel) (by decide +kernel)
set_option maxRecDepth 20000 in
theorem gX6_count_X6_howMany : GoodIn wsX6_count (wsV RX6 233 RX6 yX6_howMany wsX6_howMany) := goodIn_app (goodIn_of _ (by decide +kernel)) ggX6_count_X6_howMany
theorem dX6_count_0 : decode cX6_count 0 = .ok (.aload_n 0, 1) := by decide +kernel
theorem dX6_count_1 : decode cX6_count 1 = .ok (.iload_n 1, 1) := by decide +kernel
theorem dX6_count_2 : decode cX6_count 2 = .ok (.invokevirtual 233, 3) := by decide +kernel
theorem dX6_count_5 : decode cX6_count 5 = .ok (.ireturn, 1) := by decide +kernel
theorem dX6_mix_0 : decode cX6_mix 0 = .ok (.aload_n 0, 1) := by decide +kernel
theorem dX6_mix_1 : decode cX6_mix 1 = .ok (.ldc2_w 236, 3) := by decide +kernel
theorem dX6_mix_4 : decode cX6_mix 4 = .ok (.aload_n 0, 1) := by decide +kernel
theorem dX6_mix_5 : decode cX6_mix 5 = .ok (.getfield 238, 3) := by decide +kernel
theorem dX6_mix_8 : decode cX6_mix 8 = .ok (.lmul, 1) := by decide +kernel
theorem dX6_mix_9 : decode cX6_mix 9 = .ok (.lload_n 1, 1) := by decide +kernel
theorem dX6_mix_10 : decode cX6_mix 10 = .ok (.ladd, 1) := by decide +kernel
theorem dX6_mix_11 : decode cX6_mix 11 = .ok (.putfield 238, 3) := by decide +kernel
theorem dX6_mix_14 : decode cX6_mix 14 = .ok (.return_, 1) := by decide +kernel
set_option maxRecDepth 20000 in
theorem ggX6_mixNode_X6_treeOf : GoodIn wsX6_mixNode wsX6_treeOf := goodIn_r _ [6, 1, 7, 8, 9, 10, 5, 11, 12, 13, 14, 15, 16, 17, 18, 19, 20, 21, 22, 23, 24, 25, 26, 27, 28, 29, 30, 31, 84, 85, 86, 87, 88, 89, 90, 91, 92, 93, 94, 95, 96, 97, 98, 99, 100, 101, 102, 103, 104, 105, 106, 107, 108, 109, 110, 111, 112, 113, 114, 115, 116, 117] (by decide +kernel) (by decide +kernel)
set_option maxRecDepth 20000 in
theorem gX6_mixNode_X6_treeOf : GoodIn wsX6_mixNode (wsV RX6 153 RX6 yX6_treeOf wsX6_treeOf) := goodIn_app (goodIn_of _ (by decide +kernel)) ggX6_mixNode_X6_treeOf
set_option maxRecDepth 20000 in
theorem ggX6_mixNode_X6_mix : GoodIn wsX6_mixNode wsX6_mix := goodIn_r _ [35, 36, 37, 84, 85, 86, 87, 88, 89, 90, 91, 92, 93, 94, 95, 96, 97, 98, 99, 100, 101, 102, 103, 104, 105, 106, 107, 108, 109, 110, 111, 112, 113, 114, 115, 116, 117] (by decide +kernel) (by decide +kernel)
set_option maxRecDepth 20000 in
theorem gX6_mixNode_X6_mix : GoodIn wsX6_mixNode (wsV RX6 241 RX6 yX6_mix wsX6_mix) := goodIn_app (goodIn_of _ (by decide +kernel)) ggX6_mixNode_X6_mix
set_option maxRecDepth 20000 in
theorem ggX6_mixNode_X6_laySpread : GoodIn wsX6_mixNode wsX6_laySpread := goodIn_r _ [41, 42, 43, 44, 45, 46, 47, 21, 48, 49, 50, 51, 5, 52, 53, 54, 9, 10, 11, 55, 56, 57, 58, 59, 60, 61, 62, 63, 23, 22, 84, 85, 86, 87, 88, 89, 90, 91, 92, 93, 94, 95, 96, 97, 98, 99, 100, 101, 102, 103, 104, 105, 106, 107, 108, 109, 110, 111, 112, 113, 114, 115, 116, 117] (by decide +kernel) (by decide +kernel)
set_option maxRecDepth 20000 in
theorem gX6_mixNode_X6_laySpread : GoodIn wsX6_mixNode (wsV RX6 204 RX6 yX6_laySpread wsX6_laySpread) := goodIn_app (goodIn_of _ (by decide +kernel)) ggX6_mixNode_X6_laySpread
set_option maxRecDepth 20000 in
theorem ggX6_mixNode_X6_spreadNow : GoodIn wsX6_mixNode wsX6_spreadNow := goodIn_r _ [67, 42, 43, 44, 45, 46, 48, 47, 68, 69, 5, 70, 71, 72, 73, 74, 75, 76, 77, 78, 79, 84, 85, 86, 87, 88, 89, 90, 91, 92, 93, 94, 95, 96, 97, 98, 99, 100, 101, 102, 103, 104, 105, 106, 107, 108, 109, 110, 111, 112, 113, 114, 115, 116, 117] (by decide +kernel) (by decide +kernel)
set_option maxRecDepth 20000 in
theorem gX6_mixNode_X6_spreadNow : GoodIn wsX6_mixNode (wsV RX6 208 RX6 yX6_spreadNow wsX6_spreadNow) := goodIn_app (goodIn_of _ (by decide +kernel)) ggX6_mixNode_X6_spreadNow
set_option maxRecDepth 20000 in
theorem ggX6_mixNode_X6_bestOf : GoodIn wsX6_mixNode wsX6_bestOf := goodIn_r _ [83, 44, 42, 38, 39, 40, 5, 41, 43, 45, 46, 47, 21, 48, 49, 50, 51, 52, 53, 54, 9, 10, 11, 55, 56, 57, 58, 59, 60, 61, 62, 63, 23, 22, 68, 69, 70, 84, 85, 86, 87, 88, 89, 90, 91, 92, 93, 94, 95, 96, 97, 98, 99, 100, 101, 102, 103, 104, 105, 106, 107, 108, 109, 110, 111, 112, 113, 114, 115, 116, 117] (by decide +kernel) (by decide +kernel)
set_option maxRecDepth 20000 in
theorem gX6_mixNode_X6_bestOf : GoodIn wsX6_mixNode (wsV RX6 211 RX6 yX6_bestOf wsX6_bestOf) := goodIn_app (goodIn_of _ (by decide +kernel)) ggX6_mixNode_X6_bestOf
theorem dX6_mixNode_0 : decode cX6_mixNode 0 = .ok (.aload_n 0, 1) := by decide +kernel
theorem dX6_mixNode_1 : decode cX6_mixNode 1 = .ok (.iload_n 1, 1) := by decide +kernel
theorem dX6_mixNode_2 : decode cX6_mixNode 2 = .ok (.iconst 1, 1) := by decide +kernel
theorem dX6_mixNode_3 : decode cX6_mixNode 3 = .ok (.aload_n 0, 1) := by decide +kernel
theorem dX6_mixNode_4 : decode cX6_mixNode 4 = .ok (.getfield 82, 3) := by decide +kernel
theorem dX6_mixNode_7 : decode cX6_mixNode 7 = .ok (.ishl, 1) := by decide +kernel
theorem dX6_mixNode_8 : decode cX6_mixNode 8 = .ok (.iconst 1, 1) := by decide +kernel
theorem dX6_mixNode_9 : decode cX6_mixNode 9 = .ok (.isub, 1) := by decide +kernel
theorem dX6_mixNode_10 : decode cX6_mixNode 10 = .ok (.invokevirtual 153, 3) := by decide +kernel
theorem dX6_mixNode_13 : decode cX6_mixNode 13 = .ok (.istore_n 2, 1) := by decide +kernel
theorem dX6_mixNode_14 : decode cX6_mixNode 14 = .ok (.aload_n 0, 1) := by decide +kernel
theorem dX6_mixNode_15 : decode cX6_mixNode 15 = .ok (.iload_n 2, 1) := by decide +kernel
theorem dX6_mixNode_16 : decode cX6_mixNode 16 = .ok (.i2l, 1) := by decide +kernel
theorem dX6_mixNode_17 : decode cX6_mixNode 17 = .ok (.invokevirtual 241, 3) := by decide +kernel
theorem dX6_mixNode_20 : decode cX6_mixNode 20 = .ok (.iconst 0, 1) := by decide +kernel
theorem dX6_mixNode_21 : decode cX6_mixNode 21 = .ok (.istore_n 3, 1) := by decide +kernel
theorem dX6_mixNode_22 : decode cX6_mixNode 22 = .ok (.iload_n 3, 1) := by decide +kernel
theorem dX6_mixNode_23 : decode cX6_mixNode 23 = .ok (.iconst 3, 1) := by decide +kernel
theorem dX6_mixNode_24 : decode cX6_mixNode 24 = .ok (.if_icmp .ge 44, 3) := by decide +kernel
theorem dX6_mixNode_27 : decode cX6_mixNode 27 = .ok (.aload_n 0, 1) := by decide +kernel
theorem dX6_mixNode_28 : decode cX6_mixNode 28 = .ok (.iload_n 1, 1) := by decide +kernel
theorem dX6_mixNode_29 : decode cX6_mixNode 29 = .ok (.iload_n 2, 1) := by decide +kernel
theorem dX6_mixNode_30 : decode cX6_mixNode 30 = .ok (.iload_n 3, 1) := by decide +kernel
theorem dX6_mixNode_31 : decode cX6_mixNode 31 = .ok (.iconst 0, 1) := by decide +kernel
theorem dX6_mixNode_32 : decode cX6_mixNode 32 = .ok (.invokevirtual 204, 3) := by decide +kernel
theorem dX6_mixNode_35 : decode cX6_mixNode 35 = .ok (.iconst 0, 1) := by decide +kernel
theorem dX6_mixNode_36 : decode cX6_mixNode 36 = .ok (.istore 4, 2) := by decide +kernel
theorem dX6_mixNode_38 : decode cX6_mixNode 38 = .ok (.iload 4, 2) := by decide +kernel
theorem dX6_mixNode_40 : decode cX6_mixNode 40 = .ok (.bipush 9, 2) := by decide +kernel
theorem dX6_mixNode_42 : decode cX6_mixNode 42 = .ok (.if_icmp .ge 20, 3) := by decide +kernel
theorem dX6_mixNode_45 : decode cX6_mixNode 45 = .ok (.aload_n 0, 1) := by decide +kernel
theorem dX6_mixNode_46 : decode cX6_mixNode 46 = .ok (.aload_n 0, 1) := by decide +kernel
theorem dX6_mixNode_47 : decode cX6_mixNode 47 = .ok (.iload 4, 2) := by decide +kernel
theorem dX6_mixNode_49 : decode cX6_mixNode 49 = .ok (.invokevirtual 208, 3) := by decide +kernel
theorem dX6_mixNode_52 : decode cX6_mixNode 52 = .ok (.i2l, 1) := by decide +kernel
theorem dX6_mixNode_53 : decode cX6_mixNode 53 = .ok (.invokevirtual 241, 3) := by decide +kernel
theorem dX6_mixNode_56 : decode cX6_mixNode 56 = .ok (.iinc 4 1, 3) := by decide +kernel
theorem dX6_mixNode_59 : decode cX6_mixNode 59 = .ok (.goto (-21), 3) := by decide +kernel
theorem dX6_mixNode_62 : decode cX6_mixNode 62 = .ok (.iinc 3 1, 3) := by decide +kernel
theorem dX6_mixNode_65 : decode cX6_mixNode 65 = .ok (.goto (-43), 3) := by decide +kernel
theorem dX6_mixNode_68 : decode cX6_mixNode 68 = .ok (.aload_n 0, 1) := by decide +kernel
theorem dX6_mixNode_69 : decode cX6_mixNode 69 = .ok (.aload_n 0, 1) := by decide +kernel
theorem dX6_mixNode_70 : decode cX6_mixNode 70 = .ok (.iload_n 1, 1) := by decide +kernel
theorem dX6_mixNode_71 : decode cX6_mixNode 71 = .ok (.iload_n 2, 1) := by decide +kernel
theorem dX6_mixNode_72 : decode cX6_mixNode 72 = .ok (.iconst 0, 1) := by decide +kernel
theorem dX6_mixNode_73 : decode cX6_mixNode 73 = .ok (.invokevirtual 211, 3) := by decide +kernel
theorem dX6_mixNode_76 : decode cX6_mixNode 76 = .ok (.i2l, 1) := by decide +kernel
theorem dX6_mixNode_77 : decode cX6_mixNode 77 = .ok (.invokevirtual 241, 3) := by decide +kernel
theorem dX6_mixNode_80 : decode cX6_mixNode 80 = .ok (.aload_n 0, 1) := by decide +kernel
theorem dX6_mixNode_81 : decode cX6_mixNode 81 = .ok (.aload_n 0, 1) := by decide +kernel
theorem dX6_mixNode_82 : decode cX6_mixNode 82 = .ok (.iload_n 1, 1) := by decide +kernel
theorem dX6_mixNode_83 : decode cX6_mixNode 83 = .ok (.iload_n 2, 1) := by decide +kernel
theorem dX6_mixNode_84 : decode cX6_mixNode 84 = .ok (.iconst 1, 1) := by decide +kernel
theorem dX6_mixNode_85 : decode cX6_mixNode 85 = .ok (.invokevirtual 211, 3) := by decide +kernel
theorem dX6_mixNode_88 : decode cX6_mixNode 88 = .ok (.i2l, 1) := by decide +kernel
theorem dX6_mixNode_89 : decode cX6_mixNode 89 = .ok (.invokevirtual 241, 3) := by decide +kernel
theorem dX6_mixNode_92 : decode cX6_mixNode 92 = .ok (.return_, 1) := by decide +kernel
set_option maxRecDepth 20000 in
theorem ggX6_digest_X6_linkNow : GoodIn wsX6_digest wsX6_linkNow := goodIn_r _ [13, 14, 15, 16, 17, 18, 12, 19, 5, 20, 21, 22, 113, 114, 115, 116, 117, 118, 119, 120, 121, 122, 123, 124, 125, 126, 127, 128, 129, 130, 131, 132, 133, 134, 135, 136, 137, 138, 139, 140, 141, 142, 143, 144, 145, 146] (by decide +kernel) (by decide +kernel)
set_option maxRecDepth 20000 in
theorem gX6_digest_X6_linkNow : GoodIn wsX6_digest (wsV RX6 126 RX6 yX6_linkNow wsX6_linkNow) := goodIn_app (goodIn_of _ (by decide +kernel)) ggX6_digest_X6_linkNow
set_option maxRecDepth 20000 in
theorem ggX6_digest_X6_mix : GoodIn wsX6_digest wsX6_mix := goodIn_r _ [26, 27, 2, 113, 114, 115, 116, 117, 118, 119, 120, 121, 122, 123, 124, 125, 126, 127, 128, 129, 130, 131, 132, 133, 134, 135, 136, 137, 138, 139, 140, 141, 142, 143, 144, 145, 146] (by decide +kernel) (by decide +kernel)
set_option maxRecDepth 20000 in
theorem gX6_digest_X6_mix : GoodIn wsX6_digest (wsV RX6 241 RX6 yX6_mix wsX6_mix) := goodIn_app (goodIn_of _ (by decide +kernel)) ggX6_digest_X6_mix
set_option maxRecDepth 20000 in
theorem ggX6_digest_X6_mixNode : GoodIn wsX6_digest wsX6_mixNode := goodIn_r _ [31, 6, 32, 33, 34, 12, 35, 36, 37, 20, 21, 22, 38, 39, 40, 41, 42, 43, 44, 45, 46, 3, 15, 14, 47, 48, 49, 50, 51, 52, 53, 54, 23, 24, 25, 26, 27, 2, 55, 56, 57, 58, 59, 60, 61, 62, 63, 64, 65, 66, 67, 68, 69, 5, 4, 70, 71, 72, 73, 74, 75, 76, 77, 78, 79, 80, 81, 82, 83, 84, 85, 86, 87, 88, 89, 90, 91, 92, 93, 94, 95, 96, 97, 98, 113, 114, 115, 116, 117, 118, 119, 120, 121, 122, 123, 124, 125, 126, 127, 128, 129, 130, 131, 132, 133, 134, 135, 136, 137, 138, 139, 140, 141, 142, 143, 144, 145, 146] (by decide +kernel) (by decide +kernel)
set_option maxRecDepth 20000 in
theorem gX6_digest_X6_mixNode : GoodIn wsX6_digest (wsV RX6 247 RX6 yX6_mixNode wsX6_mixNode) := goodIn_app (goodIn_of _ (by decide +kernel)) ggX6_digest_X6_mixNode
set_option maxRecDepth 20000 in
theorem ggX6_digest_X6_howMany : GoodIn wsX6_digest wsX6_howMany := goodIn_r _ [102, 6, 3, 7, 91, 90, 103, 104, 105, 106, 107, 108, 109, 110, 111, 12, 112, 5, 113, 114, 115, 116, 117, 118, 119, 120, 121, 122, 123, 124, 125, 126, 127, 128, 129, 130, 131, 132, 133, 134, 135, 136, 137, 138, 139, 140, 141, 142, 143, 144, 145, 146] (by decide +kernel) (by decide +kernel)
set_option maxRecDepth 20000 in
theorem gX6_digest_X6_howMany : GoodIn wsX6_digest (wsV RX6 233 RX6 yX6_howMany wsX6_howMany) := goodIn_app (goodIn_of _ (by decide +kernel)) ggX6_digest_X6_howMany
theorem dX6_digest_0 : decode cX6_digest 0 = .ok (.aload_n 0, 1) := by decide +kernel
theorem dX6_digest_1 : decode cX6_digest 1 = .ok (.ldc2_w 245, 3) := by decide +kernel
theorem dX6_digest_4 : decode cX6_digest 4 = .ok (.putfield 238, 3) := by decide +kernel
theorem dX6_digest_7 : decode cX6_digest 7 = .ok (.iconst 0, 1) := by decide +kernel
theorem dX6_digest_8 : decode cX6_digest 8 = .ok (.istore_n 1, 1) := by decide +kernel
theorem dX6_digest_9 : decode cX6_digest 9 = .ok (.iload_n 1, 1) := by decide +kernel
theorem dX6_digest_10 : decode cX6_digest 10 = .ok (.aload_n 0, 1) := by decide +kernel
theorem dX6_digest_11 : decode cX6_digest 11 = .ok (.getfield 85, 3) := by decide +kernel
theorem dX6_digest_14 : decode cX6_digest 14 = .ok (.if_icmp .ge 61, 3) := by decide +kernel
theorem dX6_digest_17 : decode cX6_digest 17 = .ok (.iconst 0, 1) := by decide +kernel
theorem dX6_digest_18 : decode cX6_digest 18 = .ok (.istore_n 2, 1) := by decide +kernel
theorem dX6_digest_19 : decode cX6_digest 19 = .ok (.iload_n 2, 1) := by decide +kernel
theorem dX6_digest_20 : decode cX6_digest 20 = .ok (.iconst 3, 1) := by decide +kernel
theorem dX6_digest_21 : decode cX6_digest 21 = .ok (.if_icmp .ge 20, 3) := by decide +kernel
theorem dX6_digest_24 : decode cX6_digest 24 = .ok (.aload_n 0, 1) := by decide +kernel
theorem dX6_digest_25 : decode cX6_digest 25 = .ok (.aload_n 0, 1) := by decide +kernel
theorem dX6_digest_26 : decode cX6_digest 26 = .ok (.iload_n 1, 1) := by decide +kernel
theorem dX6_digest_27 : decode cX6_digest 27 = .ok (.iload_n 2, 1) := by decide +kernel
theorem dX6_digest_28 : decode cX6_digest 28 = .ok (.invokevirtual 126, 3) := by decide +kernel
theorem dX6_digest_31 : decode cX6_digest 31 = .ok (.i2l, 1) := by decide +kernel
theorem dX6_digest_32 : decode cX6_digest 32 = .ok (.invokevirtual 241, 3) := by decide +kernel
theorem dX6_digest_35 : decode cX6_digest 35 = .ok (.iinc 2 1, 3) := by decide +kernel
theorem dX6_digest_38 : decode cX6_digest 38 = .ok (.goto (-19), 3) := by decide +kernel
theorem dX6_digest_41 : decode cX6_digest 41 = .ok (.iconst 0, 1) := by decide +kernel
theorem dX6_digest_42 : decode cX6_digest 42 = .ok (.istore_n 2, 1) := by decide +kernel
theorem dX6_digest_43 : decode cX6_digest 43 = .ok (.iload_n 2, 1) := by decide +kernel
theorem dX6_digest_44 : decode cX6_digest 44 = .ok (.iconst 3, 1) := by decide +kernel
theorem dX6_digest_45 : decode cX6_digest 45 = .ok (.if_icmp .ge 24, 3) := by decide +kernel
theorem dX6_digest_48 : decode cX6_digest 48 = .ok (.aload_n 0, 1) := by decide +kernel
theorem dX6_digest_49 : decode cX6_digest 49 = .ok (.aload_n 0, 1) := by decide +kernel
theorem dX6_digest_50 : decode cX6_digest 50 = .ok (.getfield 38, 3) := by decide +kernel
theorem dX6_digest_53 : decode cX6_digest 53 = .ok (.bipush 20, 2) := by decide +kernel
theorem dX6_digest_55 : decode cX6_digest 55 = .ok (.iload_n 2, 1) := by decide +kernel
theorem dX6_digest_56 : decode cX6_digest 56 = .ok (.imul, 1) := by decide +kernel
theorem dX6_digest_57 : decode cX6_digest 57 = .ok (.iload_n 1, 1) := by decide +kernel
theorem dX6_digest_58 : decode cX6_digest 58 = .ok (.iadd, 1) := by decide +kernel
theorem dX6_digest_59 : decode cX6_digest 59 = .ok (.laload, 1) := by decide +kernel
theorem dX6_digest_60 : decode cX6_digest 60 = .ok (.invokevirtual 241, 3) := by decide +kernel
theorem dX6_digest_63 : decode cX6_digest 63 = .ok (.iinc 2 1, 3) := by decide +kernel
theorem dX6_digest_66 : decode cX6_digest 66 = .ok (.goto (-23), 3) := by decide +kernel
theorem dX6_digest_69 : decode cX6_digest 69 = .ok (.iinc 1 1, 3) := by decide +kernel
theorem dX6_digest_72 : decode cX6_digest 72 = .ok (.goto (-63), 3) := by decide +kernel
theorem dX6_digest_75 : decode cX6_digest 75 = .ok (.iconst 0, 1) := by decide +kernel
theorem dX6_digest_76 : decode cX6_digest 76 = .ok (.istore_n 1, 1) := by decide +kernel
theorem dX6_digest_77 : decode cX6_digest 77 = .ok (.iload_n 1, 1) := by decide +kernel
theorem dX6_digest_78 : decode cX6_digest 78 = .ok (.iconst 4, 1) := by decide +kernel
theorem dX6_digest_79 : decode cX6_digest 79 = .ok (.if_icmp .ge 55, 3) := by decide +kernel
theorem dX6_digest_82 : decode cX6_digest 82 = .ok (.aload_n 0, 1) := by decide +kernel
theorem dX6_digest_83 : decode cX6_digest 83 = .ok (.getfield 29, 3) := by decide +kernel
theorem dX6_digest_86 : decode cX6_digest 86 = .ok (.iload_n 1, 1) := by decide +kernel
theorem dX6_digest_87 : decode cX6_digest 87 = .ok (.iaload, 1) := by decide +kernel
theorem dX6_digest_88 : decode cX6_digest 88 = .ok (.ifCond .eq 40, 3) := by decide +kernel
theorem dX6_digest_91 : decode cX6_digest 91 = .ok (.aload_n 0, 1) := by decide +kernel
theorem dX6_digest_92 : decode cX6_digest 92 = .ok (.iload_n 1, 1) := by decide +kernel
theorem dX6_digest_93 : decode cX6_digest 93 = .ok (.i2l, 1) := by decide +kernel
theorem dX6_digest_94 : decode cX6_digest 94 = .ok (.invokevirtual 241, 3) := by decide +kernel
theorem dX6_digest_97 : decode cX6_digest 97 = .ok (.iconst 0, 1) := by decide +kernel
theorem dX6_digest_98 : decode cX6_digest 98 = .ok (.istore_n 2, 1) := by decide +kernel
theorem dX6_digest_99 : decode cX6_digest 99 = .ok (.iload_n 2, 1) := by decide +kernel
theorem dX6_digest_100 : decode cX6_digest 100 = .ok (.iconst 3, 1) := by decide +kernel
theorem dX6_digest_101 : decode cX6_digest 101 = .ok (.if_icmp .ge 27, 3) := by decide +kernel
theorem dX6_digest_104 : decode cX6_digest 104 = .ok (.aload_n 0, 1) := by decide +kernel
theorem dX6_digest_105 : decode cX6_digest 105 = .ok (.aload_n 0, 1) := by decide +kernel
theorem dX6_digest_106 : decode cX6_digest 106 = .ok (.getfield 38, 3) := by decide +kernel
theorem dX6_digest_109 : decode cX6_digest 109 = .ok (.bipush 20, 2) := by decide +kernel
theorem dX6_digest_111 : decode cX6_digest 111 = .ok (.iload_n 2, 1) := by decide +kernel
theorem dX6_digest_112 : decode cX6_digest 112 = .ok (.imul, 1) := by decide +kernel
theorem dX6_digest_113 : decode cX6_digest 113 = .ok (.bipush 16, 2) := by decide +kernel
theorem dX6_digest_115 : decode cX6_digest 115 = .ok (.iadd, 1) := by decide +kernel
theorem dX6_digest_116 : decode cX6_digest 116 = .ok (.iload_n 1, 1) := by decide +kernel
theorem dX6_digest_117 : decode cX6_digest 117 = .ok (.iadd, 1) := by decide +kernel
theorem dX6_digest_118 : decode cX6_digest 118 = .ok (.laload, 1) := by decide +kernel
theorem dX6_digest_119 : decode cX6_digest 119 = .ok (.invokevirtual 241, 3) := by decide +kernel
theorem dX6_digest_122 : decode cX6_digest 122 = .ok (.iinc 2 1, 3) := by decide +kernel
theorem dX6_digest_125 : decode cX6_digest 125 = .ok (.goto (-26), 3) := by decide +kernel
theorem dX6_digest_128 : decode cX6_digest 128 = .ok (.iinc 1 1, 3) := by decide +kernel
theorem dX6_digest_131 : decode cX6_digest 131 = .ok (.goto (-54), 3) := by decide +kernel
theorem dX6_digest_134 : decode cX6_digest 134 = .ok (.iconst 0, 1) := by decide +kernel
theorem dX6_digest_135 : decode cX6_digest 135 = .ok (.istore_n 1, 1) := by decide +kernel
theorem dX6_digest_136 : decode cX6_digest 136 = .ok (.iload_n 1, 1) := by decide +kernel
theorem dX6_digest_137 : decode cX6_digest 137 = .ok (.aload_n 0, 1) := by decide +kernel
theorem dX6_digest_138 : decode cX6_digest 138 = .ok (.getfield 82, 3) := by decide +kernel
theorem dX6_digest_141 : decode cX6_digest 141 = .ok (.if_icmp .ge 14, 3) := by decide +kernel
theorem dX6_digest_144 : decode cX6_digest 144 = .ok (.aload_n 0, 1) := by decide +kernel
theorem dX6_digest_145 : decode cX6_digest 145 = .ok (.iload_n 1, 1) := by decide +kernel
theorem dX6_digest_146 : decode cX6_digest 146 = .ok (.invokevirtual 247, 3) := by decide +kernel
theorem dX6_digest_149 : decode cX6_digest 149 = .ok (.iinc 1 1, 3) := by decide +kernel
theorem dX6_digest_152 : decode cX6_digest 152 = .ok (.goto (-16), 3) := by decide +kernel
theorem dX6_digest_155 : decode cX6_digest 155 = .ok (.iconst 0, 1) := by decide +kernel
theorem dX6_digest_156 : decode cX6_digest 156 = .ok (.istore_n 1, 1) := by decide +kernel
theorem dX6_digest_157 : decode cX6_digest 157 = .ok (.iload_n 1, 1) := by decide +kernel
theorem dX6_digest_158 : decode cX6_digest 158 = .ok (.aload_n 0, 1) := by decide +kernel
theorem dX6_digest_159 : decode cX6_digest 159 = .ok (.getfield 52, 3) := by decide +kernel
theorem dX6_digest_162 : decode cX6_digest 162 = .ok (.if_icmp .ge 20, 3) := by decide +kernel
theorem dX6_digest_165 : decode cX6_digest 165 = .ok (.aload_n 0, 1) := by decide +kernel
theorem dX6_digest_166 : decode cX6_digest 166 = .ok (.aload_n 0, 1) := by decide +kernel
theorem dX6_digest_167 : decode cX6_digest 167 = .ok (.getfield 7, 3) := by decide +kernel
theorem dX6_digest_170 : decode cX6_digest 170 = .ok (.iload_n 1, 1) := by decide +kernel
theorem dX6_digest_171 : decode cX6_digest 171 = .ok (.iaload, 1) := by decide +kernel
theorem dX6_digest_172 : decode cX6_digest 172 = .ok (.i2l, 1) := by decide +kernel
theorem dX6_digest_173 : decode cX6_digest 173 = .ok (.invokevirtual 241, 3) := by decide +kernel
theorem dX6_digest_176 : decode cX6_digest 176 = .ok (.iinc 1 1, 3) := by decide +kernel
theorem dX6_digest_179 : decode cX6_digest 179 = .ok (.goto (-22), 3) := by decide +kernel
theorem dX6_digest_182 : decode cX6_digest 182 = .ok (.iconst 0, 1) := by decide +kernel
theorem dX6_digest_183 : decode cX6_digest 183 = .ok (.istore_n 1, 1) := by decide +kernel
theorem dX6_digest_184 : decode cX6_digest 184 = .ok (.iload_n 1, 1) := by decide +kernel
theorem dX6_digest_185 : decode cX6_digest 185 = .ok (.bipush 12, 2) := by decide +kernel
theorem dX6_digest_187 : decode cX6_digest 187 = .ok (.if_icmp .ge 19, 3) := by decide +kernel
theorem dX6_digest_190 : decode cX6_digest 190 = .ok (.aload_n 0, 1) := by decide +kernel
theorem dX6_digest_191 : decode cX6_digest 191 = .ok (.aload_n 0, 1) := by decide +kernel
theorem dX6_digest_192 : decode cX6_digest 192 = .ok (.iload_n 1, 1) := by decide +kernel
theorem dX6_digest_193 : decode cX6_digest 193 = .ok (.invokevirtual 233, 3) := by decide +kernel
theorem dX6_digest_196 : decode cX6_digest 196 = .ok (.i2l, 1) := by decide +kernel
theorem dX6_digest_197 : decode cX6_digest 197 = .ok (.invokevirtual 241, 3) := by decide +kernel
theorem dX6_digest_200 : decode cX6_digest 200 = .ok (.iinc 1 1, 3) := by decide +kernel
theorem dX6_digest_203 : decode cX6_digest 203 = .ok (.goto (-19), 3) := by decide +kernel
theorem dX6_digest_206 : decode cX6_digest 206 = .ok (.aload_n 0, 1) := by decide +kernel
theorem dX6_digest_207 : decode cX6_digest 207 = .ok (.getfield 238, 3) := by decide +kernel
theorem dX6_digest_210 : decode cX6_digest 210 = .ok (.lreturn, 1) := by decide +kernel
theorem dJ6_bitCount_0f7a4_0 : decode cJ6_bitCount_0f7a4 0 = .ok (.iload_n 0, 1) := by decide +kernel
theorem dJ6_bitCount_0f7a4_1 : decode cJ6_bitCount_0f7a4 1 = .ok (.iload_n 0, 1) := by decide +kernel
theorem dJ6_bitCount_0f7a4_2 : decode cJ6_bitCount_0f7a4 2 = .ok (.iconst 1, 1) := by decide +kernel
theorem dJ6_bitCount_0f7a4_3 : decode cJ6_bitCount_0f7a4 3 = .ok (.iushr, 1) := by decide +kernel
theorem dJ6_bitCount_0f7a4_4 : decode cJ6_bitCount_0f7a4 4 = .ok (.ldc_w 265, 3) := by decide +kernel
theorem dJ6_bitCount_0f7a4_7 : decode cJ6_bitCount_0f7a4 7 = .ok (.iand, 1) := by decide +kernel
theorem dJ6_bitCount_0f7a4_8 : decode cJ6_bitCount_0f7a4 8 = .ok (.isub, 1) := by decide +kernel
theorem dJ6_bitCount_0f7a4_9 : decode cJ6_bitCount_0f7a4 9 = .ok (.istore_n 0, 1) := by decide +kernel
theorem dJ6_bitCount_0f7a4_10 : decode cJ6_bitCount_0f7a4 10 = .ok (.iload_n 0, 1) := by decide +kernel
theorem dJ6_bitCount_0f7a4_11 : decode cJ6_bitCount_0f7a4 11 = .ok (.ldc_w 266, 3) := by decide +kernel
theorem dJ6_bitCount_0f7a4_14 : decode cJ6_bitCount_0f7a4 14 = .ok (.iand, 1) := by decide +kernel
theorem dJ6_bitCount_0f7a4_15 : decode cJ6_bitCount_0f7a4 15 = .ok (.iload_n 0, 1) := by decide +kernel
theorem dJ6_bitCount_0f7a4_16 : decode cJ6_bitCount_0f7a4 16 = .ok (.iconst 2, 1) := by decide +kernel
theorem dJ6_bitCount_0f7a4_17 : decode cJ6_bitCount_0f7a4 17 = .ok (.iushr, 1) := by decide +kernel
theorem dJ6_bitCount_0f7a4_18 : decode cJ6_bitCount_0f7a4 18 = .ok (.ldc_w 266, 3) := by decide +kernel
theorem dJ6_bitCount_0f7a4_21 : decode cJ6_bitCount_0f7a4 21 = .ok (.iand, 1) := by decide +kernel
theorem dJ6_bitCount_0f7a4_22 : decode cJ6_bitCount_0f7a4 22 = .ok (.iadd, 1) := by decide +kernel
theorem dJ6_bitCount_0f7a4_23 : decode cJ6_bitCount_0f7a4 23 = .ok (.istore_n 0, 1) := by decide +kernel
theorem dJ6_bitCount_0f7a4_24 : decode cJ6_bitCount_0f7a4 24 = .ok (.iload_n 0, 1) := by decide +kernel
theorem dJ6_bitCount_0f7a4_25 : decode cJ6_bitCount_0f7a4 25 = .ok (.iload_n 0, 1) := by decide +kernel
theorem dJ6_bitCount_0f7a4_26 : decode cJ6_bitCount_0f7a4 26 = .ok (.iconst 4, 1) := by decide +kernel
theorem dJ6_bitCount_0f7a4_27 : decode cJ6_bitCount_0f7a4 27 = .ok (.iushr, 1) := by decide +kernel
theorem dJ6_bitCount_0f7a4_28 : decode cJ6_bitCount_0f7a4 28 = .ok (.iadd, 1) := by decide +kernel
theorem dJ6_bitCount_0f7a4_29 : decode cJ6_bitCount_0f7a4 29 = .ok (.ldc_w 267, 3) := by decide +kernel
theorem dJ6_bitCount_0f7a4_32 : decode cJ6_bitCount_0f7a4 32 = .ok (.iand, 1) := by decide +kernel
theorem dJ6_bitCount_0f7a4_33 : decode cJ6_bitCount_0f7a4 33 = .ok (.istore_n 0, 1) := by decide +kernel
theorem dJ6_bitCount_0f7a4_34 : decode cJ6_bitCount_0f7a4 34 = .ok (.iload_n 0, 1) := by decide +kernel
theorem dJ6_bitCount_0f7a4_35 : decode cJ6_bitCount_0f7a4 35 = .ok (.iload_n 0, 1) := by decide +kernel
theorem dJ6_bitCount_0f7a4_36 : decode cJ6_bitCount_0f7a4 36 = .ok (.bipush 8, 2) := by decide +kernel
theorem dJ6_bitCount_0f7a4_38 : decode cJ6_bitCount_0f7a4 38 = .ok (.iushr, 1) := by decide +kernel
theorem dJ6_bitCount_0f7a4_39 : decode cJ6_bitCount_0f7a4 39 = .ok (.iadd, 1) := by decide +kernel
theorem dJ6_bitCount_0f7a4_40 : decode cJ6_bitCount_0f7a4 40 = .ok (.istore_n 0, 1) := by decide +kernel
theorem dJ6_bitCount_0f7a4_41 : decode cJ6_bitCount_0f7a4 41 = .ok (.iload_n 0, 1) := by decide +kernel
theorem dJ6_bitCount_0f7a4_42 : decode cJ6_bitCount_0f7a4 42 = .ok (.iload_n 0, 1) := by decide +kernel
theorem dJ6_bitCount_0f7a4_43 : decode cJ6_bitCount_0f7a4 43 = .ok (.bipush 16, 2) := by decide +kernel
theorem dJ6_bitCount_0f7a4_45 : decode cJ6_bitCount_0f7a4 45 = .ok (.iushr, 1) := by decide +kernel
theorem dJ6_bitCount_0f7a4_46 : decode cJ6_bitCount_0f7a4 46 = .ok (.iadd, 1) := by decide +kernel
theorem dJ6_bitCount_0f7a4_47 : decode cJ6_bitCount_0f7a4 47 = .ok (.istore_n 0, 1) := by decide +kernel
theorem dJ6_bitCount_0f7a4_48 : decode cJ6_bitCount_0f7a4 48 = .ok (.iload_n 0, 1) := by decide +kernel
theorem dJ6_bitCount_0f7a4_49 : decode cJ6_bitCount_0f7a4 49 = .ok (.bipush 63, 2) := by decide +kernel
theorem dJ6_bitCount_0f7a4_51 : decode cJ6_bitCount_0f7a4 51 = .ok (.iand, 1) := by decide +kernel
theorem dJ6_bitCount_0f7a4_52 : decode cJ6_bitCount_0f7a4 52 = .ok (.ireturn, 1) := by decide +kernel
theorem dJ13_bitCount_95d88_0 : decode cJ13_bitCount_95d88 0 = .ok (.lload_n 0, 1) := by decide +kernel
theorem dJ13_bitCount_95d88_1 : decode cJ13_bitCount_95d88 1 = .ok (.lload_n 0, 1) := by decide +kernel
theorem dJ13_bitCount_95d88_2 : decode cJ13_bitCount_95d88 2 = .ok (.iconst 1, 1) := by decide +kernel
theorem dJ13_bitCount_95d88_3 : decode cJ13_bitCount_95d88 3 = .ok (.lushr, 1) := by decide +kernel
theorem dJ13_bitCount_95d88_4 : decode cJ13_bitCount_95d88 4 = .ok (.ldc2_w 314, 3) := by decide +kernel
theorem dJ13_bitCount_95d88_7 : decode cJ13_bitCount_95d88 7 = .ok (.land, 1) := by decide +kernel
theorem dJ13_bitCount_95d88_8 : decode cJ13_bitCount_95d88 8 = .ok (.lsub, 1) := by decide +kernel
theorem dJ13_bitCount_95d88_9 : decode cJ13_bitCount_95d88 9 = .ok (.lstore_n 0, 1) := by decide +kernel
theorem dJ13_bitCount_95d88_10 : decode cJ13_bitCount_95d88 10 = .ok (.lload_n 0, 1) := by decide +kernel
theorem dJ13_bitCount_95d88_11 : decode cJ13_bitCount_95d88 11 = .ok (.ldc2_w 316, 3) := by decide +kernel
theorem dJ13_bitCount_95d88_14 : decode cJ13_bitCount_95d88 14 = .ok (.land, 1) := by decide +kernel
theorem dJ13_bitCount_95d88_15 : decode cJ13_bitCount_95d88 15 = .ok (.lload_n 0, 1) := by decide +kernel
theorem dJ13_bitCount_95d88_16 : decode cJ13_bitCount_95d88 16 = .ok (.iconst 2, 1) := by decide +kernel
theorem dJ13_bitCount_95d88_17 : decode cJ13_bitCount_95d88 17 = .ok (.lushr, 1) := by decide +kernel
theorem dJ13_bitCount_95d88_18 : decode cJ13_bitCount_95d88 18 = .ok (.ldc2_w 316, 3) := by decide +kernel
theorem dJ13_bitCount_95d88_21 : decode cJ13_bitCount_95d88 21 = .ok (.land, 1) := by decide +kernel
theorem dJ13_bitCount_95d88_22 : decode cJ13_bitCount_95d88 22 = .ok (.ladd, 1) := by decide +kernel
theorem dJ13_bitCount_95d88_23 : decode cJ13_bitCount_95d88 23 = .ok (.lstore_n 0, 1) := by decide +kernel
theorem dJ13_bitCount_95d88_24 : decode cJ13_bitCount_95d88 24 = .ok (.lload_n 0, 1) := by decide +kernel
theorem dJ13_bitCount_95d88_25 : decode cJ13_bitCount_95d88 25 = .ok (.lload_n 0, 1) := by decide +kernel
theorem dJ13_bitCount_95d88_26 : decode cJ13_bitCount_95d88 26 = .ok (.iconst 4, 1) := by decide +kernel
theorem dJ13_bitCount_95d88_27 : decode cJ13_bitCount_95d88 27 = .ok (.lushr, 1) := by decide +kernel
theorem dJ13_bitCount_95d88_28 : decode cJ13_bitCount_95d88 28 = .ok (.ladd, 1) := by decide +kernel
theorem dJ13_bitCount_95d88_29 : decode cJ13_bitCount_95d88 29 = .ok (.ldc2_w 318, 3) := by decide +kernel
theorem dJ13_bitCount_95d88_32 : decode cJ13_bitCount_95d88 32 = .ok (.land, 1) := by decide +kernel
theorem dJ13_bitCount_95d88_33 : decode cJ13_bitCount_95d88 33 = .ok (.lstore_n 0, 1) := by decide +kernel
theorem dJ13_bitCount_95d88_34 : decode cJ13_bitCount_95d88 34 = .ok (.lload_n 0, 1) := by decide +kernel
theorem dJ13_bitCount_95d88_35 : decode cJ13_bitCount_95d88 35 = .ok (.lload_n 0, 1) := by decide +kernel
theorem dJ13_bitCount_95d88_36 : decode cJ13_bitCount_95d88 36 = .ok (.bipush 8, 2) := by decide +kernel
theorem dJ13_bitCount_95d88_38 : decode cJ13_bitCount_95d88 38 = .ok (.lushr, 1) := by decide +kernel
theorem dJ13_bitCount_95d88_39 : decode cJ13_bitCount_95d88 39 = .ok (.ladd, 1) := by decide +kernel
theorem dJ13_bitCount_95d88_40 : decode cJ13_bitCount_95d88 40 = .ok (.lstore_n 0, 1) := by decide +kernel
theorem dJ13_bitCount_95d88_41 : decode cJ13_bitCount_95d88 41 = .ok (.lload_n 0, 1) := by decide +kernel
theorem dJ13_bitCount_95d88_42 : decode cJ13_bitCount_95d88 42 = .ok (.lload_n 0, 1) := by decide +kernel
theorem dJ13_bitCount_95d88_43 : decode cJ13_bitCount_95d88 43 = .ok (.bipush 16, 2) := by decide +kernel
theorem dJ13_bitCount_95d88_45 : decode cJ13_bitCount_95d88 45 = .ok (.lushr, 1) := by decide +kernel
theorem dJ13_bitCount_95d88_46 : decode cJ13_bitCount_95d88 46 = .ok (.ladd, 1) := by decide +kernel
theorem dJ13_bitCount_95d88_47 : decode cJ13_bitCount_95d88 47 = .ok (.lstore_n 0, 1) := by decide +kernel
theorem dJ13_bitCount_95d88_48 : decode cJ13_bitCount_95d88 48 = .ok (.lload_n 0, 1) := by decide +kernel
theorem dJ13_bitCount_95d88_49 : decode cJ13_bitCount_95d88 49 = .ok (.lload_n 0, 1) := by decide +kernel
theorem dJ13_bitCount_95d88_50 : decode cJ13_bitCount_95d88 50 = .ok (.bipush 32, 2) := by decide +kernel
theorem dJ13_bitCount_95d88_52 : decode cJ13_bitCount_95d88 52 = .ok (.lushr, 1) := by decide +kernel
theorem dJ13_bitCount_95d88_53 : decode cJ13_bitCount_95d88 53 = .ok (.ladd, 1) := by decide +kernel
theorem dJ13_bitCount_95d88_54 : decode cJ13_bitCount_95d88 54 = .ok (.lstore_n 0, 1) := by decide +kernel
theorem dJ13_bitCount_95d88_55 : decode cJ13_bitCount_95d88 55 = .ok (.lload_n 0, 1) := by decide +kernel
theorem dJ13_bitCount_95d88_56 : decode cJ13_bitCount_95d88 56 = .ok (.l2i, 1) := by decide +kernel
theorem dJ13_bitCount_95d88_57 : decode cJ13_bitCount_95d88 57 = .ok (.bipush 127, 2) := by decide +kernel
theorem dJ13_bitCount_95d88_59 : decode cJ13_bitCount_95d88 59 = .ok (.iand, 1) := by decide +kernel
theorem dJ13_bitCount_95d88_60 : decode cJ13_bitCount_95d88 60 = .ok (.ireturn, 1) := by decide +kernel
theorem dJ9_min_7cf53_0 : decode cJ9_min_7cf53 0 = .ok (.iload_n 0, 1) := by decide +kernel
theorem dJ9_min_7cf53_1 : decode cJ9_min_7cf53 1 = .ok (.iload_n 1, 1) := by decide +kernel
theorem dJ9_min_7cf53_2 : decode cJ9_min_7cf53 2 = .ok (.if_icmp .gt 7, 3) := by decide +kernel
theorem dJ9_min_7cf53_5 : decode cJ9_min_7cf53 5 = .ok (.iload_n 0, 1) := by decide +kernel
theorem dJ9_min_7cf53_6 : decode cJ9_min_7cf53 6 = .ok (.goto 4, 3) := by decide +kernel
theorem dJ9_min_7cf53_9 : decode cJ9_min_7cf53 9 = .ok (.iload_n 1, 1) := by decide +kernel
theorem dJ9_min_7cf53_10 : decode cJ9_min_7cf53 10 = .ok (.ireturn, 1) := by decide +kernel
set_option maxRecDepth 20000 in
theorem ggL_law_X5_init : GoodIn wsL_law wsX5_init := goodIn_r _ [8, 9, 10, 11, 12, 13, 14, 15, 16, 17, 18, 19, 20, 21, 22, 23, 24, 25, 26, 27, 28, 29, 30, 31, 32, 33, 34, 35, 36, 37, 38, 39, 40, 41, 42, 43, 44, 45, 46, 47, 48, 49, 50, 51, 52, 53, 54, 55, 56, 57, 58, 59, 60, 61, 62, 63, 64, 741, 742, 697, 698, 699, 700, 701, 702, 703, 704, 705, 706, 743, 744, 745, 746, 747, 748, 749, 750, 751, 752, 753, 754, 755, 756, 757, 758, 759, 760, 761, 762, 763] (by decide +kernel) (by decide +kernel)
set_option maxRecDepth 20000 in
theorem gL_law_X5_init : GoodIn wsL_law (wsX5_init) := ggL_law_X5_init
set_option maxRecDepth 20000 in
theorem ggL_law_X6_init : GoodIn wsL_law wsX6_init := goodIn_r _ [67, 68, 10, 11, 36, 69, 70, 71, 72, 73, 74, 75, 76, 77, 55, 78, 79, 80, 707, 708, 709, 710, 711, 712, 713, 714, 715, 716, 717, 718, 719, 720, 721, 722, 723, 724, 725, 726, 727, 728, 729, 730, 731, 732, 733, 734, 735, 736, 737, 738, 739, 740] (by decide +kernel) (by decide +kernel)
set_option maxRecDepth 20000 in
theorem gL_law_X6_init : GoodIn wsL_law (wsX6_init) := ggL_law_X6_init
set_option maxRecDepth 20000 in
theorem ggL_law_X5_letter : GoodIn wsL_law wsX5_letter := goodIn_r _ [84, 15, 85, 86, 87, 14, 88, 89, 90, 91, 92, 93, 37, 94, 95, 96, 97, 697, 698, 699, 700, 701, 702, 703, 704, 705, 706, 741, 742] (by decide +kernel) (by decide +kernel)
set_option maxRecDepth 20000 in
theorem gL_law_X5_letter : GoodIn wsL_law (wsV RL 13 RX5 yX5_letter wsX5_letter) := goodIn_app (goodIn_of _ (by decide +kernel)) ggL_law_X5_letter
set_option maxRecDepth 20000 in
theorem ggL_law_X6_letter : GoodIn wsL_law wsX6_letter := goodIn_r _ [101, 102, 69, 103, 104, 5, 105, 707, 708, 709, 710, 711, 712, 713, 714, 715, 716, 717, 718, 719, 720, 721, 722, 723, 724, 725, 726, 727, 728, 729, 730, 731, 732, 733, 734, 735, 736, 737, 738, 739, 740] (by decide +kernel) (by decide +kernel)
set_option maxRecDepth 20000 in
theorem gL_law_X6_letter : GoodIn wsL_law (wsV RL 17 RX6 yX6_letter wsX6_letter) := goodIn_app (goodIn_of _ (by decide +kernel)) ggL_law_X6_letter
set_option maxRecDepth 20000 in
theorem ggL_law_X5_blank : GoodIn wsL_law wsX5_blank := goodIn_r _ [109, 15, 94, 95, 96, 14, 97, 89, 110, 111, 112, 113, 697, 698, 699, 700, 701, 702, 703, 704, 705, 706, 741, 742] (by decide +kernel) (by decide +kernel)
set_option maxRecDepth 20000 in
theorem gL_law_X5_blank : GoodIn wsL_law (wsV RL 18 RX5 yX5_blank wsX5_blank) := goodIn_app (goodIn_of _ (by decide +kernel)) ggL_law_X5_blank
set_option maxRecDepth 20000 in
theorem ggL_law_X6_blank : GoodIn wsL_law wsX6_blank := goodIn_r _ [117, 102, 707, 708, 709, 710, 711, 712, 713, 714, 715, 716, 717, 718, 719, 720, 721, 722, 723, 724, 725, 726, 727, 728, 729, 730, 731, 732, 733, 734, 735, 736, 737, 738, 739, 740] (by decide +kernel) (by decide +kernel)
set_option maxRecDepth 20000 in
theorem gL_law_X6_blank : GoodIn wsL_law (wsV RL 22 RX6 yX6_blank wsX6_blank) := goodIn_app (goodIn_of _ (by decide +kernel)) ggL_law_X6_blank
set_option maxRecDepth 20000 in
theorem ggL_law_X5_fault : GoodIn wsL_law wsX5_fault := goodIn_r _ [121, 15, 122, 123, 124, 14, 125, 89, 126, 127, 128, 129, 130, 131, 132, 133, 134, 135, 136, 137, 37, 138, 139, 140, 141, 142, 143, 144, 145, 146, 147, 148, 149, 150, 151, 152, 153, 697, 698, 699, 700, 701, 702, 703, 704, 705, 706, 741, 742] (by decide +kernel) (by decide +kernel)
set_option maxRecDepth 20000 in
theorem gL_law_X5_fault : GoodIn wsL_law (wsV RL 23 RX5 yX5_fault wsX5_fault) := goodIn_app (goodIn_of _ (by decide +kernel)) ggL_law_X5_fault
set_option maxRecDepth 20000 in
theorem ggL_law_X6_fault : GoodIn wsL_law wsX6_fault := goodIn_r _ [157, 158, 159, 160, 5, 161, 162, 163, 164, 102, 69, 165, 166, 167, 168, 103, 104, 105, 169, 170, 171, 172, 173, 76, 77, 174, 175, 176, 177, 707, 708, 709, 710, 711, 712, 713, 714, 715, 716, 717, 718, 719, 720, 721, 722, 723, 724, 725, 726, 727, 728, 729, 730, 731, 732, 733, 734, 735, 736, 737, 738, 739, 740] (by decide +kernel) (by decide +kernel)
set_option maxRecDepth 20000 in
theorem gL_law_X6_fault : GoodIn wsL_law (wsV RL 26 RX6 yX6_fault wsX6_fault) := goodIn_app (goodIn_of _ (by decide +kernel)) ggL_law_X6_fault
set_option maxRecDepth 20000 in
theorem ggL_law_X5_net : GoodIn wsL_law wsX5_net := goodIn_r _ [181, 15, 19, 27, 23, 182, 183, 184, 185, 14, 186, 89, 187, 123, 124, 125, 126, 127, 128, 129, 130, 131, 132, 133, 134, 135, 136, 137, 37, 138, 139, 140, 141, 142, 143, 144, 145, 146, 147, 148, 149, 150, 151, 152, 153, 188, 189, 190, 18, 191, 192, 193, 194, 195, 196, 197, 198, 199, 200, 201, 44, 45, 46, 47, 202, 203, 204, 205, 206, 207, 208, 209, 210, 211, 212, 213, 214, 215, 42, 43, 216, 217, 218, 219, 220, 221, 222, 223, 224, 225, 226, 227, 110, 111, 112, 113, 228, 229, 230, 26, 231, 61, 232, 233, 234, 235, 236, 237, 238, 22, 239, 54, 240, 56, 241, 242, 243, 244, 53, 245, 246, 247, 248, 249, 250, 251, 52, 252, 697, 698, 699, 700, 701, 702, 703, 704, 705, 706, 741, 742, 743, 744, 745, 746, 747, 748, 749, 750, 756, 751, 752, 753, 754, 755] (by decide +kernel) (by decide +kernel)
set_option maxRecDepth 20000 in
theorem gL_law_X5_net : GoodIn wsL_law (wsV RL 27 RX5 yX5_net wsX5_net) := goodIn_app (goodIn_of _ (by decide +kernel)) ggL_law_X5_net
set_option maxRecDepth 20000 in
theorem ggL_law_X6_net : GoodIn wsL_law wsX6_net := goodIn_r _ [256, 102, 163, 164, 162, 257, 258, 70, 76, 71, 77, 75, 259, 158, 159, 160, 5, 161, 69, 165, 166, 167, 168, 103, 104, 105, 169, 170, 171, 172, 173, 174, 175, 176, 177, 260, 261, 262, 263, 74, 264, 73, 72, 78, 265, 266, 267, 268, 269, 270, 271, 272, 707, 708, 709, 710, 711, 712, 713, 714, 715, 716, 717, 718, 719, 720, 721, 722, 723, 724, 725, 726, 727, 728, 729, 730, 731, 732, 733, 734, 735, 736, 737, 738, 739, 740] (by decide +kernel) (by decide +kernel)
set_option maxRecDepth 20000 in
theorem gL_law_X6_net : GoodIn wsL_law (wsV RL 30 RX6 yX6_net wsX6_net) := goodIn_app (goodIn_of _ (by decide +kernel)) ggL_law_X6_net
set_option maxRecDepth 20000 in
theorem ggL_law_X5_set : GoodIn wsL_law wsX5_set := goodIn_r _ [276, 23, 19, 277, 278, 279, 22, 280, 281, 282, 283, 284, 52, 53, 54, 285, 286, 287, 288, 232, 233, 234, 18, 235, 201, 236, 237, 238, 239, 240, 56, 241, 242, 243, 244, 245, 246, 247, 248, 249, 250, 251, 252, 697, 698, 699, 700, 701, 702, 703, 704, 705, 706, 751, 752, 753, 754, 755, 743, 744, 745, 746, 747, 748, 749, 750] (by decide +kernel) (by decide +kernel)
set_option maxRecDepth 20000 in
theorem gL_law_X5_set : GoodIn wsL_law (wsV RL 31 RX5 yX5_set wsX5_set) := goodIn_app (goodIn_of _ (by decide +kernel)) ggL_law_X5_set
set_option maxRecDepth 20000 in
theorem ggL_law_X6_set : GoodIn wsL_law wsX6_set := goodIn_r _ [292, 72, 73, 74, 103, 104, 5, 105, 260, 261, 262, 263, 264, 258, 78, 265, 266, 267, 268, 269, 270, 271, 272, 707, 708, 709, 710, 711, 712, 713, 714, 715, 716, 717, 718, 719, 720, 721, 722, 723, 724, 725, 726, 727, 728, 729, 730, 731, 732, 733, 734, 735, 736, 737, 738, 739, 740] (by decide +kernel) (by decide +kernel)
set_option maxRecDepth 20000 in
theorem gL_law_X6_set : GoodIn wsL_law (wsV RL 35 RX6 yX6_set wsX6_set) := goodIn_app (goodIn_of _ (by decide +kernel)) ggL_law_X6_set
set_option maxRecDepth 20000 in
theorem ggL_law_X5_mark : GoodIn wsL_law wsX5_mark := goodIn_r _ [296, 19, 297, 298, 23, 299, 300, 301, 18, 302, 201, 303, 304, 2, 305, 306, 307, 308, 22, 309, 56, 697, 698, 699, 700, 701, 702, 703, 704, 705, 706, 743, 744, 745, 746, 747, 748, 749, 750, 751, 752, 753, 754, 755] (by decide +kernel) (by decide +kernel)
set_option maxRecDepth 20000 in
theorem gL_law_X5_mark : GoodIn wsL_law (wsV RL 36 RX5 yX5_mark wsX5_mark) := goodIn_app (goodIn_of _ (by decide +kernel)) ggL_law_X5_mark
set_option maxRecDepth 20000 in
theorem ggL_law_X6_mark : GoodIn wsL_law wsX6_mark := goodIn_r _ [313, 314, 78, 315, 316, 317, 318, 5, 319, 258, 103, 104, 105, 320, 321, 322, 707, 708, 709, 710, 711, 712, 713, 714, 715, 716, 717, 718, 719, 720, 721, 722, 723, 724, 725, 726, 727, 728, 729, 730, 731, 732, 733, 734, 735, 736, 737, 738, 739, 740] (by decide +kernel) (by decide +kernel)
set_option maxRecDepth 20000 in
theorem gL_law_X6_mark : GoodIn wsL_law (wsV RL 40 RX6 yX6_mark wsX6_mark) := goodIn_app (goodIn_of _ (by decide +kernel)) ggL_law_X6_mark
set_option maxRecDepth 20000 in
theorem ggL_law_X5_link : GoodIn wsL_law wsX5_link := goodIn_r _ [326, 19, 27, 299, 300, 301, 18, 302, 201, 327, 328, 329, 330, 42, 331, 332, 333, 334, 43, 335, 336, 337, 26, 338, 61, 697, 698, 699, 700, 701, 702, 703, 704, 705, 706, 743, 744, 745, 746, 747, 748, 749, 750, 756] (by decide +kernel) (by decide +kernel)
set_option maxRecDepth 20000 in
theorem gL_law_X5_link : GoodIn wsL_law (wsV RL 41 RX5 yX5_link wsX5_link) := goodIn_app (goodIn_of _ (by decide +kernel)) ggL_law_X5_link
set_option maxRecDepth 20000 in
theorem ggL_law_X6_link : GoodIn wsL_law wsX6_link := goodIn_r _ [342, 316, 317, 318, 5, 319, 258, 103, 104, 105, 343, 344, 345, 346, 70, 71, 347, 348, 349, 350, 75, 351, 352, 353, 707, 708, 709, 710, 711, 712, 713, 714, 715, 716, 717, 718, 719, 720, 721, 722, 723, 724, 725, 726, 727, 728, 729, 730, 731, 732, 733, 734, 735, 736, 737, 738, 739, 740] (by decide +kernel) (by decide +kernel)
set_option maxRecDepth 20000 in
theorem gL_law_X6_link : GoodIn wsL_law (wsV RL 44 RX6 yX6_link wsX6_link) := goodIn_app (goodIn_of _ (by decide +kernel)) ggL_law_X6_link
set_option maxRecDepth 20000 in
theorem ggL_law_X5_way : GoodIn wsL_law wsX5_way := goodIn_r _ [357, 19, 358, 217, 218, 18, 219, 196, 359, 360, 361, 362, 45, 46, 216, 202, 203, 204, 697, 698, 699, 700, 701, 702, 703, 704, 705, 706, 743, 744, 745, 746, 747, 748, 749, 750] (by decide +kernel) (by decide +kernel)
set_option maxRecDepth 20000 in
theorem gL_law_X5_way : GoodIn wsL_law (wsV RL 45 RX5 yX5_way wsX5_way) := goodIn_app (goodIn_of _ (by decide +kernel)) ggL_law_X5_way
set_option maxRecDepth 20000 in
theorem ggL_law_X6_way : GoodIn wsL_law wsX6_way := goodIn_r _ [366, 367, 80, 368, 369, 370, 5, 371, 257, 103, 104, 105, 372, 373, 374, 375, 79, 376, 377, 378, 379, 258, 71, 70, 380, 381, 382, 383, 707, 708, 709, 710, 711, 712, 713, 714, 715, 716, 717, 718, 719, 720, 721, 722, 723, 724, 725, 726, 727, 728, 729, 730, 731, 732, 733, 734, 735, 736, 737, 738, 739, 740] (by decide +kernel) (by decide +kernel)
set_option maxRecDepth 20000 in
theorem gL_law_X6_way : GoodIn wsL_law (wsV RL 49 RX6 yX6_way wsX6_way) := goodIn_app (goodIn_of _ (by decide +kernel)) ggL_law_X6_way
set_option maxRecDepth 20000 in
theorem ggL_law_X5_tree : GoodIn wsL_law wsX5_tree := goodIn_r _ [387, 19, 358, 217, 218, 18, 219, 196, 388, 389, 390, 391, 392, 393, 394, 395, 396, 397, 398, 399, 47, 216, 202, 203, 204, 697, 698, 699, 700, 701, 702, 703, 704, 705, 706, 743, 744, 745, 746, 747, 748, 749, 750] (by decide +kernel) (by decide +kernel)
set_option maxRecDepth 20000 in
theorem gL_law_X5_tree : GoodIn wsL_law (wsV RL 50 RX5 yX5_tree wsX5_tree) := goodIn_app (goodIn_of _ (by decide +kernel)) ggL_law_X5_tree
set_option maxRecDepth 20000 in
theorem ggL_law_X6_tree : GoodIn wsL_law wsX6_tree := goodIn_r _ [403, 368, 369, 370, 5, 371, 257, 103, 104, 105, 404, 405, 406, 407, 408, 409, 410, 411, 367, 80, 351, 352, 353, 372, 373, 374, 375, 79, 376, 377, 378, 379, 258, 71, 70, 380, 381, 382, 383, 412, 413, 414, 415, 707, 708, 709, 710, 711, 712, 713, 714, 715, 716, 717, 718, 719, 720, 721, 722, 723, 724, 725, 726, 727, 728, 729, 730, 731, 732, 733, 734, 735, 736, 737, 738, 739, 740] (by decide +kernel) (by decide +kernel)
set_option maxRecDepth 20000 in
theorem gL_law_X6_tree : GoodIn wsL_law (wsV RL 53 RX6 yX6_tree wsX6_tree) := goodIn_app (goodIn_of _ (by decide +kernel)) ggL_law_X6_tree
set_option maxRecDepth 20000 in
theorem ggL_law_X5_bind : GoodIn wsL_law wsX5_bind := goodIn_r _ [419, 19, 27, 420, 421, 2, 422, 358, 217, 218, 18, 219, 196, 388, 389, 390, 391, 392, 393, 394, 395, 396, 397, 398, 399, 47, 216, 202, 203, 204, 423, 424, 425, 26, 426, 427, 428, 429, 430, 61, 431, 432, 433, 434, 435, 436, 437, 438, 439, 440, 441, 697, 698, 699, 700, 701, 702, 703, 704, 705, 706, 743, 744, 745, 746, 747, 748, 749, 750, 756] (by decide +kernel) (by decide +kernel)
set_option maxRecDepth 20000 in
theorem gL_law_X5_bind : GoodIn wsL_law (wsV RL 54 RX5 yX5_bind wsX5_bind) := goodIn_app (goodIn_of _ (by decide +kernel)) ggL_law_X5_bind
set_option maxRecDepth 20000 in
theorem ggL_law_X6_bind : GoodIn wsL_law wsX6_bind := goodIn_r _ [445, 75, 446, 447, 5, 448, 103, 104, 105, 368, 369, 370, 371, 257, 404, 405, 406, 407, 408, 409, 410, 411, 367, 80, 351, 352, 353, 372, 373, 374, 375, 79, 376, 377, 378, 379, 258, 71, 70, 380, 381, 382, 383, 412, 413, 414, 415, 449, 450, 451, 707, 708, 709, 710, 711, 712, 713, 714, 715, 716, 717, 718, 719, 720, 721, 722, 723, 724, 725, 726, 727, 728, 729, 730, 731, 732, 733, 734, 735, 736, 737, 738, 739, 740] (by decide +kernel) (by decide +kernel)
set_option maxRecDepth 20000 in
theorem gL_law_X6_bind : GoodIn wsL_law (wsV RL 57 RX6 yX6_bind wsX6_bind) := goodIn_app (goodIn_of _ (by decide +kernel)) ggL_law_X6_bind
set_option maxRecDepth 20000 in
theorem ggL_law_X5_loosen : GoodIn wsL_law wsX5_loosen := goodIn_r _ [455, 27, 420, 421, 2, 422, 423, 424, 425, 26, 426, 427, 428, 429, 430, 61, 456, 431, 432, 433, 434, 697, 698, 699, 700, 701, 702, 703, 704, 705, 706, 756] (by decide +kernel) (by decide +kernel)
set_option maxRecDepth 20000 in
theorem gL_law_X5_loosen : GoodIn wsL_law (wsV RL 58 RX5 yX5_loosen wsX5_loosen) := goodIn_app (goodIn_of _ (by decide +kernel)) ggL_law_X5_loosen
set_option maxRecDepth 20000 in
theorem ggL_law_X6_loosen : GoodIn wsL_law wsX6_loosen := goodIn_r _ [460, 75, 446, 447, 5, 448, 103, 104, 105, 707, 708, 709, 710, 711, 712, 713, 714, 715, 716, 717, 718, 719, 720, 721, 722, 723, 724, 725, 726, 727, 728, 729, 730, 731, 732, 733, 734, 735, 736, 737, 738, 739, 740] (by decide +kernel) (by decide +kernel)
set_option maxRecDepth 20000 in
theorem gL_law_X6_loosen : GoodIn wsL_law (wsV RL 61 RX6 yX6_loosen wsX6_loosen) := goodIn_app (goodIn_of _ (by decide +kernel)) ggL_law_X6_loosen
set_option maxRecDepth 20000 in
theorem ggL_law_X5_bound : GoodIn wsL_law wsX5_bound := goodIn_r _ [464, 27, 297, 298, 23, 420, 421, 2, 422, 423, 424, 425, 26, 426, 427, 428, 429, 430, 61, 303, 304, 305, 465, 466, 467, 22, 468, 56, 697, 698, 699, 700, 701, 702, 703, 704, 705, 706, 756, 751, 752, 753, 754, 755] (by decide +kernel) (by decide +kernel)
set_option maxRecDepth 20000 in
theorem gL_law_X5_bound : GoodIn wsL_law (wsV RL 62 RX5 yX5_bound wsX5_bound) := goodIn_app (goodIn_of _ (by decide +kernel)) ggL_law_X5_bound
set_option maxRecDepth 20000 in
theorem ggL_law_X6_bound : GoodIn wsL_law wsX6_bound := goodIn_r _ [472, 75, 314, 78, 315, 446, 447, 5, 448, 103, 104, 105, 320, 321, 322, 707, 708, 709, 710, 711, 712, 713, 714, 715, 716, 717, 718, 719, 720, 721, 722, 723, 724, 725, 726, 727, 728, 729, 730, 731, 732, 733, 734, 735, 736, 737, 738, 739, 740] (by decide +kernel) (by decide +kernel)
set_option maxRecDepth 20000 in
theorem gL_law_X6_bound : GoodIn wsL_law (wsV RL 65 RX6 yX6_bound wsX6_bound) := goodIn_app (goodIn_of _ (by decide +kernel)) ggL_law_X6_bound
set_option maxRecDepth 20000 in
theorem ggL_law_X5_fold : GoodIn wsL_law wsX5_fold := goodIn_r _ [476, 19, 297, 298, 358, 217, 218, 18, 219, 196, 388, 389, 390, 391, 392, 393, 394, 395, 303, 304, 2, 305, 396, 397, 398, 399, 47, 216, 202, 203, 204, 477, 478, 479, 480, 27, 23, 456, 428, 429, 26, 430, 61, 421, 422, 465, 466, 467, 22, 468, 56, 232, 233, 234, 235, 201, 306, 307, 308, 309, 697, 698, 699, 700, 701, 702, 703, 704, 705, 706, 743, 744, 745, 746, 747, 748, 749, 750, 756, 751, 752, 753, 754, 755] (by decide +kernel) (by decide +kernel)
set_option maxRecDepth 20000 in
theorem gL_law_X5_fold : GoodIn wsL_law (wsV RL 66 RX5 yX5_fold wsX5_fold) := goodIn_app (goodIn_of _ (by decide +kernel)) ggL_law_X5_fold
set_option maxRecDepth 20000 in
theorem ggL_law_X6_fold : GoodIn wsL_law wsX6_fold := goodIn_r _ [484, 314, 315, 368, 369, 370, 5, 371, 257, 103, 104, 105, 404, 405, 406, 407, 320, 321, 322, 408, 409, 410, 411, 367, 80, 351, 352, 353, 372, 373, 374, 375, 79, 376, 377, 378, 379, 258, 71, 70, 380, 381, 382, 383, 412, 413, 414, 415, 485, 486, 487, 488, 75, 78, 707, 708, 709, 710, 711, 712, 713, 714, 715, 716, 717, 718, 719, 720, 721, 722, 723, 724, 725, 726, 727, 728, 729, 730, 731, 732, 733, 734, 735, 736, 737, 738, 739, 740] (by decide +kernel) (by decide +kernel)
set_option maxRecDepth 20000 in
theorem gL_law_X6_fold : GoodIn wsL_law (wsV RL 70 RX6 yX6_fold wsX6_fold) := goodIn_app (goodIn_of _ (by decide +kernel)) ggL_law_X6_fold
set_option maxRecDepth 20000 in
theorem ggL_law_X5_spread : GoodIn wsL_law wsX5_spread := goodIn_r _ [492, 19, 358, 217, 218, 18, 219, 196, 388, 389, 390, 391, 392, 393, 394, 395, 303, 304, 2, 305, 493, 494, 495, 496, 31, 497, 396, 397, 398, 399, 47, 216, 202, 203, 204, 477, 478, 479, 480, 27, 23, 456, 428, 429, 26, 430, 61, 421, 422, 465, 466, 467, 22, 468, 56, 232, 233, 234, 235, 201, 306, 307, 308, 309, 498, 499, 500, 501, 502, 503, 504, 505, 30, 506, 507, 508, 509, 510, 511, 512, 513, 436, 437, 438, 439, 440, 441, 514, 515, 516, 517, 518, 519, 328, 329, 330, 42, 520, 332, 333, 334, 43, 521, 522, 523, 524, 525, 526, 527, 528, 529, 530, 531, 532, 533, 534, 535, 536, 537, 538, 539, 540, 541, 542, 543, 544, 545, 52, 546, 547, 548, 549, 53, 550, 551, 552, 553, 697, 698, 699, 700, 701, 702, 703, 704, 705, 706, 743, 744, 745, 746, 747, 748, 749, 750, 757, 758, 759, 760, 761, 762, 763, 756, 751, 752, 753, 754, 755] (by decide +kernel) (by decide +kernel)
set_option maxRecDepth 20000 in
theorem gL_law_X5_spread : GoodIn wsL_law (wsV RL 71 RX5 yX5_spread wsX5_spread) := goodIn_app (goodIn_of _ (by decide +kernel)) ggL_law_X5_spread
set_option maxRecDepth 20000 in
theorem ggL_law_X6_spread : GoodIn wsL_law wsX6_spread := goodIn_r _ [557, 368, 369, 370, 5, 371, 257, 103, 104, 105, 404, 405, 406, 407, 320, 321, 322, 408, 409, 410, 411, 367, 80, 351, 352, 353, 372, 373, 374, 375, 79, 376, 377, 378, 379, 258, 71, 70, 380, 381, 382, 383, 412, 413, 414, 415, 558, 559, 560, 561, 562, 563, 564, 565, 566, 567, 568, 485, 486, 487, 488, 75, 78, 569, 570, 571, 572, 573, 574, 575, 576, 577, 578, 579, 580, 581, 449, 450, 451, 582, 583, 584, 585, 73, 72, 586, 587, 588, 707, 708, 709, 710, 711, 712, 713, 714, 715, 716, 717, 718, 719, 720, 721, 722, 723, 724, 725, 726, 727, 728, 729, 730, 731, 732, 733, 734, 735, 736, 737, 738, 739, 740] (by decide +kernel) (by decide +kernel)
set_option maxRecDepth 20000 in
theorem gL_law_X6_spread : GoodIn wsL_law (wsV RL 75 RX6 yX6_spread wsX6_spread) := goodIn_app (goodIn_of _ (by decide +kernel)) ggL_law_X6_spread
set_option maxRecDepth 20000 in
theorem ggL_law_X5_best : GoodIn wsL_law wsX5_best := goodIn_r _ [592, 19, 358, 217, 218, 18, 219, 196, 388, 389, 390, 391, 392, 393, 394, 395, 593, 594, 595, 2, 596, 31, 533, 497, 493, 494, 495, 496, 396, 397, 398, 399, 47, 216, 202, 203, 204, 477, 478, 479, 480, 27, 23, 456, 428, 429, 26, 430, 61, 421, 422, 465, 466, 467, 22, 468, 56, 304, 305, 232, 233, 234, 235, 201, 306, 307, 308, 309, 498, 499, 500, 501, 502, 503, 504, 505, 30, 506, 507, 508, 509, 510, 511, 512, 513, 436, 437, 438, 439, 440, 441, 514, 515, 516, 517, 518, 519, 328, 329, 330, 42, 520, 332, 333, 334, 43, 521, 522, 523, 524, 525, 526, 527, 697, 698, 699, 700, 701, 702, 703, 704, 705, 706, 743, 744, 745, 746, 747, 748, 749, 750, 757, 758, 759, 760, 761, 762, 763, 756, 751, 752, 753, 754, 755] (by decide +kernel) (by decide +kernel)
set_option maxRecDepth 20000 in
theorem gL_law_X5_best : GoodIn wsL_law (wsV RL 76 RX5 yX5_best wsX5_best) := goodIn_app (goodIn_of _ (by decide +kernel)) ggL_law_X5_best
set_option maxRecDepth 20000 in
theorem ggL_law_X6_best : GoodIn wsL_law wsX6_best := goodIn_r _ [600, 368, 369, 370, 5, 371, 257, 103, 104, 105, 404, 405, 406, 407, 408, 409, 410, 411, 367, 80, 351, 352, 353, 372, 373, 374, 375, 79, 376, 377, 378, 379, 258, 71, 70, 380, 381, 382, 383, 412, 413, 414, 415, 601, 602, 603, 604, 564, 562, 558, 559, 560, 561, 563, 565, 566, 567, 568, 485, 486, 487, 488, 75, 78, 569, 570, 571, 572, 573, 574, 575, 576, 577, 449, 450, 451, 707, 708, 709, 710, 711, 712, 713, 714, 715, 716, 717, 718, 719, 720, 721, 722, 723, 724, 725, 726, 727, 728, 729, 730, 731, 732, 733, 734, 735, 736, 737, 738, 739, 740] (by decide +kernel) (by decide +kernel)
set_option maxRecDepth 20000 in
theorem gL_law_X6_best : GoodIn wsL_law (wsV RL 80 RX6 yX6_best wsX6_best) := goodIn_app (goodIn_of _ (by decide +kernel)) ggL_law_X6_best
set_option maxRecDepth 20000 in
theorem ggL_law_X5_send : GoodIn wsL_law wsX5_send := goodIn_r _ [608, 19, 609, 610, 31, 532, 611, 533, 612, 534, 358, 217, 218, 18, 219, 196, 388, 389, 390, 391, 392, 393, 394, 395, 593, 594, 595, 2, 596, 497, 493, 494, 495, 496, 396, 397, 398, 399, 47, 216, 202, 203, 204, 477, 478, 479, 480, 27, 23, 456, 428, 429, 26, 430, 61, 421, 422, 465, 466, 467, 22, 468, 56, 304, 305, 232, 233, 234, 235, 201, 306, 307, 308, 309, 498, 499, 500, 501, 502, 503, 504, 505, 30, 506, 507, 508, 509, 510, 511, 512, 513, 436, 437, 438, 439, 440, 441, 514, 515, 516, 517, 518, 519, 328, 329, 330, 42, 520, 332, 333, 334, 43, 521, 522, 523, 524, 525, 526, 527, 697, 698, 699, 700, 701, 702, 703, 704, 705, 706, 757, 758, 759, 760, 761, 762, 763, 743, 744, 745, 746, 747, 748, 749, 750, 756, 751, 752, 753, 754, 755] (by decide +kernel) (by decide +kernel)
set_option maxRecDepth 20000 in
theorem gL_law_X5_send : GoodIn wsL_law (wsV RL 81 RX5 yX5_send wsX5_send) := goodIn_app (goodIn_of _ (by decide +kernel)) ggL_law_X5_send
set_option maxRecDepth 20000 in
theorem ggL_law_X6_send : GoodIn wsL_law wsX6_send := goodIn_r _ [616, 368, 369, 370, 5, 371, 257, 103, 104, 105, 404, 405, 406, 407, 408, 409, 410, 411, 367, 80, 351, 352, 353, 372, 373, 374, 375, 79, 376, 377, 378, 379, 258, 71, 70, 380, 381, 382, 383, 412, 413, 414, 415, 617, 618, 619, 620, 621, 622, 563, 623, 564, 624, 565, 601, 602, 603, 604, 562, 558, 559, 560, 561, 566, 567, 568, 485, 486, 487, 488, 75, 78, 569, 570, 571, 572, 573, 574, 575, 576, 577, 449, 450, 451, 707, 708, 709, 710, 711, 712, 713, 714, 715, 716, 717, 718, 719, 720, 721, 722, 723, 724, 725, 726, 727, 728, 729, 730, 731, 732, 733, 734, 735, 736, 737, 738, 739, 740] (by decide +kernel) (by decide +kernel)
set_option maxRecDepth 20000 in
theorem gL_law_X6_send : GoodIn wsL_law (wsV RL 84 RX6 yX6_send wsX6_send) := goodIn_app (goodIn_of _ (by decide +kernel)) ggL_law_X6_send
set_option maxRecDepth 20000 in
theorem ggL_law_X5_count : GoodIn wsL_law wsX5_count := goodIn_r _ [628, 19, 15, 23, 27, 182, 609, 610, 611, 612, 629, 630, 631, 18, 632, 196, 232, 233, 234, 235, 201, 94, 95, 96, 14, 97, 89, 281, 282, 283, 22, 284, 52, 53, 54, 633, 634, 635, 26, 636, 637, 424, 425, 426, 427, 428, 429, 430, 61, 421, 2, 422, 697, 698, 699, 700, 701, 702, 703, 704, 705, 706, 743, 744, 745, 746, 747, 748, 749, 750, 741, 742, 751, 752, 753, 754, 755, 756] (by decide +kernel) (by decide +kernel)
set_option maxRecDepth 20000 in
theorem gL_law_X5_count : GoodIn wsL_law (wsV RL 85 RX5 yX5_count wsX5_count) := goodIn_app (goodIn_of _ (by decide +kernel)) ggL_law_X5_count
set_option maxRecDepth 20000 in
theorem ggL_law_X6_count : GoodIn wsL_law wsX6_count := goodIn_r _ [641, 642, 643, 644, 5, 645, 257, 258, 102, 72, 73, 74, 259, 621, 622, 623, 624, 646, 647, 648, 649, 75, 707, 708, 709, 710, 711, 712, 713, 714, 715, 716, 717, 718, 719, 720, 721, 722, 723, 724, 725, 726, 727, 728, 729, 730, 731, 732, 733, 734, 735, 736, 737, 738, 739, 740] (by decide +kernel) (by decide +kernel)
set_option maxRecDepth 20000 in
theorem gL_law_X6_count : GoodIn wsL_law (wsV RL 88 RX6 yX6_count wsX6_count) := goodIn_app (goodIn_of _ (by decide +kernel)) ggL_law_X6_count
set_option maxRecDepth 20000 in
theorem ggL_law_X5_digest : GoodIn wsL_law wsX5_digest := goodIn_r _ [653, 654, 655, 656, 657, 2, 658, 19, 27, 23, 232, 233, 234, 18, 235, 201, 327, 328, 329, 330, 42, 659, 660, 661, 662, 331, 332, 333, 334, 43, 335, 336, 337, 26, 338, 61, 306, 307, 308, 22, 309, 56, 304, 305, 663, 664, 665, 666, 423, 424, 425, 426, 427, 428, 429, 430, 421, 422, 465, 466, 467, 468, 667, 668, 669, 670, 671, 393, 394, 395, 196, 629, 630, 631, 632, 396, 397, 398, 399, 47, 216, 217, 218, 219, 202, 203, 204, 493, 494, 495, 496, 31, 497, 477, 478, 479, 480, 456, 498, 499, 500, 501, 502, 503, 504, 505, 30, 506, 507, 508, 509, 510, 511, 512, 513, 436, 437, 438, 439, 440, 441, 514, 515, 516, 517, 518, 519, 520, 521, 522, 523, 524, 525, 526, 527, 528, 529, 530, 531, 532, 533, 534, 535, 536, 537, 538, 539, 540, 541, 542, 543, 544, 545, 52, 546, 547, 548, 549, 53, 550, 551, 552, 553, 593, 594, 595, 596, 672, 673, 674, 675, 15, 94, 95, 96, 14, 97, 89, 676, 135, 136, 137, 37, 677, 678, 679, 680, 681, 626, 627, 628, 182, 609, 610, 611, 612, 281, 282, 283, 284, 54, 633, 634, 635, 636, 637, 697, 698, 699, 700, 701, 702, 703, 704, 705, 706, 743, 744, 745, 746, 747, 748, 749, 750, 756, 751, 752, 753, 754, 755, 757, 758, 759, 760, 761, 762, 763, 741, 742] (by decide +kernel) (by decide +kernel)
set_option maxRecDepth 20000 in
theorem gL_law_X5_digest : GoodIn wsL_law (wsV RL 89 RX5 yX5_digest wsX5_digest) := goodIn_app (goodIn_of _ (by decide +kernel)) ggL_law_X5_digest
set_option maxRecDepth 20000 in
theorem ggL_law_X6_digest : GoodIn wsL_law wsX6_digest := goodIn_r _ [685, 686, 687, 258, 78, 75, 257, 102, 69, 343, 344, 345, 5, 346, 70, 71, 347, 348, 349, 350, 351, 352, 353, 688, 689, 690, 691, 692, 693, 694, 695, 696, 408, 409, 410, 411, 367, 80, 372, 373, 374, 375, 79, 376, 377, 378, 379, 380, 381, 382, 383, 412, 413, 414, 415, 558, 559, 560, 561, 562, 563, 564, 565, 566, 567, 568, 485, 486, 487, 488, 569, 570, 571, 572, 573, 574, 575, 576, 577, 578, 579, 580, 581, 449, 450, 451, 582, 583, 584, 585, 73, 72, 586, 587, 588, 601, 602, 603, 604, 642, 643, 644, 645, 74, 259, 621, 622, 623, 624, 646, 647, 648, 649, 707, 708, 709, 710, 711, 712, 713, 714, 715, 716, 717, 718, 719, 720, 721, 722, 723, 724, 725, 726, 727, 728, 729, 730, 731, 732, 733, 734, 735, 736, 737, 738, 739, 740] (by decide +kernel) (by decide +kernel)
set_option maxRecDepth 20000 in
theorem gL_law_X6_digest : GoodIn wsL_law (wsV RL 93 RX6 yX6_digest wsX6_digest) := goodIn_app (goodIn_of _ (by decide +kernel)) ggL_law_X6_digest
theorem dL_law_0 : decode cL_law 0 = .ok (.new 7, 3) := by decide +kernel
theorem dL_law_3 : decode cL_law 3 = .ok (.dup, 1) := by decide +kernel
theorem dL_law_4 : decode cL_law 4 = .ok (.invokespecial 9, 3) := by decide +kernel
theorem dL_law_7 : decode cL_law 7 = .ok (.astore_n 1, 1) := by decide +kernel
theorem dL_law_8 : decode cL_law 8 = .ok (.new 10, 3) := by decide +kernel
theorem dL_law_11 : decode cL_law 11 = .ok (.dup, 1) := by decide +kernel
theorem dL_law_12 : decode cL_law 12 = .ok (.invokespecial 12, 3) := by decide +kernel
theorem dL_law_15 : decode cL_law 15 = .ok (.astore_n 2, 1) := by decide +kernel
theorem dL_law_16 : decode cL_law 16 = .ok (.iconst 0, 1) := by decide +kernel
theorem dL_law_17 : decode cL_law 17 = .ok (.istore_n 3, 1) := by decide +kernel
theorem dL_law_18 : decode cL_law 18 = .ok (.iload_n 3, 1) := by decide +kernel
theorem dL_law_19 : decode cL_law 19 = .ok (.aload_n 0, 1) := by decide +kernel
theorem dL_law_20 : decode cL_law 20 = .ok (.arraylength, 1) := by decide +kernel
theorem dL_law_21 : decode cL_law 21 = .ok (.bipush 6, 2) := by decide +kernel
theorem dL_law_23 : decode cL_law 23 = .ok (.isub, 1) := by decide +kernel
theorem dL_law_24 : decode cL_law 24 = .ok (.if_icmp .gt 744, 3) := by decide +kernel
theorem dL_law_27 : decode cL_law 27 = .ok (.aload_n 0, 1) := by decide +kernel
theorem dL_law_28 : decode cL_law 28 = .ok (.iload_n 3, 1) := by decide +kernel
theorem dL_law_29 : decode cL_law 29 = .ok (.iaload, 1) := by decide +kernel
theorem dL_law_30 : decode cL_law 30 = .ok (.bipush 31, 2) := by decide +kernel
theorem dL_law_32 : decode cL_law 32 = .ok (.iand, 1) := by decide +kernel
theorem dL_law_33 : decode cL_law 33 = .ok (.tableswitch 729 0 17 #[87, 110, 123, 136, 149, 182, 216, 249, 292, 325, 368, 391, 425, 495, 574, 633, 692, 715], 87) := by decide +kernel
theorem dL_law_120 : decode cL_law 120 = .ok (.aload_n 1, 1) := by decide +kernel
theorem dL_law_121 : decode cL_law 121 = .ok (.aload_n 0, 1) := by decide +kernel
theorem dL_law_122 : decode cL_law 122 = .ok (.iload_n 3, 1) := by decide +kernel
theorem dL_law_123 : decode cL_law 123 = .ok (.iconst 1, 1) := by decide +kernel
theorem dL_law_124 : decode cL_law 124 = .ok (.iadd, 1) := by decide +kernel
theorem dL_law_125 : decode cL_law 125 = .ok (.iaload, 1) := by decide +kernel
theorem dL_law_126 : decode cL_law 126 = .ok (.invokevirtual 13, 3) := by decide +kernel
theorem dL_law_129 : decode cL_law 129 = .ok (.aload_n 2, 1) := by decide +kernel
theorem dL_law_130 : decode cL_law 130 = .ok (.aload_n 0, 1) := by decide +kernel
theorem dL_law_131 : decode cL_law 131 = .ok (.iload_n 3, 1) := by decide +kernel
theorem dL_law_132 : decode cL_law 132 = .ok (.iconst 1, 1) := by decide +kernel
theorem dL_law_133 : decode cL_law 133 = .ok (.iadd, 1) := by decide +kernel
theorem dL_law_134 : decode cL_law 134 = .ok (.iaload, 1) := by decide +kernel
theorem dL_law_135 : decode cL_law 135 = .ok (.invokevirtual 17, 3) := by decide +kernel
theorem dL_law_138 : decode cL_law 138 = .ok (.if_icmp .eq 624, 3) := by decide +kernel
theorem dL_law_141 : decode cL_law 141 = .ok (.iconst 0, 1) := by decide +kernel
theorem dL_law_142 : decode cL_law 142 = .ok (.ireturn, 1) := by decide +kernel
theorem dL_law_143 : decode cL_law 143 = .ok (.aload_n 1, 1) := by decide +kernel
theorem dL_law_144 : decode cL_law 144 = .ok (.invokevirtual 18, 3) := by decide +kernel
theorem dL_law_147 : decode cL_law 147 = .ok (.aload_n 2, 1) := by decide +kernel
theorem dL_law_148 : decode cL_law 148 = .ok (.invokevirtual 22, 3) := by decide +kernel
theorem dL_law_151 : decode cL_law 151 = .ok (.if_icmp .eq 611, 3) := by decide +kernel
theorem dL_law_154 : decode cL_law 154 = .ok (.iconst 0, 1) := by decide +kernel
theorem dL_law_155 : decode cL_law 155 = .ok (.ireturn, 1) := by decide +kernel
theorem dL_law_156 : decode cL_law 156 = .ok (.aload_n 1, 1) := by decide +kernel
theorem dL_law_157 : decode cL_law 157 = .ok (.invokevirtual 23, 3) := by decide +kernel
theorem dL_law_160 : decode cL_law 160 = .ok (.aload_n 2, 1) := by decide +kernel
theorem dL_law_161 : decode cL_law 161 = .ok (.invokevirtual 26, 3) := by decide +kernel
theorem dL_law_164 : decode cL_law 164 = .ok (.if_icmp .eq 598, 3) := by decide +kernel
theorem dL_law_167 : decode cL_law 167 = .ok (.iconst 0, 1) := by decide +kernel
theorem dL_law_168 : decode cL_law 168 = .ok (.ireturn, 1) := by decide +kernel
theorem dL_law_169 : decode cL_law 169 = .ok (.aload_n 1, 1) := by decide +kernel
theorem dL_law_170 : decode cL_law 170 = .ok (.invokevirtual 27, 3) := by decide +kernel
theorem dL_law_173 : decode cL_law 173 = .ok (.aload_n 2, 1) := by decide +kernel
theorem dL_law_174 : decode cL_law 174 = .ok (.invokevirtual 30, 3) := by decide +kernel
theorem dL_law_177 : decode cL_law 177 = .ok (.if_icmp .eq 585, 3) := by decide +kernel
theorem dL_law_180 : decode cL_law 180 = .ok (.iconst 0, 1) := by decide +kernel
theorem dL_law_181 : decode cL_law 181 = .ok (.ireturn, 1) := by decide +kernel
theorem dL_law_182 : decode cL_law 182 = .ok (.aload_n 1, 1) := by decide +kernel
theorem dL_law_183 : decode cL_law 183 = .ok (.aload_n 0, 1) := by decide +kernel
theorem dL_law_184 : decode cL_law 184 = .ok (.iload_n 3, 1) := by decide +kernel
theorem dL_law_185 : decode cL_law 185 = .ok (.iconst 1, 1) := by decide +kernel
theorem dL_law_186 : decode cL_law 186 = .ok (.iadd, 1) := by decide +kernel
theorem dL_law_187 : decode cL_law 187 = .ok (.iaload, 1) := by decide +kernel
theorem dL_law_188 : decode cL_law 188 = .ok (.aload_n 0, 1) := by decide +kernel
theorem dL_law_189 : decode cL_law 189 = .ok (.iload_n 3, 1) := by decide +kernel
theorem dL_law_190 : decode cL_law 190 = .ok (.iconst 2, 1) := by decide +kernel
theorem dL_law_191 : decode cL_law 191 = .ok (.iadd, 1) := by decide +kernel
theorem dL_law_192 : decode cL_law 192 = .ok (.iaload, 1) := by decide +kernel
theorem dL_law_193 : decode cL_law 193 = .ok (.invokevirtual 31, 3) := by decide +kernel
theorem dL_law_196 : decode cL_law 196 = .ok (.aload_n 2, 1) := by decide +kernel
theorem dL_law_197 : decode cL_law 197 = .ok (.aload_n 0, 1) := by decide +kernel
theorem dL_law_198 : decode cL_law 198 = .ok (.iload_n 3, 1) := by decide +kernel
theorem dL_law_199 : decode cL_law 199 = .ok (.iconst 1, 1) := by decide +kernel
theorem dL_law_200 : decode cL_law 200 = .ok (.iadd, 1) := by decide +kernel
theorem dL_law_201 : decode cL_law 201 = .ok (.iaload, 1) := by decide +kernel
theorem dL_law_202 : decode cL_law 202 = .ok (.aload_n 0, 1) := by decide +kernel
theorem dL_law_203 : decode cL_law 203 = .ok (.iload_n 3, 1) := by decide +kernel
theorem dL_law_204 : decode cL_law 204 = .ok (.iconst 2, 1) := by decide +kernel
theorem dL_law_205 : decode cL_law 205 = .ok (.iadd, 1) := by decide +kernel
theorem dL_law_206 : decode cL_law 206 = .ok (.iaload, 1) := by decide +kernel
theorem dL_law_207 : decode cL_law 207 = .ok (.invokevirtual 35, 3) := by decide +kernel
theorem dL_law_210 : decode cL_law 210 = .ok (.if_icmp .eq 552, 3) := by decide +kernel
theorem dL_law_213 : decode cL_law 213 = .ok (.iconst 0, 1) := by decide +kernel
theorem dL_law_214 : decode cL_law 214 = .ok (.ireturn, 1) := by decide +kernel
theorem dL_law_215 : decode cL_law 215 = .ok (.aload_n 1, 1) := by decide +kernel
theorem dL_law_216 : decode cL_law 216 = .ok (.aload_n 0, 1) := by decide +kernel
theorem dL_law_217 : decode cL_law 217 = .ok (.iload_n 3, 1) := by decide +kernel
theorem dL_law_218 : decode cL_law 218 = .ok (.iconst 1, 1) := by decide +kernel
theorem dL_law_219 : decode cL_law 219 = .ok (.iadd, 1) := by decide +kernel
theorem dL_law_220 : decode cL_law 220 = .ok (.iaload, 1) := by decide +kernel
theorem dL_law_221 : decode cL_law 221 = .ok (.aload_n 0, 1) := by decide +kernel
theorem dL_law_222 : decode cL_law 222 = .ok (.iload_n 3, 1) := by decide +kernel
theorem dL_law_223 : decode cL_law 223 = .ok (.iconst 2, 1) := by decide +kernel
theorem dL_law_224 : decode cL_law 224 = .ok (.iadd, 1) := by decide +kernel
theorem dL_law_225 : decode cL_law 225 = .ok (.iaload, 1) := by decide +kernel
theorem dL_law_226 : decode cL_law 226 = .ok (.invokevirtual 36, 3) := by decide +kernel
theorem dL_law_229 : decode cL_law 229 = .ok (.aload_n 2, 1) := by decide +kernel
theorem dL_law_230 : decode cL_law 230 = .ok (.aload_n 0, 1) := by decide +kernel
theorem dL_law_231 : decode cL_law 231 = .ok (.iload_n 3, 1) := by decide +kernel
theorem dL_law_232 : decode cL_law 232 = .ok (.iconst 1, 1) := by decide +kernel
theorem dL_law_233 : decode cL_law 233 = .ok (.iadd, 1) := by decide +kernel
theorem dL_law_234 : decode cL_law 234 = .ok (.iaload, 1) := by decide +kernel
theorem dL_law_235 : decode cL_law 235 = .ok (.aload_n 0, 1) := by decide +kernel
theorem dL_law_236 : decode cL_law 236 = .ok (.iload_n 3, 1) := by decide +kernel
theorem dL_law_237 : decode cL_law 237 = .ok (.iconst 2, 1) := by decide +kernel
theorem dL_law_238 : decode cL_law 238 = .ok (.iadd, 1) := by decide +kernel
theorem dL_law_239 : decode cL_law 239 = .ok (.iaload, 1) := by decide +kernel
theorem dL_law_240 : decode cL_law 240 = .ok (.invokevirtual 40, 3) := by decide +kernel
theorem dL_law_243 : decode cL_law 243 = .ok (.lcmp, 1) := by decide +kernel
theorem dL_law_244 : decode cL_law 244 = .ok (.ifCond .eq 518, 3) := by decide +kernel
theorem dL_law_247 : decode cL_law 247 = .ok (.iconst 0, 1) := by decide +kernel
theorem dL_law_248 : decode cL_law 248 = .ok (.ireturn, 1) := by decide +kernel
theorem dL_law_249 : decode cL_law 249 = .ok (.aload_n 1, 1) := by decide +kernel
theorem dL_law_250 : decode cL_law 250 = .ok (.aload_n 0, 1) := by decide +kernel
theorem dL_law_251 : decode cL_law 251 = .ok (.iload_n 3, 1) := by decide +kernel
theorem dL_law_252 : decode cL_law 252 = .ok (.iconst 1, 1) := by decide +kernel
theorem dL_law_253 : decode cL_law 253 = .ok (.iadd, 1) := by decide +kernel
theorem dL_law_254 : decode cL_law 254 = .ok (.iaload, 1) := by decide +kernel
theorem dL_law_255 : decode cL_law 255 = .ok (.aload_n 0, 1) := by decide +kernel
theorem dL_law_256 : decode cL_law 256 = .ok (.iload_n 3, 1) := by decide +kernel
theorem dL_law_257 : decode cL_law 257 = .ok (.iconst 2, 1) := by decide +kernel
theorem dL_law_258 : decode cL_law 258 = .ok (.iadd, 1) := by decide +kernel
theorem dL_law_259 : decode cL_law 259 = .ok (.iaload, 1) := by decide +kernel
theorem dL_law_260 : decode cL_law 260 = .ok (.invokevirtual 41, 3) := by decide +kernel
theorem dL_law_263 : decode cL_law 263 = .ok (.aload_n 2, 1) := by decide +kernel
theorem dL_law_264 : decode cL_law 264 = .ok (.aload_n 0, 1) := by decide +kernel
theorem dL_law_265 : decode cL_law 265 = .ok (.iload_n 3, 1) := by decide +kernel
theorem dL_law_266 : decode cL_law 266 = .ok (.iconst 1, 1) := by decide +kernel
theorem dL_law_267 : decode cL_law 267 = .ok (.iadd, 1) := by decide +kernel
theorem dL_law_268 : decode cL_law 268 = .ok (.iaload, 1) := by decide +kernel
theorem dL_law_269 : decode cL_law 269 = .ok (.aload_n 0, 1) := by decide +kernel
theorem dL_law_270 : decode cL_law 270 = .ok (.iload_n 3, 1) := by decide +kernel
theorem dL_law_271 : decode cL_law 271 = .ok (.iconst 2, 1) := by decide +kernel
theorem dL_law_272 : decode cL_law 272 = .ok (.iadd, 1) := by decide +kernel
theorem dL_law_273 : decode cL_law 273 = .ok (.iaload, 1) := by decide +kernel
theorem dL_law_274 : decode cL_law 274 = .ok (.invokevirtual 44, 3) := by decide +kernel
theorem dL_law_277 : decode cL_law 277 = .ok (.if_icmp .eq 485, 3) := by decide +kernel
theorem dL_law_280 : decode cL_law 280 = .ok (.iconst 0, 1) := by decide +kernel
theorem dL_law_281 : decode cL_law 281 = .ok (.ireturn, 1) := by decide +kernel
theorem dL_law_282 : decode cL_law 282 = .ok (.aload_n 1, 1) := by decide +kernel
theorem dL_law_283 : decode cL_law 283 = .ok (.aload_n 0, 1) := by decide +kernel
theorem dL_law_284 : decode cL_law 284 = .ok (.iload_n 3, 1) := by decide +kernel
theorem dL_law_285 : decode cL_law 285 = .ok (.iconst 1, 1) := by decide +kernel
theorem dL_law_286 : decode cL_law 286 = .ok (.iadd, 1) := by decide +kernel
theorem dL_law_287 : decode cL_law 287 = .ok (.iaload, 1) := by decide +kernel
theorem dL_law_288 : decode cL_law 288 = .ok (.aload_n 0, 1) := by decide +kernel
theorem dL_law_289 : decode cL_law 289 = .ok (.iload_n 3, 1) := by decide +kernel
theorem dL_law_290 : decode cL_law 290 = .ok (.iconst 2, 1) := by decide +kernel
theorem dL_law_291 : decode cL_law 291 = .ok (.iadd, 1) := by decide +kernel
theorem dL_law_292 : decode cL_law 292 = .ok (.iaload, 1) := by decide +kernel
theorem dL_law_293 : decode cL_law 293 = .ok (.aload_n 0, 1) := by decide +kernel
theorem dL_law_294 : decode cL_law 294 = .ok (.iload_n 3, 1) := by decide +kernel
theorem dL_law_295 : decode cL_law 295 = .ok (.iconst 3, 1) := by decide +kernel
theorem dL_law_296 : decode cL_law 296 = .ok (.iadd, 1) := by decide +kernel
theorem dL_law_297 : decode cL_law 297 = .ok (.iaload, 1) := by decide +kernel
theorem dL_law_298 : decode cL_law 298 = .ok (.invokevirtual 45, 3) := by decide +kernel
theorem dL_law_301 : decode cL_law 301 = .ok (.aload_n 2, 1) := by decide +kernel
theorem dL_law_302 : decode cL_law 302 = .ok (.aload_n 0, 1) := by decide +kernel
theorem dL_law_303 : decode cL_law 303 = .ok (.iload_n 3, 1) := by decide +kernel
theorem dL_law_304 : decode cL_law 304 = .ok (.iconst 1, 1) := by decide +kernel
theorem dL_law_305 : decode cL_law 305 = .ok (.iadd, 1) := by decide +kernel
theorem dL_law_306 : decode cL_law 306 = .ok (.iaload, 1) := by decide +kernel
theorem dL_law_307 : decode cL_law 307 = .ok (.aload_n 0, 1) := by decide +kernel
theorem dL_law_308 : decode cL_law 308 = .ok (.iload_n 3, 1) := by decide +kernel
theorem dL_law_309 : decode cL_law 309 = .ok (.iconst 2, 1) := by decide +kernel
theorem dL_law_310 : decode cL_law 310 = .ok (.iadd, 1) := by decide +kernel
theorem dL_law_311 : decode cL_law 311 = .ok (.iaload, 1) := by decide +kernel
