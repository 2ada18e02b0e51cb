theorem dX6_nextNode_76 : decode cX6_nextNode 76 = .ok (.iload_n 2, 1) := by decide +kernel
theorem dX6_nextNode_77 : decode cX6_nextNode 77 = .ok (.istore_n 2, 1) := by decide +kernel
theorem dX6_nextNode_78 : decode cX6_nextNode 78 = .ok (.iinc 3 1, 3) := by decide +kernel
theorem dX6_nextNode_81 : decode cX6_nextNode 81 = .ok (.goto (-76), 3) := by decide +kernel
theorem dX6_nextNode_84 : decode cX6_nextNode 84 = .ok (.iload_n 2, 1) := by decide +kernel
theorem dX6_nextNode_85 : decode cX6_nextNode 85 = .ok (.ireturn, 1) := by decide +kernel
set_option maxRecDepth 20000 in
theorem ggX6_layWay_X6_layLeft : GoodIn wsX6_layWay wsX6_layLeft := goodIn_r _ [8, 9, 2, 10, 11, 12, 17, 18, 19, 20, 21, 22, 23, 24, 25, 26, 27, 28, 29, 30, 31, 32, 33, 34, 35, 36, 37, 38, 39, 40, 41, 42, 43, 44, 45, 46, 47, 48, 49, 50] (by decide +kernel) (by decide +kernel)
set_option maxRecDepth 20000 in
theorem gX6_layWay_X6_layLeft : GoodIn wsX6_layWay (wsV RX6 130 RX6 yX6_layLeft wsX6_layLeft) := goodIn_app (goodIn_of _ (by decide +kernel)) ggX6_layWay_X6_layLeft
set_option maxRecDepth 20000 in
theorem ggX6_layWay_X6_nextNode : GoodIn wsX6_layWay wsX6_nextNode := goodIn_r _ [16, 10, 12, 2, 11, 17, 18, 19, 20, 21, 22, 23, 24, 25, 26, 27, 28, 29, 30, 31, 32, 33, 34, 35, 36, 37, 38, 39, 40, 41, 42, 43, 44, 45, 46, 47, 48, 49, 50] (by decide +kernel) (by decide +kernel)
set_option maxRecDepth 20000 in
theorem gX6_layWay_X6_nextNode : GoodIn wsX6_layWay (wsV RX6 137 RX6 yX6_nextNode wsX6_nextNode) := goodIn_app (goodIn_of _ (by decide +kernel)) ggX6_layWay_X6_nextNode
theorem dX6_layWay_0 : decode cX6_layWay 0 = .ok (.aload_n 0, 1) := by decide +kernel
theorem dX6_layWay_1 : decode cX6_layWay 1 = .ok (.iload_n 2, 1) := by decide +kernel
theorem dX6_layWay_2 : decode cX6_layWay 2 = .ok (.invokevirtual 130, 3) := by decide +kernel
theorem dX6_layWay_5 : decode cX6_layWay 5 = .ok (.aload_n 0, 1) := by decide +kernel
theorem dX6_layWay_6 : decode cX6_layWay 6 = .ok (.iconst 0, 1) := by decide +kernel
theorem dX6_layWay_7 : decode cX6_layWay 7 = .ok (.putfield 134, 3) := by decide +kernel
theorem dX6_layWay_10 : decode cX6_layWay 10 = .ok (.iload_n 1, 1) := by decide +kernel
theorem dX6_layWay_11 : decode cX6_layWay 11 = .ok (.istore_n 3, 1) := by decide +kernel
theorem dX6_layWay_12 : decode cX6_layWay 12 = .ok (.aload_n 0, 1) := by decide +kernel
theorem dX6_layWay_13 : decode cX6_layWay 13 = .ok (.getfield 42, 3) := by decide +kernel
theorem dX6_layWay_16 : decode cX6_layWay 16 = .ok (.iload_n 1, 1) := by decide +kernel
theorem dX6_layWay_17 : decode cX6_layWay 17 = .ok (.iaload, 1) := by decide +kernel
theorem dX6_layWay_18 : decode cX6_layWay 18 = .ok (.bipush 6, 2) := by decide +kernel
theorem dX6_layWay_20 : decode cX6_layWay 20 = .ok (.if_icmp .ge 7, 3) := by decide +kernel
theorem dX6_layWay_23 : decode cX6_layWay 23 = .ok (.iconst 1, 1) := by decide +kernel
theorem dX6_layWay_24 : decode cX6_layWay 24 = .ok (.goto 4, 3) := by decide +kernel
theorem dX6_layWay_27 : decode cX6_layWay 27 = .ok (.iconst 0, 1) := by decide +kernel
theorem dX6_layWay_28 : decode cX6_layWay 28 = .ok (.istore 4, 2) := by decide +kernel
theorem dX6_layWay_30 : decode cX6_layWay 30 = .ok (.iload 4, 2) := by decide +kernel
theorem dX6_layWay_32 : decode cX6_layWay 32 = .ok (.ifCond .eq 53, 3) := by decide +kernel
theorem dX6_layWay_35 : decode cX6_layWay 35 = .ok (.aload_n 0, 1) := by decide +kernel
theorem dX6_layWay_36 : decode cX6_layWay 36 = .ok (.getfield 45, 3) := by decide +kernel
theorem dX6_layWay_39 : decode cX6_layWay 39 = .ok (.aload_n 0, 1) := by decide +kernel
theorem dX6_layWay_40 : decode cX6_layWay 40 = .ok (.getfield 134, 3) := by decide +kernel
theorem dX6_layWay_43 : decode cX6_layWay 43 = .ok (.iload_n 3, 1) := by decide +kernel
theorem dX6_layWay_44 : decode cX6_layWay 44 = .ok (.iastore, 1) := by decide +kernel
theorem dX6_layWay_45 : decode cX6_layWay 45 = .ok (.aload_n 0, 1) := by decide +kernel
theorem dX6_layWay_46 : decode cX6_layWay 46 = .ok (.dup, 1) := by decide +kernel
theorem dX6_layWay_47 : decode cX6_layWay 47 = .ok (.getfield 134, 3) := by decide +kernel
theorem dX6_layWay_50 : decode cX6_layWay 50 = .ok (.iconst 1, 1) := by decide +kernel
theorem dX6_layWay_51 : decode cX6_layWay 51 = .ok (.iadd, 1) := by decide +kernel
theorem dX6_layWay_52 : decode cX6_layWay 52 = .ok (.putfield 134, 3) := by decide +kernel
theorem dX6_layWay_55 : decode cX6_layWay 55 = .ok (.iload_n 3, 1) := by decide +kernel
theorem dX6_layWay_56 : decode cX6_layWay 56 = .ok (.iload_n 2, 1) := by decide +kernel
theorem dX6_layWay_57 : decode cX6_layWay 57 = .ok (.if_icmp .eq 7, 3) := by decide +kernel
theorem dX6_layWay_60 : decode cX6_layWay 60 = .ok (.iconst 1, 1) := by decide +kernel
theorem dX6_layWay_61 : decode cX6_layWay 61 = .ok (.goto 4, 3) := by decide +kernel
theorem dX6_layWay_64 : decode cX6_layWay 64 = .ok (.iconst 0, 1) := by decide +kernel
theorem dX6_layWay_65 : decode cX6_layWay 65 = .ok (.istore 4, 2) := by decide +kernel
theorem dX6_layWay_67 : decode cX6_layWay 67 = .ok (.iload 4, 2) := by decide +kernel
theorem dX6_layWay_69 : decode cX6_layWay 69 = .ok (.ifCond .eq 11, 3) := by decide +kernel
theorem dX6_layWay_72 : decode cX6_layWay 72 = .ok (.aload_n 0, 1) := by decide +kernel
theorem dX6_layWay_73 : decode cX6_layWay 73 = .ok (.iload_n 3, 1) := by decide +kernel
theorem dX6_layWay_74 : decode cX6_layWay 74 = .ok (.invokevirtual 137, 3) := by decide +kernel
theorem dX6_layWay_77 : decode cX6_layWay 77 = .ok (.goto 4, 3) := by decide +kernel
theorem dX6_layWay_80 : decode cX6_layWay 80 = .ok (.iload_n 3, 1) := by decide +kernel
theorem dX6_layWay_81 : decode cX6_layWay 81 = .ok (.istore_n 3, 1) := by decide +kernel
theorem dX6_layWay_82 : decode cX6_layWay 82 = .ok (.goto (-52), 3) := by decide +kernel
theorem dX6_layWay_85 : decode cX6_layWay 85 = .ok (.return_, 1) := by decide +kernel
set_option maxRecDepth 20000 in
theorem ggX6_way_X6_isNode : GoodIn wsX6_way wsX6_isNode := goodIn_r _ [7, 8, 9, 10, 6, 11, 28, 29, 30, 31, 32, 33, 34, 35, 36, 37, 38, 39, 40, 41, 42, 43, 44, 45, 46, 47, 48, 49, 50, 51, 52, 53, 54, 55, 56, 57, 58, 59, 60, 61] (by decide +kernel) (by decide +kernel)
set_option maxRecDepth 20000 in
theorem gX6_way_X6_isNode : GoodIn wsX6_way (wsV RX6 140 RX6 yX6_isNode wsX6_isNode) := goodIn_app (goodIn_of _ (by decide +kernel)) ggX6_way_X6_isNode
set_option maxRecDepth 20000 in
theorem ggX6_way_X6_layWay : GoodIn wsX6_way wsX6_layWay := goodIn_r _ [15, 1, 16, 2, 17, 18, 19, 6, 20, 8, 21, 22, 23, 24, 25, 26, 27, 28, 29, 30, 31, 32, 33, 34, 35, 36, 37, 38, 39, 40, 41, 42, 43, 44, 45, 46, 47, 48, 49, 50, 51, 52, 53, 54, 55, 56, 57, 58, 59, 60, 61] (by decide +kernel) (by decide +kernel)
set_option maxRecDepth 20000 in
theorem gX6_way_X6_layWay : GoodIn wsX6_way (wsV RX6 143 RX6 yX6_layWay wsX6_layWay) := goodIn_app (goodIn_of _ (by decide +kernel)) ggX6_way_X6_layWay
set_option maxRecDepth 20000 in
theorem ggX6_way_X6_within : GoodIn wsX6_way wsX6_within := goodIn_r _ [11] (by decide +kernel) (by decide +kernel)
set_option maxRecDepth 20000 in
theorem gX6_way_X6_within : GoodIn wsX6_way (va_wsS RX6 48 yX6_within wsX6_within) := goodIn_app (goodIn_of _ (by decide +kernel)) ggX6_way_X6_within
theorem dX6_way_0 : decode cX6_way 0 = .ok (.aload_n 0, 1) := by decide +kernel
theorem dX6_way_1 : decode cX6_way 1 = .ok (.iload_n 1, 1) := by decide +kernel
theorem dX6_way_2 : decode cX6_way 2 = .ok (.invokevirtual 140, 3) := by decide +kernel
theorem dX6_way_5 : decode cX6_way 5 = .ok (.ifCond .eq 11, 3) := by decide +kernel
theorem dX6_way_8 : decode cX6_way 8 = .ok (.aload_n 0, 1) := by decide +kernel
theorem dX6_way_9 : decode cX6_way 9 = .ok (.iload_n 2, 1) := by decide +kernel
theorem dX6_way_10 : decode cX6_way 10 = .ok (.invokevirtual 140, 3) := by decide +kernel
theorem dX6_way_13 : decode cX6_way 13 = .ok (.ifCond .ne 7, 3) := by decide +kernel
theorem dX6_way_16 : decode cX6_way 16 = .ok (.sipush (-1001), 3) := by decide +kernel
theorem dX6_way_19 : decode cX6_way 19 = .ok (.ireturn, 1) := by decide +kernel
theorem dX6_way_20 : decode cX6_way 20 = .ok (.aload_n 0, 1) := by decide +kernel
theorem dX6_way_21 : decode cX6_way 21 = .ok (.iload_n 1, 1) := by decide +kernel
theorem dX6_way_22 : decode cX6_way 22 = .ok (.iload_n 2, 1) := by decide +kernel
theorem dX6_way_23 : decode cX6_way 23 = .ok (.invokevirtual 143, 3) := by decide +kernel
theorem dX6_way_26 : decode cX6_way 26 = .ok (.iload_n 3, 1) := by decide +kernel
theorem dX6_way_27 : decode cX6_way 27 = .ok (.iconst 0, 1) := by decide +kernel
theorem dX6_way_28 : decode cX6_way 28 = .ok (.aload_n 0, 1) := by decide +kernel
theorem dX6_way_29 : decode cX6_way 29 = .ok (.getfield 134, 3) := by decide +kernel
theorem dX6_way_32 : decode cX6_way 32 = .ok (.iconst 1, 1) := by decide +kernel
theorem dX6_way_33 : decode cX6_way 33 = .ok (.isub, 1) := by decide +kernel
theorem dX6_way_34 : decode cX6_way 34 = .ok (.invokestatic 48, 3) := by decide +kernel
theorem dX6_way_37 : decode cX6_way 37 = .ok (.ifCond .eq 12, 3) := by decide +kernel
theorem dX6_way_40 : decode cX6_way 40 = .ok (.aload_n 0, 1) := by decide +kernel
theorem dX6_way_41 : decode cX6_way 41 = .ok (.getfield 45, 3) := by decide +kernel
theorem dX6_way_44 : decode cX6_way 44 = .ok (.iload_n 3, 1) := by decide +kernel
theorem dX6_way_45 : decode cX6_way 45 = .ok (.iaload, 1) := by decide +kernel
theorem dX6_way_46 : decode cX6_way 46 = .ok (.goto 4, 3) := by decide +kernel
theorem dX6_way_49 : decode cX6_way 49 = .ok (.iconst (-1), 1) := by decide +kernel
theorem dX6_way_50 : decode cX6_way 50 = .ok (.ireturn, 1) := by decide +kernel
theorem dX6_linkFrom_0 : decode cX6_linkFrom 0 = .ok (.iconst (-1), 1) := by decide +kernel
theorem dX6_linkFrom_1 : decode cX6_linkFrom 1 = .ok (.istore_n 3, 1) := by decide +kernel
theorem dX6_linkFrom_2 : decode cX6_linkFrom 2 = .ok (.iconst 0, 1) := by decide +kernel
theorem dX6_linkFrom_3 : decode cX6_linkFrom 3 = .ok (.istore 4, 2) := by decide +kernel
theorem dX6_linkFrom_5 : decode cX6_linkFrom 5 = .ok (.iload 4, 2) := by decide +kernel
theorem dX6_linkFrom_7 : decode cX6_linkFrom 7 = .ok (.aload_n 0, 1) := by decide +kernel
theorem dX6_linkFrom_8 : decode cX6_linkFrom 8 = .ok (.getfield 85, 3) := by decide +kernel
theorem dX6_linkFrom_11 : decode cX6_linkFrom 11 = .ok (.if_icmp .ge 38, 3) := by decide +kernel
theorem dX6_linkFrom_14 : decode cX6_linkFrom 14 = .ok (.aload_n 0, 1) := by decide +kernel
theorem dX6_linkFrom_15 : decode cX6_linkFrom 15 = .ok (.getfield 13, 3) := by decide +kernel
theorem dX6_linkFrom_18 : decode cX6_linkFrom 18 = .ok (.iload 4, 2) := by decide +kernel
theorem dX6_linkFrom_20 : decode cX6_linkFrom 20 = .ok (.iaload, 1) := by decide +kernel
theorem dX6_linkFrom_21 : decode cX6_linkFrom 21 = .ok (.iload_n 1, 1) := by decide +kernel
theorem dX6_linkFrom_22 : decode cX6_linkFrom 22 = .ok (.if_icmp .ne 19, 3) := by decide +kernel
theorem dX6_linkFrom_25 : decode cX6_linkFrom 25 = .ok (.aload_n 0, 1) := by decide +kernel
theorem dX6_linkFrom_26 : decode cX6_linkFrom 26 = .ok (.getfield 16, 3) := by decide +kernel
theorem dX6_linkFrom_29 : decode cX6_linkFrom 29 = .ok (.iload 4, 2) := by decide +kernel
theorem dX6_linkFrom_31 : decode cX6_linkFrom 31 = .ok (.iaload, 1) := by decide +kernel
theorem dX6_linkFrom_32 : decode cX6_linkFrom 32 = .ok (.iload_n 2, 1) := by decide +kernel
theorem dX6_linkFrom_33 : decode cX6_linkFrom 33 = .ok (.if_icmp .ne 8, 3) := by decide +kernel
theorem dX6_linkFrom_36 : decode cX6_linkFrom 36 = .ok (.iload 4, 2) := by decide +kernel
theorem dX6_linkFrom_38 : decode cX6_linkFrom 38 = .ok (.goto 4, 3) := by decide +kernel
theorem dX6_linkFrom_41 : decode cX6_linkFrom 41 = .ok (.iload_n 3, 1) := by decide +kernel
theorem dX6_linkFrom_42 : decode cX6_linkFrom 42 = .ok (.istore_n 3, 1) := by decide +kernel
theorem dX6_linkFrom_43 : decode cX6_linkFrom 43 = .ok (.iinc 4 1, 3) := by decide +kernel
theorem dX6_linkFrom_46 : decode cX6_linkFrom 46 = .ok (.goto (-41), 3) := by decide +kernel
theorem dX6_linkFrom_49 : decode cX6_linkFrom 49 = .ok (.iload_n 3, 1) := by decide +kernel
theorem dX6_linkFrom_50 : decode cX6_linkFrom 50 = .ok (.ireturn, 1) := by decide +kernel
set_option maxRecDepth 20000 in
theorem ggX6_treeOf_X6_has : GoodIn wsX6_treeOf wsX6_has := goodIn_r _ [7] (by decide +kernel) (by decide +kernel)
set_option maxRecDepth 20000 in
theorem gX6_treeOf_X6_has : GoodIn wsX6_treeOf (va_wsS RX6 120 yX6_has wsX6_has) := goodIn_app (goodIn_of _ (by decide +kernel)) ggX6_treeOf_X6_has
set_option maxRecDepth 20000 in
theorem ggX6_treeOf_X6_layWay : GoodIn wsX6_treeOf wsX6_layWay := goodIn_r _ [11, 2, 12, 3, 13, 14, 15, 6, 16, 1, 17, 18, 19, 20, 21, 22, 23, 28, 29, 30, 31, 32, 33, 34, 35, 36, 37, 38, 39, 40, 41, 42, 43, 44, 45, 46, 47, 48, 49, 50, 51, 52, 53, 54, 55, 56, 57, 58, 59, 60, 61] (by decide +kernel) (by decide +kernel)
set_option maxRecDepth 20000 in
theorem gX6_treeOf_X6_layWay : GoodIn wsX6_treeOf (wsV RX6 143 RX6 yX6_layWay wsX6_layWay) := goodIn_app (goodIn_of _ (by decide +kernel)) ggX6_treeOf_X6_layWay
set_option maxRecDepth 20000 in
theorem ggX6_treeOf_X6_linkFrom : GoodIn wsX6_treeOf wsX6_linkFrom := goodIn_r _ [27, 17, 19, 18, 28, 29, 30, 31, 32, 33, 34, 35, 36, 37, 38, 39, 40, 41, 42, 43, 44, 45, 46, 47, 48, 49, 50, 51, 52, 53, 54, 55, 56, 57, 58, 59, 60, 61] (by decide +kernel) (by decide +kernel)
set_option maxRecDepth 20000 in
theorem gX6_treeOf_X6_linkFrom : GoodIn wsX6_treeOf (wsV RX6 147 RX6 yX6_linkFrom wsX6_linkFrom) := goodIn_app (goodIn_of _ (by decide +kernel)) ggX6_treeOf_X6_linkFrom
theorem dX6_treeOf_0 : decode cX6_treeOf 0 = .ok (.iconst 0, 1) := by decide +kernel
theorem dX6_treeOf_1 : decode cX6_treeOf 1 = .ok (.istore_n 3, 1) := by decide +kernel
theorem dX6_treeOf_2 : decode cX6_treeOf 2 = .ok (.iconst 0, 1) := by decide +kernel
theorem dX6_treeOf_3 : decode cX6_treeOf 3 = .ok (.istore 4, 2) := by decide +kernel
theorem dX6_treeOf_5 : decode cX6_treeOf 5 = .ok (.iload 4, 2) := by decide +kernel
theorem dX6_treeOf_7 : decode cX6_treeOf 7 = .ok (.aload_n 0, 1) := by decide +kernel
theorem dX6_treeOf_8 : decode cX6_treeOf 8 = .ok (.getfield 82, 3) := by decide +kernel
theorem dX6_treeOf_11 : decode cX6_treeOf 11 = .ok (.if_icmp .ge 68, 3) := by decide +kernel
theorem dX6_treeOf_14 : decode cX6_treeOf 14 = .ok (.iload_n 2, 1) := by decide +kernel
theorem dX6_treeOf_15 : decode cX6_treeOf 15 = .ok (.iload 4, 2) := by decide +kernel
theorem dX6_treeOf_17 : decode cX6_treeOf 17 = .ok (.invokestatic 120, 3) := by decide +kernel
theorem dX6_treeOf_20 : decode cX6_treeOf 20 = .ok (.ifCond .eq 53, 3) := by decide +kernel
theorem dX6_treeOf_23 : decode cX6_treeOf 23 = .ok (.aload_n 0, 1) := by decide +kernel
theorem dX6_treeOf_24 : decode cX6_treeOf 24 = .ok (.iload_n 1, 1) := by decide +kernel
theorem dX6_treeOf_25 : decode cX6_treeOf 25 = .ok (.iload 4, 2) := by decide +kernel
theorem dX6_treeOf_27 : decode cX6_treeOf 27 = .ok (.invokevirtual 143, 3) := by decide +kernel
theorem dX6_treeOf_30 : decode cX6_treeOf 30 = .ok (.iconst 1, 1) := by decide +kernel
theorem dX6_treeOf_31 : decode cX6_treeOf 31 = .ok (.istore 5, 2) := by decide +kernel
theorem dX6_treeOf_33 : decode cX6_treeOf 33 = .ok (.iload 5, 2) := by decide +kernel
theorem dX6_treeOf_35 : decode cX6_treeOf 35 = .ok (.aload_n 0, 1) := by decide +kernel
theorem dX6_treeOf_36 : decode cX6_treeOf 36 = .ok (.getfield 134, 3) := by decide +kernel
theorem dX6_treeOf_39 : decode cX6_treeOf 39 = .ok (.if_icmp .ge 34, 3) := by decide +kernel
theorem dX6_treeOf_42 : decode cX6_treeOf 42 = .ok (.iload_n 3, 1) := by decide +kernel
theorem dX6_treeOf_43 : decode cX6_treeOf 43 = .ok (.iconst 1, 1) := by decide +kernel
theorem dX6_treeOf_44 : decode cX6_treeOf 44 = .ok (.aload_n 0, 1) := by decide +kernel
theorem dX6_treeOf_45 : decode cX6_treeOf 45 = .ok (.aload_n 0, 1) := by decide +kernel
theorem dX6_treeOf_46 : decode cX6_treeOf 46 = .ok (.getfield 45, 3) := by decide +kernel
theorem dX6_treeOf_49 : decode cX6_treeOf 49 = .ok (.iload 5, 2) := by decide +kernel
theorem dX6_treeOf_51 : decode cX6_treeOf 51 = .ok (.iconst 1, 1) := by decide +kernel
theorem dX6_treeOf_52 : decode cX6_treeOf 52 = .ok (.isub, 1) := by decide +kernel
theorem dX6_treeOf_53 : decode cX6_treeOf 53 = .ok (.iaload, 1) := by decide +kernel
theorem dX6_treeOf_54 : decode cX6_treeOf 54 = .ok (.aload_n 0, 1) := by decide +kernel
theorem dX6_treeOf_55 : decode cX6_treeOf 55 = .ok (.getfield 45, 3) := by decide +kernel
theorem dX6_treeOf_58 : decode cX6_treeOf 58 = .ok (.iload 5, 2) := by decide +kernel
theorem dX6_treeOf_60 : decode cX6_treeOf 60 = .ok (.iaload, 1) := by decide +kernel
theorem dX6_treeOf_61 : decode cX6_treeOf 61 = .ok (.invokevirtual 147, 3) := by decide +kernel
theorem dX6_treeOf_64 : decode cX6_treeOf 64 = .ok (.ishl, 1) := by decide +kernel
theorem dX6_treeOf_65 : decode cX6_treeOf 65 = .ok (.ior, 1) := by decide +kernel
theorem dX6_treeOf_66 : decode cX6_treeOf 66 = .ok (.istore_n 3, 1) := by decide +kernel
theorem dX6_treeOf_67 : decode cX6_treeOf 67 = .ok (.iinc 5 1, 3) := by decide +kernel
theorem dX6_treeOf_70 : decode cX6_treeOf 70 = .ok (.goto (-37), 3) := by decide +kernel
theorem dX6_treeOf_73 : decode cX6_treeOf 73 = .ok (.iinc 4 1, 3) := by decide +kernel
theorem dX6_treeOf_76 : decode cX6_treeOf 76 = .ok (.goto (-71), 3) := by decide +kernel
theorem dX6_treeOf_79 : decode cX6_treeOf 79 = .ok (.iload_n 3, 1) := by decide +kernel
theorem dX6_treeOf_80 : decode cX6_treeOf 80 = .ok (.ireturn, 1) := by decide +kernel
set_option maxRecDepth 20000 in
theorem ggX6_isSet_X6_within : GoodIn wsX6_isSet wsX6_within := goodIn_r _ [5] (by decide +kernel) (by decide +kernel)
set_option maxRecDepth 20000 in
theorem gX6_isSet_X6_within : GoodIn wsX6_isSet (va_wsS RX6 48 yX6_within wsX6_within) := goodIn_app (goodIn_of _ (by decide +kernel)) ggX6_isSet_X6_within
theorem dX6_isSet_0 : decode cX6_isSet 0 = .ok (.iload_n 1, 1) := by decide +kernel
theorem dX6_isSet_1 : decode cX6_isSet 1 = .ok (.iconst 0, 1) := by decide +kernel
theorem dX6_isSet_2 : decode cX6_isSet 2 = .ok (.iconst 1, 1) := by decide +kernel
theorem dX6_isSet_3 : decode cX6_isSet 3 = .ok (.aload_n 0, 1) := by decide +kernel
theorem dX6_isSet_4 : decode cX6_isSet 4 = .ok (.getfield 82, 3) := by decide +kernel
theorem dX6_isSet_7 : decode cX6_isSet 7 = .ok (.ishl, 1) := by decide +kernel
theorem dX6_isSet_8 : decode cX6_isSet 8 = .ok (.iconst 1, 1) := by decide +kernel
theorem dX6_isSet_9 : decode cX6_isSet 9 = .ok (.isub, 1) := by decide +kernel
theorem dX6_isSet_10 : decode cX6_isSet 10 = .ok (.invokestatic 48, 3) := by decide +kernel
theorem dX6_isSet_13 : decode cX6_isSet 13 = .ok (.ireturn, 1) := by decide +kernel
set_option maxRecDepth 20000 in
theorem ggX6_tree_X6_isNode : GoodIn wsX6_tree wsX6_isNode := goodIn_r _ [5, 6, 7, 8, 4, 9, 43, 44, 45, 46, 47, 48, 49, 50, 51, 52, 53, 54, 55, 56, 57, 58, 59, 60, 61, 62, 63, 64, 65, 66, 67, 68, 69, 70, 71, 72, 73, 74, 75, 76] (by decide +kernel) (by decide +kernel)
set_option maxRecDepth 20000 in
theorem gX6_tree_X6_isNode : GoodIn wsX6_tree (wsV RX6 140 RX6 yX6_isNode wsX6_isNode) := goodIn_app (goodIn_of _ (by decide +kernel)) ggX6_tree_X6_isNode
set_option maxRecDepth 20000 in
theorem ggX6_tree_X6_isSet : GoodIn wsX6_tree wsX6_isSet := goodIn_r _ [13, 6, 7, 8, 4, 9, 43, 44, 45, 46, 47, 48, 49, 50, 51, 52, 53, 54, 55, 56, 57, 58, 59, 60, 61, 62, 63, 64, 65, 66, 67, 68, 69, 70, 71, 72, 73, 74, 75, 76] (by decide +kernel) (by decide +kernel)
set_option maxRecDepth 20000 in
theorem gX6_tree_X6_isSet : GoodIn wsX6_tree (wsV RX6 150 RX6 yX6_isSet wsX6_isSet) := goodIn_app (goodIn_of _ (by decide +kernel)) ggX6_tree_X6_isSet
set_option maxRecDepth 20000 in
theorem ggX6_tree_X6_treeOf : GoodIn wsX6_tree wsX6_treeOf := goodIn_r _ [17, 6, 18, 19, 20, 21, 4, 22, 23, 24, 25, 26, 27, 28, 29, 30, 31, 32, 33, 34, 35, 36, 37, 38, 39, 40, 41, 42, 43, 44, 45, 46, 47, 48, 49, 50, 51, 52, 53, 54, 55, 56, 57, 58, 59, 60, 61, 62, 63, 64, 65, 66, 67, 68, 69, 70, 71, 72, 73, 74, 75, 76] (by decide +kernel) (by decide +kernel)
set_option maxRecDepth 20000 in
theorem gX6_tree_X6_treeOf : GoodIn wsX6_tree (wsV RX6 153 RX6 yX6_treeOf wsX6_treeOf) := goodIn_app (goodIn_of _ (by decide +kernel)) ggX6_tree_X6_treeOf
theorem dX6_tree_0 : decode cX6_tree 0 = .ok (.aload_n 0, 1) := by decide +kernel
theorem dX6_tree_1 : decode cX6_tree 1 = .ok (.iload_n 1, 1) := by decide +kernel
theorem dX6_tree_2 : decode cX6_tree 2 = .ok (.invokevirtual 140, 3) := by decide +kernel
theorem dX6_tree_5 : decode cX6_tree 5 = .ok (.ifCond .ne 7, 3) := by decide +kernel
theorem dX6_tree_8 : decode cX6_tree 8 = .ok (.sipush (-1001), 3) := by decide +kernel
theorem dX6_tree_11 : decode cX6_tree 11 = .ok (.ireturn, 1) := by decide +kernel
theorem dX6_tree_12 : decode cX6_tree 12 = .ok (.aload_n 0, 1) := by decide +kernel
theorem dX6_tree_13 : decode cX6_tree 13 = .ok (.iload_n 2, 1) := by decide +kernel
theorem dX6_tree_14 : decode cX6_tree 14 = .ok (.invokevirtual 150, 3) := by decide +kernel
theorem dX6_tree_17 : decode cX6_tree 17 = .ok (.ifCond .eq 12, 3) := by decide +kernel
theorem dX6_tree_20 : decode cX6_tree 20 = .ok (.aload_n 0, 1) := by decide +kernel
theorem dX6_tree_21 : decode cX6_tree 21 = .ok (.iload_n 1, 1) := by decide +kernel
theorem dX6_tree_22 : decode cX6_tree 22 = .ok (.iload_n 2, 1) := by decide +kernel
theorem dX6_tree_23 : decode cX6_tree 23 = .ok (.invokevirtual 153, 3) := by decide +kernel
theorem dX6_tree_26 : decode cX6_tree 26 = .ok (.goto 6, 3) := by decide +kernel
theorem dX6_tree_29 : decode cX6_tree 29 = .ok (.sipush (-1002), 3) := by decide +kernel
theorem dX6_tree_32 : decode cX6_tree 32 = .ok (.ireturn, 1) := by decide +kernel
theorem dX6_ones_0 : decode cX6_ones 0 = .ok (.iconst 0, 1) := by decide +kernel
theorem dX6_ones_1 : decode cX6_ones 1 = .ok (.istore_n 2, 1) := by decide +kernel
theorem dX6_ones_2 : decode cX6_ones 2 = .ok (.iconst 0, 1) := by decide +kernel
theorem dX6_ones_3 : decode cX6_ones 3 = .ok (.istore_n 3, 1) := by decide +kernel
theorem dX6_ones_4 : decode cX6_ones 4 = .ok (.iload_n 3, 1) := by decide +kernel
theorem dX6_ones_5 : decode cX6_ones 5 = .ok (.bipush 40, 2) := by decide +kernel
theorem dX6_ones_7 : decode cX6_ones 7 = .ok (.if_icmp .ge 18, 3) := by decide +kernel
theorem dX6_ones_10 : decode cX6_ones 10 = .ok (.iload_n 2, 1) := by decide +kernel
theorem dX6_ones_11 : decode cX6_ones 11 = .ok (.lload_n 0, 1) := by decide +kernel
theorem dX6_ones_12 : decode cX6_ones 12 = .ok (.iload_n 3, 1) := by decide +kernel
theorem dX6_ones_13 : decode cX6_ones 13 = .ok (.lshr, 1) := by decide +kernel
theorem dX6_ones_14 : decode cX6_ones 14 = .ok (.lconst 1, 1) := by decide +kernel
theorem dX6_ones_15 : decode cX6_ones 15 = .ok (.land, 1) := by decide +kernel
theorem dX6_ones_16 : decode cX6_ones 16 = .ok (.l2i, 1) := by decide +kernel
theorem dX6_ones_17 : decode cX6_ones 17 = .ok (.iadd, 1) := by decide +kernel
theorem dX6_ones_18 : decode cX6_ones 18 = .ok (.istore_n 2, 1) := by decide +kernel
theorem dX6_ones_19 : decode cX6_ones 19 = .ok (.iinc 3 1, 3) := by decide +kernel
theorem dX6_ones_22 : decode cX6_ones 22 = .ok (.goto (-18), 3) := by decide +kernel
theorem dX6_ones_25 : decode cX6_ones 25 = .ok (.iload_n 2, 1) := by decide +kernel
theorem dX6_ones_26 : decode cX6_ones 26 = .ok (.ireturn, 1) := by decide +kernel
set_option maxRecDepth 20000 in
theorem ggX6_isPlace_X6_within : GoodIn wsX6_isPlace wsX6_within := goodIn_r _ [4] (by decide +kernel) (by decide +kernel)
set_option maxRecDepth 20000 in
theorem gX6_isPlace_X6_within : GoodIn wsX6_isPlace (va_wsS RX6 48 yX6_within wsX6_within) := goodIn_app (goodIn_of _ (by decide +kernel)) ggX6_isPlace_X6_within
theorem dX6_isPlace_0 : decode cX6_isPlace 0 = .ok (.iload_n 0, 1) := by decide +kernel
theorem dX6_isPlace_1 : decode cX6_isPlace 1 = .ok (.iconst 0, 1) := by decide +kernel
theorem dX6_isPlace_2 : decode cX6_isPlace 2 = .ok (.iconst 3, 1) := by decide +kernel
theorem dX6_isPlace_3 : decode cX6_isPlace 3 = .ok (.invokestatic 48, 3) := by decide +kernel
theorem dX6_isPlace_6 : decode cX6_isPlace 6 = .ok (.ireturn, 1) := by decide +kernel
set_option maxRecDepth 20000 in
theorem ggX6_bind_X6_isPlace : GoodIn wsX6_bind wsX6_isPlace := goodIn_r _ [5, 6, 7, 4, 8] (by decide +kernel) (by decide +kernel)
set_option maxRecDepth 20000 in
theorem gX6_bind_X6_isPlace : GoodIn wsX6_bind (va_wsS RX6 156 yX6_isPlace wsX6_isPlace) := goodIn_app (goodIn_of _ (by decide +kernel)) ggX6_bind_X6_isPlace
set_option maxRecDepth 20000 in
theorem ggX6_bind_X6_isNode : GoodIn wsX6_bind wsX6_isNode := goodIn_r _ [12, 13, 6, 7, 4, 8, 50, 51, 52, 53, 54, 55, 56, 57, 58, 59, 60, 61, 62, 63, 64, 65, 66, 67, 68, 69, 70, 71, 72, 73, 74, 75, 76, 77, 78, 79, 80, 81, 82, 83] (by decide +kernel) (by decide +kernel)
set_option maxRecDepth 20000 in
theorem gX6_bind_X6_isNode : GoodIn wsX6_bind (wsV RX6 140 RX6 yX6_isNode wsX6_isNode) := goodIn_app (goodIn_of _ (by decide +kernel)) ggX6_bind_X6_isNode
set_option maxRecDepth 20000 in
theorem ggX6_bind_X6_isSet : GoodIn wsX6_bind wsX6_isSet := goodIn_r _ [17, 13, 6, 7, 4, 8, 50, 51, 52, 53, 54, 55, 56, 57, 58, 59, 60, 61, 62, 63, 64, 65, 66, 67, 68, 69, 70, 71, 72, 73, 74, 75, 76, 77, 78, 79, 80, 81, 82, 83] (by decide +kernel) (by decide +kernel)
set_option maxRecDepth 20000 in
theorem gX6_bind_X6_isSet : GoodIn wsX6_bind (wsV RX6 150 RX6 yX6_isSet wsX6_isSet) := goodIn_app (goodIn_of _ (by decide +kernel)) ggX6_bind_X6_isSet
set_option maxRecDepth 20000 in
theorem ggX6_bind_X6_treeOf : GoodIn wsX6_bind wsX6_treeOf := goodIn_r _ [21, 13, 22, 23, 24, 25, 4, 26, 27, 28, 29, 30, 31, 32, 33, 34, 35, 36, 37, 38, 39, 40, 41, 42, 43, 44, 45, 46, 50, 51, 52, 53, 54, 55, 56, 57, 58, 59, 60, 61, 62, 63, 64, 65, 66, 67, 68, 69, 70, 71, 72, 73, 74, 75, 76, 77, 78, 79, 80, 81, 82, 83] (by decide +kernel) (by decide +kernel)
set_option maxRecDepth 20000 in
theorem gX6_bind_X6_treeOf : GoodIn wsX6_bind (wsV RX6 153 RX6 yX6_treeOf wsX6_treeOf) := goodIn_app (goodIn_of _ (by decide +kernel)) ggX6_bind_X6_treeOf
set_option maxRecDepth 20000 in
theorem ggX6_bind_X6_ones : GoodIn wsX6_bind wsX6_ones := goodIn_r _ [49] (by decide +kernel) (by decide +kernel)
set_option maxRecDepth 20000 in
theorem gX6_bind_X6_ones : GoodIn wsX6_bind (va_wsS RX6 159 yX6_ones wsX6_ones) := goodIn_app (goodIn_of _ (by decide +kernel)) ggX6_bind_X6_ones
theorem dX6_bind_0 : decode cX6_bind 0 = .ok (.iload_n 1, 1) := by decide +kernel
theorem dX6_bind_1 : decode cX6_bind 1 = .ok (.invokestatic 156, 3) := by decide +kernel
theorem dX6_bind_4 : decode cX6_bind 4 = .ok (.ifCond .eq 11, 3) := by decide +kernel
theorem dX6_bind_7 : decode cX6_bind 7 = .ok (.aload_n 0, 1) := by decide +kernel
theorem dX6_bind_8 : decode cX6_bind 8 = .ok (.iload_n 2, 1) := by decide +kernel
theorem dX6_bind_9 : decode cX6_bind 9 = .ok (.invokevirtual 140, 3) := by decide +kernel
theorem dX6_bind_12 : decode cX6_bind 12 = .ok (.ifCond .ne 7, 3) := by decide +kernel
theorem dX6_bind_15 : decode cX6_bind 15 = .ok (.sipush (-1001), 3) := by decide +kernel
theorem dX6_bind_18 : decode cX6_bind 18 = .ok (.ireturn, 1) := by decide +kernel
theorem dX6_bind_19 : decode cX6_bind 19 = .ok (.aload_n 0, 1) := by decide +kernel
theorem dX6_bind_20 : decode cX6_bind 20 = .ok (.iload_n 3, 1) := by decide +kernel
theorem dX6_bind_21 : decode cX6_bind 21 = .ok (.invokevirtual 150, 3) := by decide +kernel
theorem dX6_bind_24 : decode cX6_bind 24 = .ok (.ifCond .ne 7, 3) := by decide +kernel
theorem dX6_bind_27 : decode cX6_bind 27 = .ok (.sipush (-1002), 3) := by decide +kernel
theorem dX6_bind_30 : decode cX6_bind 30 = .ok (.ireturn, 1) := by decide +kernel
theorem dX6_bind_31 : decode cX6_bind 31 = .ok (.aload_n 0, 1) := by decide +kernel
theorem dX6_bind_32 : decode cX6_bind 32 = .ok (.iload_n 2, 1) := by decide +kernel
theorem dX6_bind_33 : decode cX6_bind 33 = .ok (.iload_n 3, 1) := by decide +kernel
theorem dX6_bind_34 : decode cX6_bind 34 = .ok (.invokevirtual 153, 3) := by decide +kernel
theorem dX6_bind_37 : decode cX6_bind 37 = .ok (.istore 4, 2) := by decide +kernel
theorem dX6_bind_39 : decode cX6_bind 39 = .ok (.iload 4, 2) := by decide +kernel
theorem dX6_bind_41 : decode cX6_bind 41 = .ok (.ifCond .ne 7, 3) := by decide +kernel
theorem dX6_bind_44 : decode cX6_bind 44 = .ok (.sipush (-1003), 3) := by decide +kernel
theorem dX6_bind_47 : decode cX6_bind 47 = .ok (.ireturn, 1) := by decide +kernel
theorem dX6_bind_48 : decode cX6_bind 48 = .ok (.aload_n 0, 1) := by decide +kernel
theorem dX6_bind_49 : decode cX6_bind 49 = .ok (.getfield 29, 3) := by decide +kernel
theorem dX6_bind_52 : decode cX6_bind 52 = .ok (.iload_n 1, 1) := by decide +kernel
theorem dX6_bind_53 : decode cX6_bind 53 = .ok (.iaload, 1) := by decide +kernel
theorem dX6_bind_54 : decode cX6_bind 54 = .ok (.ifCond .eq 7, 3) := by decide +kernel
theorem dX6_bind_57 : decode cX6_bind 57 = .ok (.sipush (-1004), 3) := by decide +kernel
theorem dX6_bind_60 : decode cX6_bind 60 = .ok (.ireturn, 1) := by decide +kernel
theorem dX6_bind_61 : decode cX6_bind 61 = .ok (.aload_n 0, 1) := by decide +kernel
theorem dX6_bind_62 : decode cX6_bind 62 = .ok (.getfield 29, 3) := by decide +kernel
theorem dX6_bind_65 : decode cX6_bind 65 = .ok (.iload_n 1, 1) := by decide +kernel
theorem dX6_bind_66 : decode cX6_bind 66 = .ok (.iload 4, 2) := by decide +kernel
theorem dX6_bind_68 : decode cX6_bind 68 = .ok (.iastore, 1) := by decide +kernel
theorem dX6_bind_69 : decode cX6_bind 69 = .ok (.iload 4, 2) := by decide +kernel
theorem dX6_bind_71 : decode cX6_bind 71 = .ok (.i2l, 1) := by decide +kernel
theorem dX6_bind_72 : decode cX6_bind 72 = .ok (.invokestatic 159, 3) := by decide +kernel
theorem dX6_bind_75 : decode cX6_bind 75 = .ok (.ireturn, 1) := by decide +kernel
set_option maxRecDepth 20000 in
theorem ggX6_loosen_X6_isPlace : GoodIn wsX6_loosen wsX6_isPlace := goodIn_r _ [5, 6, 7, 4, 8] (by decide +kernel) (by decide +kernel)
set_option maxRecDepth 20000 in
theorem gX6_loosen_X6_isPlace : GoodIn wsX6_loosen (va_wsS RX6 156 yX6_isPlace wsX6_isPlace) := goodIn_app (goodIn_of _ (by decide +kernel)) ggX6_loosen_X6_isPlace
theorem dX6_loosen_0 : decode cX6_loosen 0 = .ok (.iload_n 1, 1) := by decide +kernel
theorem dX6_loosen_1 : decode cX6_loosen 1 = .ok (.invokestatic 156, 3) := by decide +kernel
theorem dX6_loosen_4 : decode cX6_loosen 4 = .ok (.ifCond .ne 7, 3) := by decide +kernel
theorem dX6_loosen_7 : decode cX6_loosen 7 = .ok (.sipush (-1001), 3) := by decide +kernel
theorem dX6_loosen_10 : decode cX6_loosen 10 = .ok (.ireturn, 1) := by decide +kernel
theorem dX6_loosen_11 : decode cX6_loosen 11 = .ok (.aload_n 0, 1) := by decide +kernel
theorem dX6_loosen_12 : decode cX6_loosen 12 = .ok (.getfield 29, 3) := by decide +kernel
theorem dX6_loosen_15 : decode cX6_loosen 15 = .ok (.iload_n 1, 1) := by decide +kernel
theorem dX6_loosen_16 : decode cX6_loosen 16 = .ok (.iaload, 1) := by decide +kernel
theorem dX6_loosen_17 : decode cX6_loosen 17 = .ok (.ifCond .ne 7, 3) := by decide +kernel
theorem dX6_loosen_20 : decode cX6_loosen 20 = .ok (.sipush (-1003), 3) := by decide +kernel
theorem dX6_loosen_23 : decode cX6_loosen 23 = .ok (.ireturn, 1) := by decide +kernel
theorem dX6_loosen_24 : decode cX6_loosen 24 = .ok (.aload_n 0, 1) := by decide +kernel
theorem dX6_loosen_25 : decode cX6_loosen 25 = .ok (.getfield 29, 3) := by decide +kernel
theorem dX6_loosen_28 : decode cX6_loosen 28 = .ok (.iload_n 1, 1) := by decide +kernel
theorem dX6_loosen_29 : decode cX6_loosen 29 = .ok (.iaload, 1) := by decide +kernel
theorem dX6_loosen_30 : decode cX6_loosen 30 = .ok (.istore_n 2, 1) := by decide +kernel
theorem dX6_loosen_31 : decode cX6_loosen 31 = .ok (.aload_n 0, 1) := by decide +kernel
theorem dX6_loosen_32 : decode cX6_loosen 32 = .ok (.getfield 29, 3) := by decide +kernel
theorem dX6_loosen_35 : decode cX6_loosen 35 = .ok (.iload_n 1, 1) := by decide +kernel
theorem dX6_loosen_36 : decode cX6_loosen 36 = .ok (.iconst 0, 1) := by decide +kernel
theorem dX6_loosen_37 : decode cX6_loosen 37 = .ok (.iastore, 1) := by decide +kernel
theorem dX6_loosen_38 : decode cX6_loosen 38 = .ok (.iload_n 2, 1) := by decide +kernel
theorem dX6_loosen_39 : decode cX6_loosen 39 = .ok (.ireturn, 1) := by decide +kernel
set_option maxRecDepth 20000 in
theorem ggX6_bound_X6_isPlace : GoodIn wsX6_bound wsX6_isPlace := goodIn_r _ [8, 9, 10, 7, 11] (by decide +kernel) (by decide +kernel)
set_option maxRecDepth 20000 in
theorem gX6_bound_X6_isPlace : GoodIn wsX6_bound (va_wsS RX6 156 yX6_isPlace wsX6_isPlace) := goodIn_app (goodIn_of _ (by decide +kernel)) ggX6_bound_X6_isPlace
set_option maxRecDepth 20000 in
theorem ggX6_bound_X6_isVariant : GoodIn wsX6_bound wsX6_isVariant := goodIn_r _ [14, 9, 10, 7, 11] (by decide +kernel) (by decide +kernel)
set_option maxRecDepth 20000 in
theorem gX6_bound_X6_isVariant : GoodIn wsX6_bound (va_wsS RX6 115 yX6_isVariant wsX6_isVariant) := goodIn_app (goodIn_of _ (by decide +kernel)) ggX6_bound_X6_isVariant
theorem dX6_bound_0 : decode cX6_bound 0 = .ok (.iload_n 1, 1) := by decide +kernel
theorem dX6_bound_1 : decode cX6_bound 1 = .ok (.invokestatic 156, 3) := by decide +kernel
theorem dX6_bound_4 : decode cX6_bound 4 = .ok (.ifCond .eq 12, 3) := by decide +kernel
theorem dX6_bound_7 : decode cX6_bound 7 = .ok (.aload_n 0, 1) := by decide +kernel
theorem dX6_bound_8 : decode cX6_bound 8 = .ok (.getfield 29, 3) := by decide +kernel
theorem dX6_bound_11 : decode cX6_bound 11 = .ok (.iload_n 1, 1) := by decide +kernel
theorem dX6_bound_12 : decode cX6_bound 12 = .ok (.iaload, 1) := by decide +kernel
theorem dX6_bound_13 : decode cX6_bound 13 = .ok (.ifCond .ne 7, 3) := by decide +kernel
theorem dX6_bound_16 : decode cX6_bound 16 = .ok (.ldc2_w 113, 3) := by decide +kernel
theorem dX6_bound_19 : decode cX6_bound 19 = .ok (.lreturn, 1) := by decide +kernel
theorem dX6_bound_20 : decode cX6_bound 20 = .ok (.iload_n 2, 1) := by decide +kernel
theorem dX6_bound_21 : decode cX6_bound 21 = .ok (.invokestatic 115, 3) := by decide +kernel
theorem dX6_bound_24 : decode cX6_bound 24 = .ok (.ifCond .eq 20, 3) := by decide +kernel
theorem dX6_bound_27 : decode cX6_bound 27 = .ok (.aload_n 0, 1) := by decide +kernel
theorem dX6_bound_28 : decode cX6_bound 28 = .ok (.getfield 38, 3) := by decide +kernel
theorem dX6_bound_31 : decode cX6_bound 31 = .ok (.bipush 20, 2) := by decide +kernel
theorem dX6_bound_33 : decode cX6_bound 33 = .ok (.iload_n 2, 1) := by decide +kernel
theorem dX6_bound_34 : decode cX6_bound 34 = .ok (.imul, 1) := by decide +kernel
theorem dX6_bound_35 : decode cX6_bound 35 = .ok (.bipush 16, 2) := by decide +kernel
theorem dX6_bound_37 : decode cX6_bound 37 = .ok (.iadd, 1) := by decide +kernel
theorem dX6_bound_38 : decode cX6_bound 38 = .ok (.iload_n 1, 1) := by decide +kernel
theorem dX6_bound_39 : decode cX6_bound 39 = .ok (.iadd, 1) := by decide +kernel
theorem dX6_bound_40 : decode cX6_bound 40 = .ok (.laload, 1) := by decide +kernel
theorem dX6_bound_41 : decode cX6_bound 41 = .ok (.goto 6, 3) := by decide +kernel
theorem dX6_bound_44 : decode cX6_bound 44 = .ok (.ldc2_w 118, 3) := by decide +kernel
theorem dX6_bound_47 : decode cX6_bound 47 = .ok (.lreturn, 1) := by decide +kernel
set_option maxRecDepth 20000 in
theorem ggX6_foldOf_X6_has : GoodIn wsX6_foldOf wsX6_has := goodIn_r _ [7] (by decide +kernel) (by decide +kernel)
set_option maxRecDepth 20000 in
theorem gX6_foldOf_X6_has : GoodIn wsX6_foldOf (va_wsS RX6 120 yX6_has wsX6_has) := goodIn_app (goodIn_of _ (by decide +kernel)) ggX6_foldOf_X6_has
theorem dX6_foldOf_0 : decode cX6_foldOf 0 = .ok (.lconst 0, 1) := by decide +kernel
theorem dX6_foldOf_1 : decode cX6_foldOf 1 = .ok (.lstore 4, 2) := by decide +kernel
theorem dX6_foldOf_3 : decode cX6_foldOf 3 = .ok (.iload_n 1, 1) := by decide +kernel
theorem dX6_foldOf_4 : decode cX6_foldOf 4 = .ok (.istore 6, 2) := by decide +kernel
theorem dX6_foldOf_6 : decode cX6_foldOf 6 = .ok (.iconst 0, 1) := by decide +kernel
theorem dX6_foldOf_7 : decode cX6_foldOf 7 = .ok (.istore 7, 2) := by decide +kernel
theorem dX6_foldOf_9 : decode cX6_foldOf 9 = .ok (.iload 7, 2) := by decide +kernel
theorem dX6_foldOf_11 : decode cX6_foldOf 11 = .ok (.iconst 4, 1) := by decide +kernel
theorem dX6_foldOf_12 : decode cX6_foldOf 12 = .ok (.if_icmp .ge 71, 3) := by decide +kernel
theorem dX6_foldOf_15 : decode cX6_foldOf 15 = .ok (.iload_n 3, 1) := by decide +kernel
theorem dX6_foldOf_16 : decode cX6_foldOf 16 = .ok (.ifCond .eq 67, 3) := by decide +kernel
theorem dX6_foldOf_19 : decode cX6_foldOf 19 = .ok (.aload_n 0, 1) := by decide +kernel
theorem dX6_foldOf_20 : decode cX6_foldOf 20 = .ok (.getfield 29, 3) := by decide +kernel
theorem dX6_foldOf_23 : decode cX6_foldOf 23 = .ok (.iload 7, 2) := by decide +kernel
theorem dX6_foldOf_25 : decode cX6_foldOf 25 = .ok (.iaload, 1) := by decide +kernel
theorem dX6_foldOf_26 : decode cX6_foldOf 26 = .ok (.ifCond .eq 51, 3) := by decide +kernel
theorem dX6_foldOf_29 : decode cX6_foldOf 29 = .ok (.aload_n 0, 1) := by decide +kernel
theorem dX6_foldOf_30 : decode cX6_foldOf 30 = .ok (.getfield 29, 3) := by decide +kernel
theorem dX6_foldOf_33 : decode cX6_foldOf 33 = .ok (.iload 7, 2) := by decide +kernel
theorem dX6_foldOf_35 : decode cX6_foldOf 35 = .ok (.iaload, 1) := by decide +kernel
theorem dX6_foldOf_36 : decode cX6_foldOf 36 = .ok (.iload_n 1, 1) := by decide +kernel
theorem dX6_foldOf_37 : decode cX6_foldOf 37 = .ok (.iconst (-1), 1) := by decide +kernel
theorem dX6_foldOf_38 : decode cX6_foldOf 38 = .ok (.ixor, 1) := by decide +kernel
theorem dX6_foldOf_39 : decode cX6_foldOf 39 = .ok (.iand, 1) := by decide +kernel
theorem dX6_foldOf_40 : decode cX6_foldOf 40 = .ok (.ifCond .ne 37, 3) := by decide +kernel
theorem dX6_foldOf_43 : decode cX6_foldOf 43 = .ok (.lload 4, 2) := by decide +kernel
theorem dX6_foldOf_45 : decode cX6_foldOf 45 = .ok (.aload_n 0, 1) := by decide +kernel
theorem dX6_foldOf_46 : decode cX6_foldOf 46 = .ok (.getfield 38, 3) := by decide +kernel
theorem dX6_foldOf_49 : decode cX6_foldOf 49 = .ok (.bipush 20, 2) := by decide +kernel
theorem dX6_foldOf_51 : decode cX6_foldOf 51 = .ok (.iload_n 2, 1) := by decide +kernel
theorem dX6_foldOf_52 : decode cX6_foldOf 52 = .ok (.imul, 1) := by decide +kernel
theorem dX6_foldOf_53 : decode cX6_foldOf 53 = .ok (.bipush 16, 2) := by decide +kernel
theorem dX6_foldOf_55 : decode cX6_foldOf 55 = .ok (.iadd, 1) := by decide +kernel
theorem dX6_foldOf_56 : decode cX6_foldOf 56 = .ok (.iload 7, 2) := by decide +kernel
theorem dX6_foldOf_58 : decode cX6_foldOf 58 = .ok (.iadd, 1) := by decide +kernel
theorem dX6_foldOf_59 : decode cX6_foldOf 59 = .ok (.laload, 1) := by decide +kernel
theorem dX6_foldOf_60 : decode cX6_foldOf 60 = .ok (.lor, 1) := by decide +kernel
theorem dX6_foldOf_61 : decode cX6_foldOf 61 = .ok (.lstore 4, 2) := by decide +kernel
theorem dX6_foldOf_63 : decode cX6_foldOf 63 = .ok (.iload 6, 2) := by decide +kernel
theorem dX6_foldOf_65 : decode cX6_foldOf 65 = .ok (.aload_n 0, 1) := by decide +kernel
theorem dX6_foldOf_66 : decode cX6_foldOf 66 = .ok (.getfield 29, 3) := by decide +kernel
theorem dX6_foldOf_69 : decode cX6_foldOf 69 = .ok (.iload 7, 2) := by decide +kernel
theorem dX6_foldOf_71 : decode cX6_foldOf 71 = .ok (.iaload, 1) := by decide +kernel
theorem dX6_foldOf_72 : decode cX6_foldOf 72 = .ok (.iconst (-1), 1) := by decide +kernel
theorem dX6_foldOf_73 : decode cX6_foldOf 73 = .ok (.ixor, 1) := by decide +kernel
theorem dX6_foldOf_74 : decode cX6_foldOf 74 = .ok (.iand, 1) := by decide +kernel
theorem dX6_foldOf_75 : decode cX6_foldOf 75 = .ok (.istore 6, 2) := by decide +kernel
theorem dX6_foldOf_77 : decode cX6_foldOf 77 = .ok (.iinc 7 1, 3) := by decide +kernel
theorem dX6_foldOf_80 : decode cX6_foldOf 80 = .ok (.goto (-71), 3) := by decide +kernel
theorem dX6_foldOf_83 : decode cX6_foldOf 83 = .ok (.iconst 0, 1) := by decide +kernel
theorem dX6_foldOf_84 : decode cX6_foldOf 84 = .ok (.istore 7, 2) := by decide +kernel
theorem dX6_foldOf_86 : decode cX6_foldOf 86 = .ok (.iload 7, 2) := by decide +kernel
theorem dX6_foldOf_88 : decode cX6_foldOf 88 = .ok (.aload_n 0, 1) := by decide +kernel
theorem dX6_foldOf_89 : decode cX6_foldOf 89 = .ok (.getfield 85, 3) := by decide +kernel
theorem dX6_foldOf_92 : decode cX6_foldOf 92 = .ok (.if_icmp .ge 40, 3) := by decide +kernel
theorem dX6_foldOf_95 : decode cX6_foldOf 95 = .ok (.lload 4, 2) := by decide +kernel
theorem dX6_foldOf_97 : decode cX6_foldOf 97 = .ok (.iload 6, 2) := by decide +kernel
theorem dX6_foldOf_99 : decode cX6_foldOf 99 = .ok (.iload 7, 2) := by decide +kernel
theorem dX6_foldOf_101 : decode cX6_foldOf 101 = .ok (.invokestatic 120, 3) := by decide +kernel
theorem dX6_foldOf_104 : decode cX6_foldOf 104 = .ok (.ifCond .eq 18, 3) := by decide +kernel
theorem dX6_foldOf_107 : decode cX6_foldOf 107 = .ok (.aload_n 0, 1) := by decide +kernel
theorem dX6_foldOf_108 : decode cX6_foldOf 108 = .ok (.getfield 38, 3) := by decide +kernel
theorem dX6_foldOf_111 : decode cX6_foldOf 111 = .ok (.bipush 20, 2) := by decide +kernel
theorem dX6_foldOf_113 : decode cX6_foldOf 113 = .ok (.iload_n 2, 1) := by decide +kernel
theorem dX6_foldOf_114 : decode cX6_foldOf 114 = .ok (.imul, 1) := by decide +kernel
theorem dX6_foldOf_115 : decode cX6_foldOf 115 = .ok (.iload 7, 2) := by decide +kernel
theorem dX6_foldOf_117 : decode cX6_foldOf 117 = .ok (.iadd, 1) := by decide +kernel
theorem dX6_foldOf_118 : decode cX6_foldOf 118 = .ok (.laload, 1) := by decide +kernel
theorem dX6_foldOf_119 : decode cX6_foldOf 119 = .ok (.goto 4, 3) := by decide +kernel
theorem dX6_foldOf_122 : decode cX6_foldOf 122 = .ok (.lconst 0, 1) := by decide +kernel
theorem dX6_foldOf_123 : decode cX6_foldOf 123 = .ok (.lor, 1) := by decide +kernel
theorem dX6_foldOf_124 : decode cX6_foldOf 124 = .ok (.lstore 4, 2) := by decide +kernel
theorem dX6_foldOf_126 : decode cX6_foldOf 126 = .ok (.iinc 7 1, 3) := by decide +kernel
theorem dX6_foldOf_129 : decode cX6_foldOf 129 = .ok (.goto (-43), 3) := by decide +kernel
theorem dX6_foldOf_132 : decode cX6_foldOf 132 = .ok (.lload 4, 2) := by decide +kernel
theorem dX6_foldOf_134 : decode cX6_foldOf 134 = .ok (.lreturn, 1) := by decide +kernel
set_option maxRecDepth 20000 in
theorem ggX6_fold_X6_isNode : GoodIn wsX6_fold wsX6_isNode := goodIn_r _ [7, 8, 9, 10, 6, 11, 54, 55, 56, 57, 58, 59, 60, 61, 62, 63, 64, 65, 66, 67, 68, 69, 70, 71, 72, 73, 74, 75, 76, 77, 78, 79, 80, 81, 82, 83, 84, 85, 86, 87] (by decide +kernel) (by decide +kernel)
set_option maxRecDepth 20000 in
theorem gX6_fold_X6_isNode : GoodIn wsX6_fold (wsV RX6 140 RX6 yX6_isNode wsX6_isNode) := goodIn_app (goodIn_of _ (by decide +kernel)) ggX6_fold_X6_isNode
set_option maxRecDepth 20000 in
theorem ggX6_fold_X6_isSet : GoodIn wsX6_fold wsX6_isSet := goodIn_r _ [15, 8, 9, 10, 6, 11, 54, 55, 56, 57, 58, 59, 60, 61, 62, 63, 64, 65, 66, 67, 68, 69, 70, 71, 72, 73, 74, 75, 76, 77, 78, 79, 80, 81, 82, 83, 84, 85, 86, 87] (by decide +kernel) (by decide +kernel)
set_option maxRecDepth 20000 in
theorem gX6_fold_X6_isSet : GoodIn wsX6_fold (wsV RX6 150 RX6 yX6_isSet wsX6_isSet) := goodIn_app (goodIn_of _ (by decide +kernel)) ggX6_fold_X6_isSet
set_option maxRecDepth 20000 in
theorem ggX6_fold_X6_isVariant : GoodIn wsX6_fold wsX6_isVariant := goodIn_r _ [18, 9, 10, 6, 11] (by decide +kernel) (by decide +kernel)
set_option maxRecDepth 20000 in
theorem gX6_fold_X6_isVariant : GoodIn wsX6_fold (va_wsS RX6 115 yX6_isVariant wsX6_isVariant) := goodIn_app (goodIn_of _ (by decide +kernel)) ggX6_fold_X6_isVariant
set_option maxRecDepth 20000 in
theorem ggX6_fold_X6_treeOf : GoodIn wsX6_fold wsX6_treeOf := goodIn_r _ [22, 8, 23, 24, 25, 26, 6, 27, 28, 29, 30, 31, 32, 33, 34, 35, 36, 37, 38, 39, 40, 41, 42, 43, 44, 45, 46, 47, 54, 55, 56, 57, 58, 59, 60, 61, 62, 63, 64, 65, 66, 67, 68, 69, 70, 71, 72, 73, 74, 75, 76, 77, 78, 79, 80, 81, 82, 83, 84, 85, 86, 87] (by decide +kernel) (by decide +kernel)
set_option maxRecDepth 20000 in
theorem gX6_fold_X6_treeOf : GoodIn wsX6_fold (wsV RX6 153 RX6 yX6_treeOf wsX6_treeOf) := goodIn_app (goodIn_of _ (by decide +kernel)) ggX6_fold_X6_treeOf
set_option maxRecDepth 20000 in
theorem ggX6_fold_X6_foldOf : GoodIn wsX6_fold wsX6_foldOf := goodIn_r _ [51, 52, 53, 37, 25, 26, 6, 27, 54, 55, 56, 57, 58, 59, 60, 61, 62, 63, 64, 65, 66, 67, 68, 69, 70, 71, 72, 73, 74, 75, 76, 77, 78, 79, 80, 81, 82, 83, 84, 85, 86, 87] (by decide +kernel) (by decide +kernel)
set_option maxRecDepth 20000 in
theorem gX6_fold_X6_foldOf : GoodIn wsX6_fold (wsV RX6 163 RX6 yX6_foldOf wsX6_foldOf) := goodIn_app (goodIn_of _ (by decide +kernel)) ggX6_fold_X6_foldOf
theorem dX6_fold_0 : decode cX6_fold 0 = .ok (.aload_n 0, 1) := by decide +kernel
theorem dX6_fold_1 : decode cX6_fold 1 = .ok (.iload_n 1, 1) := by decide +kernel
theorem dX6_fold_2 : decode cX6_fold 2 = .ok (.invokevirtual 140, 3) := by decide +kernel
theorem dX6_fold_5 : decode cX6_fold 5 = .ok (.ifCond .ne 7, 3) := by decide +kernel
theorem dX6_fold_8 : decode cX6_fold 8 = .ok (.ldc2_w 113, 3) := by decide +kernel
theorem dX6_fold_11 : decode cX6_fold 11 = .ok (.lreturn, 1) := by decide +kernel
theorem dX6_fold_12 : decode cX6_fold 12 = .ok (.aload_n 0, 1) := by decide +kernel
theorem dX6_fold_13 : decode cX6_fold 13 = .ok (.iload_n 2, 1) := by decide +kernel
theorem dX6_fold_14 : decode cX6_fold 14 = .ok (.invokevirtual 150, 3) := by decide +kernel
theorem dX6_fold_17 : decode cX6_fold 17 = .ok (.ifCond .eq 26, 3) := by decide +kernel
theorem dX6_fold_20 : decode cX6_fold 20 = .ok (.iload_n 3, 1) := by decide +kernel
theorem dX6_fold_21 : decode cX6_fold 21 = .ok (.invokestatic 115, 3) := by decide +kernel
theorem dX6_fold_24 : decode cX6_fold 24 = .ok (.ifCond .eq 19, 3) := by decide +kernel
theorem dX6_fold_27 : decode cX6_fold 27 = .ok (.aload_n 0, 1) := by decide +kernel
theorem dX6_fold_28 : decode cX6_fold 28 = .ok (.aload_n 0, 1) := by decide +kernel
theorem dX6_fold_29 : decode cX6_fold 29 = .ok (.iload_n 1, 1) := by decide +kernel
theorem dX6_fold_30 : decode cX6_fold 30 = .ok (.iload_n 2, 1) := by decide +kernel
theorem dX6_fold_31 : decode cX6_fold 31 = .ok (.invokevirtual 153, 3) := by decide +kernel
theorem dX6_fold_34 : decode cX6_fold 34 = .ok (.iload_n 3, 1) := by decide +kernel
theorem dX6_fold_35 : decode cX6_fold 35 = .ok (.iload 4, 2) := by decide +kernel
theorem dX6_fold_37 : decode cX6_fold 37 = .ok (.invokevirtual 163, 3) := by decide +kernel
theorem dX6_fold_40 : decode cX6_fold 40 = .ok (.goto 6, 3) := by decide +kernel
theorem dX6_fold_43 : decode cX6_fold 43 = .ok (.ldc2_w 118, 3) := by decide +kernel
theorem dX6_fold_46 : decode cX6_fold 46 = .ok (.lreturn, 1) := by decide +kernel
set_option maxRecDepth 20000 in
theorem ggX6_matches_X6_has : GoodIn wsX6_matches wsX6_has := goodIn_r _ [7] (by decide +kernel) (by decide +kernel)
set_option maxRecDepth 20000 in
theorem gX6_matches_X6_has : GoodIn wsX6_matches (va_wsS RX6 120 yX6_has wsX6_has) := goodIn_app (goodIn_of _ (by decide +kernel)) ggX6_matches_X6_has
theorem dX6_matches_0 : decode cX6_matches 0 = .ok (.aload_n 0, 1) := by decide +kernel
theorem dX6_matches_1 : decode cX6_matches 1 = .ok (.getfield 38, 3) := by decide +kernel
theorem dX6_matches_4 : decode cX6_matches 4 = .ok (.bipush 20, 2) := by decide +kernel
theorem dX6_matches_6 : decode cX6_matches 6 = .ok (.iload 4, 2) := by decide +kernel
theorem dX6_matches_8 : decode cX6_matches 8 = .ok (.imul, 1) := by decide +kernel
theorem dX6_matches_9 : decode cX6_matches 9 = .ok (.iload_n 1, 1) := by decide +kernel
theorem dX6_matches_10 : decode cX6_matches 10 = .ok (.iadd, 1) := by decide +kernel
theorem dX6_matches_11 : decode cX6_matches 11 = .ok (.laload, 1) := by decide +kernel
theorem dX6_matches_12 : decode cX6_matches 12 = .ok (.lload_n 2, 1) := by decide +kernel
theorem dX6_matches_13 : decode cX6_matches 13 = .ok (.ldc2_w 167, 3) := by decide +kernel
theorem dX6_matches_16 : decode cX6_matches 16 = .ok (.lxor, 1) := by decide +kernel
theorem dX6_matches_17 : decode cX6_matches 17 = .ok (.land, 1) := by decide +kernel
theorem dX6_matches_18 : decode cX6_matches 18 = .ok (.lconst 0, 1) := by decide +kernel
theorem dX6_matches_19 : decode cX6_matches 19 = .ok (.lcmp, 1) := by decide +kernel
theorem dX6_matches_20 : decode cX6_matches 20 = .ok (.ifCond .ne 7, 3) := by decide +kernel
theorem dX6_matches_23 : decode cX6_matches 23 = .ok (.iconst 1, 1) := by decide +kernel
theorem dX6_matches_24 : decode cX6_matches 24 = .ok (.goto 4, 3) := by decide +kernel
theorem dX6_matches_27 : decode cX6_matches 27 = .ok (.iconst 0, 1) := by decide +kernel
theorem dX6_matches_28 : decode cX6_matches 28 = .ok (.istore 5, 2) := by decide +kernel
theorem dX6_matches_30 : decode cX6_matches 30 = .ok (.iconst 0, 1) := by decide +kernel
theorem dX6_matches_31 : decode cX6_matches 31 = .ok (.istore 6, 2) := by decide +kernel
theorem dX6_matches_33 : decode cX6_matches 33 = .ok (.iload 6, 2) := by decide +kernel
theorem dX6_matches_35 : decode cX6_matches 35 = .ok (.iconst 4, 1) := by decide +kernel
theorem dX6_matches_36 : decode cX6_matches 36 = .ok (.if_icmp .ge 62, 3) := by decide +kernel
theorem dX6_matches_39 : decode cX6_matches 39 = .ok (.iload 5, 2) := by decide +kernel
theorem dX6_matches_41 : decode cX6_matches 41 = .ok (.ifCond .ne 44, 3) := by decide +kernel
theorem dX6_matches_44 : decode cX6_matches 44 = .ok (.aload_n 0, 1) := by decide +kernel
theorem dX6_matches_45 : decode cX6_matches 45 = .ok (.getfield 29, 3) := by decide +kernel
theorem dX6_matches_48 : decode cX6_matches 48 = .ok (.iload 6, 2) := by decide +kernel
theorem dX6_matches_50 : decode cX6_matches 50 = .ok (.iaload, 1) := by decide +kernel
theorem dX6_matches_51 : decode cX6_matches 51 = .ok (.iload_n 1, 1) := by decide +kernel
theorem dX6_matches_52 : decode cX6_matches 52 = .ok (.invokestatic 120, 3) := by decide +kernel
theorem dX6_matches_55 : decode cX6_matches 55 = .ok (.ifCond .eq 34, 3) := by decide +kernel
theorem dX6_matches_58 : decode cX6_matches 58 = .ok (.aload_n 0, 1) := by decide +kernel
theorem dX6_matches_59 : decode cX6_matches 59 = .ok (.getfield 38, 3) := by decide +kernel
theorem dX6_matches_62 : decode cX6_matches 62 = .ok (.bipush 20, 2) := by decide +kernel
theorem dX6_matches_64 : decode cX6_matches 64 = .ok (.iload 4, 2) := by decide +kernel
theorem dX6_matches_66 : decode cX6_matches 66 = .ok (.imul, 1) := by decide +kernel
theorem dX6_matches_67 : decode cX6_matches 67 = .ok (.bipush 16, 2) := by decide +kernel
theorem dX6_matches_69 : decode cX6_matches 69 = .ok (.iadd, 1) := by decide +kernel
theorem dX6_matches_70 : decode cX6_matches 70 = .ok (.iload 6, 2) := by decide +kernel
theorem dX6_matches_72 : decode cX6_matches 72 = .ok (.iadd, 1) := by decide +kernel
theorem dX6_matches_73 : decode cX6_matches 73 = .ok (.laload, 1) := by decide +kernel
theorem dX6_matches_74 : decode cX6_matches 74 = .ok (.lload_n 2, 1) := by decide +kernel
theorem dX6_matches_75 : decode cX6_matches 75 = .ok (.ldc2_w 167, 3) := by decide +kernel
theorem dX6_matches_78 : decode cX6_matches 78 = .ok (.lxor, 1) := by decide +kernel
theorem dX6_matches_79 : decode cX6_matches 79 = .ok (.land, 1) := by decide +kernel
theorem dX6_matches_80 : decode cX6_matches 80 = .ok (.lconst 0, 1) := by decide +kernel
theorem dX6_matches_81 : decode cX6_matches 81 = .ok (.lcmp, 1) := by decide +kernel
theorem dX6_matches_82 : decode cX6_matches 82 = .ok (.ifCond .ne 7, 3) := by decide +kernel
theorem dX6_matches_85 : decode cX6_matches 85 = .ok (.iconst 1, 1) := by decide +kernel
theorem dX6_matches_86 : decode cX6_matches 86 = .ok (.goto 4, 3) := by decide +kernel
theorem dX6_matches_89 : decode cX6_matches 89 = .ok (.iconst 0, 1) := by decide +kernel
theorem dX6_matches_90 : decode cX6_matches 90 = .ok (.istore 5, 2) := by decide +kernel
theorem dX6_matches_92 : decode cX6_matches 92 = .ok (.iinc 6 1, 3) := by decide +kernel
theorem dX6_matches_95 : decode cX6_matches 95 = .ok (.goto (-62), 3) := by decide +kernel
theorem dX6_matches_98 : decode cX6_matches 98 = .ok (.iload 5, 2) := by decide +kernel
theorem dX6_matches_100 : decode cX6_matches 100 = .ok (.ireturn, 1) := by decide +kernel
set_option maxRecDepth 20000 in
theorem ggX6_laySpread_X6_foldOf : GoodIn wsX6_laySpread wsX6_foldOf := goodIn_r _ [13, 14, 15, 7, 16, 17, 12, 18, 30, 31, 32, 33, 34, 35, 36, 37, 38, 39, 40, 41, 42, 43, 44, 45, 46, 47, 48, 49, 50, 51, 52, 53, 54, 55, 56, 57, 58, 59, 60, 61, 62, 63] (by decide +kernel) (by decide +kernel)
set_option maxRecDepth 20000 in
theorem gX6_laySpread_X6_foldOf : GoodIn wsX6_laySpread (wsV RX6 163 RX6 yX6_foldOf wsX6_foldOf) := goodIn_app (goodIn_of _ (by decide +kernel)) ggX6_laySpread_X6_foldOf
set_option maxRecDepth 20000 in
theorem ggX6_laySpread_X6_has : GoodIn wsX6_laySpread wsX6_has := goodIn_r _ [18] (by decide +kernel) (by decide +kernel)
set_option maxRecDepth 20000 in
theorem gX6_laySpread_X6_has : GoodIn wsX6_laySpread (va_wsS RX6 120 yX6_has wsX6_has) := goodIn_app (goodIn_of _ (by decide +kernel)) ggX6_laySpread_X6_has
set_option maxRecDepth 20000 in
theorem ggX6_laySpread_X6_matches : GoodIn wsX6_laySpread wsX6_matches := goodIn_r _ [22, 15, 23, 14, 16, 17, 12, 18, 30, 31, 32, 33, 34, 35, 36, 37, 38, 39, 40, 41, 42, 43, 44, 45, 46, 47, 48, 49, 50, 51, 52, 53, 54, 55, 56, 57, 58, 59, 60, 61, 62, 63] (by decide +kernel) (by decide +kernel)
set_option maxRecDepth 20000 in
theorem gX6_laySpread_X6_matches : GoodIn wsX6_laySpread (wsV RX6 187 RX6 yX6_matches wsX6_matches) := goodIn_app (goodIn_of _ (by decide +kernel)) ggX6_laySpread_X6_matches
set_option maxRecDepth 20000 in
theorem ggX6_laySpread_X6_goStep : GoodIn wsX6_laySpread wsX6_goStep := goodIn_r _ [27, 7, 28, 1, 2, 3, 8, 29, 4, 16, 17, 12, 18, 19, 20, 21, 22, 15, 23, 14, 30, 31, 32, 33, 34, 35, 36, 37, 38, 39, 40, 41, 42, 43, 44, 45, 46, 47, 48, 49, 50, 51, 52, 53, 54, 55, 56, 57, 58, 59, 60, 61, 62, 63] (by decide +kernel) (by decide +kernel)
set_option maxRecDepth 20000 in
theorem gX6_laySpread_X6_goStep : GoodIn wsX6_laySpread (wsV RX6 194 RX6 yX6_goStep wsX6_goStep) := goodIn_app (goodIn_of _ (by decide +kernel)) ggX6_laySpread_X6_goStep
theorem dX6_laySpread_0 : decode cX6_laySpread 0 = .ok (.aload_n 0, 1) := by decide +kernel
theorem dX6_laySpread_1 : decode cX6_laySpread 1 = .ok (.aload_n 0, 1) := by decide +kernel
theorem dX6_laySpread_2 : decode cX6_laySpread 2 = .ok (.iload_n 2, 1) := by decide +kernel
theorem dX6_laySpread_3 : decode cX6_laySpread 3 = .ok (.iload_n 3, 1) := by decide +kernel
theorem dX6_laySpread_4 : decode cX6_laySpread 4 = .ok (.iload 4, 2) := by decide +kernel
theorem dX6_laySpread_6 : decode cX6_laySpread 6 = .ok (.invokevirtual 163, 3) := by decide +kernel
theorem dX6_laySpread_9 : decode cX6_laySpread 9 = .ok (.putfield 169, 3) := by decide +kernel
theorem dX6_laySpread_12 : decode cX6_laySpread 12 = .ok (.aload_n 0, 1) := by decide +kernel
theorem dX6_laySpread_13 : decode cX6_laySpread 13 = .ok (.iconst 0, 1) := by decide +kernel
theorem dX6_laySpread_14 : decode cX6_laySpread 14 = .ok (.putfield 172, 3) := by decide +kernel
theorem dX6_laySpread_17 : decode cX6_laySpread 17 = .ok (.aload_n 0, 1) := by decide +kernel
theorem dX6_laySpread_18 : decode cX6_laySpread 18 = .ok (.iconst 0, 1) := by decide +kernel
theorem dX6_laySpread_19 : decode cX6_laySpread 19 = .ok (.putfield 175, 3) := by decide +kernel
theorem dX6_laySpread_22 : decode cX6_laySpread 22 = .ok (.aload_n 0, 1) := by decide +kernel
theorem dX6_laySpread_23 : decode cX6_laySpread 23 = .ok (.iconst 0, 1) := by decide +kernel
theorem dX6_laySpread_24 : decode cX6_laySpread 24 = .ok (.putfield 178, 3) := by decide +kernel
theorem dX6_laySpread_27 : decode cX6_laySpread 27 = .ok (.aload_n 0, 1) := by decide +kernel
theorem dX6_laySpread_28 : decode cX6_laySpread 28 = .ok (.iconst 0, 1) := by decide +kernel
theorem dX6_laySpread_29 : decode cX6_laySpread 29 = .ok (.putfield 181, 3) := by decide +kernel
theorem dX6_laySpread_32 : decode cX6_laySpread 32 = .ok (.aload_n 0, 1) := by decide +kernel
theorem dX6_laySpread_33 : decode cX6_laySpread 33 = .ok (.iconst 0, 1) := by decide +kernel
theorem dX6_laySpread_34 : decode cX6_laySpread 34 = .ok (.putfield 184, 3) := by decide +kernel
theorem dX6_laySpread_37 : decode cX6_laySpread 37 = .ok (.iconst 0, 1) := by decide +kernel
theorem dX6_laySpread_38 : decode cX6_laySpread 38 = .ok (.istore 5, 2) := by decide +kernel
theorem dX6_laySpread_40 : decode cX6_laySpread 40 = .ok (.iload 5, 2) := by decide +kernel
theorem dX6_laySpread_42 : decode cX6_laySpread 42 = .ok (.aload_n 0, 1) := by decide +kernel
theorem dX6_laySpread_43 : decode cX6_laySpread 43 = .ok (.getfield 85, 3) := by decide +kernel
theorem dX6_laySpread_46 : decode cX6_laySpread 46 = .ok (.if_icmp .ge 46, 3) := by decide +kernel
theorem dX6_laySpread_49 : decode cX6_laySpread 49 = .ok (.aload_n 0, 1) := by decide +kernel
theorem dX6_laySpread_50 : decode cX6_laySpread 50 = .ok (.dup, 1) := by decide +kernel
theorem dX6_laySpread_51 : decode cX6_laySpread 51 = .ok (.getfield 184, 3) := by decide +kernel
theorem dX6_laySpread_54 : decode cX6_laySpread 54 = .ok (.iload_n 2, 1) := by decide +kernel
theorem dX6_laySpread_55 : decode cX6_laySpread 55 = .ok (.iload 5, 2) := by decide +kernel
theorem dX6_laySpread_57 : decode cX6_laySpread 57 = .ok (.invokestatic 120, 3) := by decide +kernel
theorem dX6_laySpread_60 : decode cX6_laySpread 60 = .ok (.ifCond .ne 21, 3) := by decide +kernel
theorem dX6_laySpread_63 : decode cX6_laySpread 63 = .ok (.aload_n 0, 1) := by decide +kernel
theorem dX6_laySpread_64 : decode cX6_laySpread 64 = .ok (.iload 5, 2) := by decide +kernel
theorem dX6_laySpread_66 : decode cX6_laySpread 66 = .ok (.aload_n 0, 1) := by decide +kernel
theorem dX6_laySpread_67 : decode cX6_laySpread 67 = .ok (.getfield 169, 3) := by decide +kernel
theorem dX6_laySpread_70 : decode cX6_laySpread 70 = .ok (.iload_n 3, 1) := by decide +kernel
theorem dX6_laySpread_71 : decode cX6_laySpread 71 = .ok (.invokevirtual 187, 3) := by decide +kernel
theorem dX6_laySpread_74 : decode cX6_laySpread 74 = .ok (.ifCond .eq 7, 3) := by decide +kernel
theorem dX6_laySpread_77 : decode cX6_laySpread 77 = .ok (.iconst 1, 1) := by decide +kernel
theorem dX6_laySpread_78 : decode cX6_laySpread 78 = .ok (.goto 4, 3) := by decide +kernel
theorem dX6_laySpread_81 : decode cX6_laySpread 81 = .ok (.iconst 0, 1) := by decide +kernel
theorem dX6_laySpread_82 : decode cX6_laySpread 82 = .ok (.iadd, 1) := by decide +kernel
theorem dX6_laySpread_83 : decode cX6_laySpread 83 = .ok (.putfield 184, 3) := by decide +kernel
theorem dX6_laySpread_86 : decode cX6_laySpread 86 = .ok (.iinc 5 1, 3) := by decide +kernel
theorem dX6_laySpread_89 : decode cX6_laySpread 89 = .ok (.goto (-49), 3) := by decide +kernel
theorem dX6_laySpread_92 : decode cX6_laySpread 92 = .ok (.aload_n 0, 1) := by decide +kernel
theorem dX6_laySpread_93 : decode cX6_laySpread 93 = .ok (.iconst 1, 1) := by decide +kernel
theorem dX6_laySpread_94 : decode cX6_laySpread 94 = .ok (.iload_n 1, 1) := by decide +kernel
theorem dX6_laySpread_95 : decode cX6_laySpread 95 = .ok (.ishl, 1) := by decide +kernel
theorem dX6_laySpread_96 : decode cX6_laySpread 96 = .ok (.putfield 191, 3) := by decide +kernel
theorem dX6_laySpread_99 : decode cX6_laySpread 99 = .ok (.aload_n 0, 1) := by decide +kernel
theorem dX6_laySpread_100 : decode cX6_laySpread 100 = .ok (.getfield 191, 3) := by decide +kernel
theorem dX6_laySpread_103 : decode cX6_laySpread 103 = .ok (.istore 5, 2) := by decide +kernel
theorem dX6_laySpread_105 : decode cX6_laySpread 105 = .ok (.iload 5, 2) := by decide +kernel
theorem dX6_laySpread_107 : decode cX6_laySpread 107 = .ok (.ifCond .eq 26, 3) := by decide +kernel
theorem dX6_laySpread_110 : decode cX6_laySpread 110 = .ok (.aload_n 0, 1) := by decide +kernel
theorem dX6_laySpread_111 : decode cX6_laySpread 111 = .ok (.iload 5, 2) := by decide +kernel
theorem dX6_laySpread_113 : decode cX6_laySpread 113 = .ok (.iload_n 2, 1) := by decide +kernel
theorem dX6_laySpread_114 : decode cX6_laySpread 114 = .ok (.iload_n 3, 1) := by decide +kernel
theorem dX6_laySpread_115 : decode cX6_laySpread 115 = .ok (.invokevirtual 194, 3) := by decide +kernel
theorem dX6_laySpread_118 : decode cX6_laySpread 118 = .ok (.istore 5, 2) := by decide +kernel
theorem dX6_laySpread_120 : decode cX6_laySpread 120 = .ok (.aload_n 0, 1) := by decide +kernel
theorem dX6_laySpread_121 : decode cX6_laySpread 121 = .ok (.dup, 1) := by decide +kernel
theorem dX6_laySpread_122 : decode cX6_laySpread 122 = .ok (.getfield 181, 3) := by decide +kernel
theorem dX6_laySpread_125 : decode cX6_laySpread 125 = .ok (.iconst 1, 1) := by decide +kernel
theorem dX6_laySpread_126 : decode cX6_laySpread 126 = .ok (.iadd, 1) := by decide +kernel
theorem dX6_laySpread_127 : decode cX6_laySpread 127 = .ok (.putfield 181, 3) := by decide +kernel
theorem dX6_laySpread_130 : decode cX6_laySpread 130 = .ok (.goto (-25), 3) := by decide +kernel
theorem dX6_laySpread_133 : decode cX6_laySpread 133 = .ok (.return_, 1) := by decide +kernel
set_option maxRecDepth 20000 in
theorem ggX6_goStep_X6_has : GoodIn wsX6_goStep wsX6_has := goodIn_r _ [12] (by decide +kernel) (by decide +kernel)
set_option maxRecDepth 20000 in
theorem gX6_goStep_X6_has : GoodIn wsX6_goStep (va_wsS RX6 120 yX6_has wsX6_has) := goodIn_app (goodIn_of _ (by decide +kernel)) ggX6_goStep_X6_has
set_option maxRecDepth 20000 in
theorem ggX6_goStep_X6_matches : GoodIn wsX6_goStep wsX6_matches := goodIn_r _ [16, 17, 18, 19, 9, 10, 11, 12, 20, 21, 22, 23, 24, 25, 26, 27, 28, 29, 30, 31, 32, 33, 34, 35, 36, 37, 38, 39, 40, 41, 42, 43, 44, 45, 46, 47, 48, 49, 50, 51, 52, 53] (by decide +kernel) (by decide +kernel)
set_option maxRecDepth 20000 in
theorem gX6_goStep_X6_matches : GoodIn wsX6_goStep (wsV RX6 187 RX6 yX6_matches wsX6_matches) := goodIn_app (goodIn_of _ (by decide +kernel)) ggX6_goStep_X6_matches
theorem dX6_goStep_0 : decode cX6_goStep 0 = .ok (.iconst 0, 1) := by decide +kernel
theorem dX6_goStep_1 : decode cX6_goStep 1 = .ok (.istore 4, 2) := by decide +kernel
theorem dX6_goStep_3 : decode cX6_goStep 3 = .ok (.iconst 0, 1) := by decide +kernel
theorem dX6_goStep_4 : decode cX6_goStep 4 = .ok (.istore 5, 2) := by decide +kernel
theorem dX6_goStep_6 : decode cX6_goStep 6 = .ok (.iload 5, 2) := by decide +kernel
theorem dX6_goStep_8 : decode cX6_goStep 8 = .ok (.aload_n 0, 1) := by decide +kernel
theorem dX6_goStep_9 : decode cX6_goStep 9 = .ok (.getfield 85, 3) := by decide +kernel
theorem dX6_goStep_12 : decode cX6_goStep 12 = .ok (.if_icmp .ge 139, 3) := by decide +kernel
theorem dX6_goStep_15 : decode cX6_goStep 15 = .ok (.iload_n 1, 1) := by decide +kernel
theorem dX6_goStep_16 : decode cX6_goStep 16 = .ok (.aload_n 0, 1) := by decide +kernel
theorem dX6_goStep_17 : decode cX6_goStep 17 = .ok (.getfield 13, 3) := by decide +kernel
theorem dX6_goStep_20 : decode cX6_goStep 20 = .ok (.iload 5, 2) := by decide +kernel
theorem dX6_goStep_22 : decode cX6_goStep 22 = .ok (.iaload, 1) := by decide +kernel
theorem dX6_goStep_23 : decode cX6_goStep 23 = .ok (.invokestatic 120, 3) := by decide +kernel
theorem dX6_goStep_26 : decode cX6_goStep 26 = .ok (.ifCond .eq 119, 3) := by decide +kernel
theorem dX6_goStep_29 : decode cX6_goStep 29 = .ok (.aload_n 0, 1) := by decide +kernel
theorem dX6_goStep_30 : decode cX6_goStep 30 = .ok (.iload 5, 2) := by decide +kernel
theorem dX6_goStep_32 : decode cX6_goStep 32 = .ok (.aload_n 0, 1) := by decide +kernel
theorem dX6_goStep_33 : decode cX6_goStep 33 = .ok (.getfield 169, 3) := by decide +kernel
theorem dX6_goStep_36 : decode cX6_goStep 36 = .ok (.iload_n 3, 1) := by decide +kernel
theorem dX6_goStep_37 : decode cX6_goStep 37 = .ok (.invokevirtual 187, 3) := by decide +kernel
theorem dX6_goStep_40 : decode cX6_goStep 40 = .ok (.ifCond .eq 105, 3) := by decide +kernel
theorem dX6_goStep_43 : decode cX6_goStep 43 = .ok (.aload_n 0, 1) := by decide +kernel
theorem dX6_goStep_44 : decode cX6_goStep 44 = .ok (.dup, 1) := by decide +kernel
theorem dX6_goStep_45 : decode cX6_goStep 45 = .ok (.getfield 172, 3) := by decide +kernel
theorem dX6_goStep_48 : decode cX6_goStep 48 = .ok (.iconst 1, 1) := by decide +kernel
theorem dX6_goStep_49 : decode cX6_goStep 49 = .ok (.iadd, 1) := by decide +kernel
theorem dX6_goStep_50 : decode cX6_goStep 50 = .ok (.putfield 172, 3) := by decide +kernel
theorem dX6_goStep_53 : decode cX6_goStep 53 = .ok (.aload_n 0, 1) := by decide +kernel
theorem dX6_goStep_54 : decode cX6_goStep 54 = .ok (.dup, 1) := by decide +kernel
theorem dX6_goStep_55 : decode cX6_goStep 55 = .ok (.getfield 175, 3) := by decide +kernel
theorem dX6_goStep_58 : decode cX6_goStep 58 = .ok (.iload_n 2, 1) := by decide +kernel
theorem dX6_goStep_59 : decode cX6_goStep 59 = .ok (.iload 5, 2) := by decide +kernel
theorem dX6_goStep_61 : decode cX6_goStep 61 = .ok (.invokestatic 120, 3) := by decide +kernel
theorem dX6_goStep_64 : decode cX6_goStep 64 = .ok (.ifCond .eq 7, 3) := by decide +kernel
theorem dX6_goStep_67 : decode cX6_goStep 67 = .ok (.iconst 0, 1) := by decide +kernel
theorem dX6_goStep_68 : decode cX6_goStep 68 = .ok (.goto 4, 3) := by decide +kernel
theorem dX6_goStep_71 : decode cX6_goStep 71 = .ok (.iconst 1, 1) := by decide +kernel
theorem dX6_goStep_72 : decode cX6_goStep 72 = .ok (.iadd, 1) := by decide +kernel
theorem dX6_goStep_73 : decode cX6_goStep 73 = .ok (.putfield 175, 3) := by decide +kernel
theorem dX6_goStep_76 : decode cX6_goStep 76 = .ok (.aload_n 0, 1) := by decide +kernel
theorem dX6_goStep_77 : decode cX6_goStep 77 = .ok (.getfield 191, 3) := by decide +kernel
theorem dX6_goStep_80 : decode cX6_goStep 80 = .ok (.iload 4, 2) := by decide +kernel
theorem dX6_goStep_82 : decode cX6_goStep 82 = .ok (.ior, 1) := by decide +kernel
theorem dX6_goStep_83 : decode cX6_goStep 83 = .ok (.aload_n 0, 1) := by decide +kernel
theorem dX6_goStep_84 : decode cX6_goStep 84 = .ok (.getfield 16, 3) := by decide +kernel
theorem dX6_goStep_87 : decode cX6_goStep 87 = .ok (.iload 5, 2) := by decide +kernel
theorem dX6_goStep_89 : decode cX6_goStep 89 = .ok (.iaload, 1) := by decide +kernel
theorem dX6_goStep_90 : decode cX6_goStep 90 = .ok (.invokestatic 120, 3) := by decide +kernel
theorem dX6_goStep_93 : decode cX6_goStep 93 = .ok (.ifCond .ne 7, 3) := by decide +kernel
theorem dX6_goStep_96 : decode cX6_goStep 96 = .ok (.iconst 1, 1) := by decide +kernel
theorem dX6_goStep_97 : decode cX6_goStep 97 = .ok (.goto 4, 3) := by decide +kernel
theorem dX6_goStep_100 : decode cX6_goStep 100 = .ok (.iconst 0, 1) := by decide +kernel
theorem dX6_goStep_101 : decode cX6_goStep 101 = .ok (.istore 6, 2) := by decide +kernel
theorem dX6_goStep_103 : decode cX6_goStep 103 = .ok (.iload 4, 2) := by decide +kernel
theorem dX6_goStep_105 : decode cX6_goStep 105 = .ok (.iload 6, 2) := by decide +kernel
theorem dX6_goStep_107 : decode cX6_goStep 107 = .ok (.ifCond .eq 15, 3) := by decide +kernel
theorem dX6_goStep_110 : decode cX6_goStep 110 = .ok (.iconst 1, 1) := by decide +kernel
theorem dX6_goStep_111 : decode cX6_goStep 111 = .ok (.aload_n 0, 1) := by decide +kernel
theorem dX6_goStep_112 : decode cX6_goStep 112 = .ok (.getfield 16, 3) := by decide +kernel
theorem dX6_goStep_115 : decode cX6_goStep 115 = .ok (.iload 5, 2) := by decide +kernel
theorem dX6_goStep_117 : decode cX6_goStep 117 = .ok (.iaload, 1) := by decide +kernel
theorem dX6_goStep_118 : decode cX6_goStep 118 = .ok (.ishl, 1) := by decide +kernel
theorem dX6_goStep_119 : decode cX6_goStep 119 = .ok (.goto 4, 3) := by decide +kernel
theorem dX6_goStep_122 : decode cX6_goStep 122 = .ok (.iconst 0, 1) := by decide +kernel
theorem dX6_goStep_123 : decode cX6_goStep 123 = .ok (.ior, 1) := by decide +kernel
theorem dX6_goStep_124 : decode cX6_goStep 124 = .ok (.istore 4, 2) := by decide +kernel
theorem dX6_goStep_126 : decode cX6_goStep 126 = .ok (.aload_n 0, 1) := by decide +kernel
theorem dX6_goStep_127 : decode cX6_goStep 127 = .ok (.dup, 1) := by decide +kernel
theorem dX6_goStep_128 : decode cX6_goStep 128 = .ok (.getfield 178, 3) := by decide +kernel
theorem dX6_goStep_131 : decode cX6_goStep 131 = .ok (.iload 6, 2) := by decide +kernel
theorem dX6_goStep_133 : decode cX6_goStep 133 = .ok (.ifCond .eq 7, 3) := by decide +kernel
theorem dX6_goStep_136 : decode cX6_goStep 136 = .ok (.iconst 0, 1) := by decide +kernel
theorem dX6_goStep_137 : decode cX6_goStep 137 = .ok (.goto 4, 3) := by decide +kernel
theorem dX6_goStep_140 : decode cX6_goStep 140 = .ok (.iconst 1, 1) := by decide +kernel
theorem dX6_goStep_141 : decode cX6_goStep 141 = .ok (.iadd, 1) := by decide +kernel
theorem dX6_goStep_142 : decode cX6_goStep 142 = .ok (.putfield 178, 3) := by decide +kernel
theorem dX6_goStep_145 : decode cX6_goStep 145 = .ok (.iinc 5 1, 3) := by decide +kernel
theorem dX6_goStep_148 : decode cX6_goStep 148 = .ok (.goto (-142), 3) := by decide +kernel
theorem dX6_goStep_151 : decode cX6_goStep 151 = .ok (.aload_n 0, 1) := by decide +kernel
theorem dX6_goStep_152 : decode cX6_goStep 152 = .ok (.dup, 1) := by decide +kernel
theorem dX6_goStep_153 : decode cX6_goStep 153 = .ok (.getfield 191, 3) := by decide +kernel
theorem dX6_goStep_156 : decode cX6_goStep 156 = .ok (.iload 4, 2) := by decide +kernel
theorem dX6_goStep_158 : decode cX6_goStep 158 = .ok (.ior, 1) := by decide +kernel
theorem dX6_goStep_159 : decode cX6_goStep 159 = .ok (.putfield 191, 3) := by decide +kernel
theorem dX6_goStep_162 : decode cX6_goStep 162 = .ok (.iload 4, 2) := by decide +kernel
theorem dX6_goStep_164 : decode cX6_goStep 164 = .ok (.ireturn, 1) := by decide +kernel
theorem dX6_common_0 : decode cX6_common 0 = .ok (.iload_n 0, 1) := by decide +kernel
theorem dX6_common_1 : decode cX6_common 1 = .ok (.istore_n 2, 1) := by decide +kernel
theorem dX6_common_2 : decode cX6_common 2 = .ok (.iload_n 1, 1) := by decide +kernel
theorem dX6_common_3 : decode cX6_common 3 = .ok (.istore_n 3, 1) := by decide +kernel
theorem dX6_common_4 : decode cX6_common 4 = .ok (.iload_n 3, 1) := by decide +kernel
theorem dX6_common_5 : decode cX6_common 5 = .ok (.ifCond .eq 16, 3) := by decide +kernel
theorem dX6_common_8 : decode cX6_common 8 = .ok (.iload_n 2, 1) := by decide +kernel
theorem dX6_common_9 : decode cX6_common 9 = .ok (.iload_n 3, 1) := by decide +kernel
theorem dX6_common_10 : decode cX6_common 10 = .ok (.irem, 1) := by decide +kernel
theorem dX6_common_11 : decode cX6_common 11 = .ok (.istore 4, 2) := by decide +kernel
theorem dX6_common_13 : decode cX6_common 13 = .ok (.iload_n 3, 1) := by decide +kernel
theorem dX6_common_14 : decode cX6_common 14 = .ok (.istore_n 2, 1) := by decide +kernel
theorem dX6_common_15 : decode cX6_common 15 = .ok (.iload 4, 2) := by decide +kernel
theorem dX6_common_17 : decode cX6_common 17 = .ok (.istore_n 3, 1) := by decide +kernel
theorem dX6_common_18 : decode cX6_common 18 = .ok (.goto (-14), 3) := by decide +kernel
theorem dX6_common_21 : decode cX6_common 21 = .ok (.iload_n 2, 1) := by decide +kernel
theorem dX6_common_22 : decode cX6_common 22 = .ok (.ireturn, 1) := by decide +kernel
set_option maxRecDepth 20000 in
theorem ggX6_odds_X6_ones : GoodIn wsX6_odds wsX6_ones := goodIn_r _ [7] (by decide +kernel) (by decide +kernel)
set_option maxRecDepth 20000 in
theorem gX6_odds_X6_ones : GoodIn wsX6_odds (va_wsS RX6 159 yX6_ones wsX6_ones) := goodIn_app (goodIn_of _ (by decide +kernel)) ggX6_odds_X6_ones
set_option maxRecDepth 20000 in
theorem ggX6_odds_X6_common : GoodIn wsX6_odds wsX6_common := goodIn_r _ [10] (by decide +kernel) (by decide +kernel)
set_option maxRecDepth 20000 in
theorem gX6_odds_X6_common : GoodIn wsX6_odds (va_wsS RX6 198 yX6_common wsX6_common) := goodIn_app (goodIn_of _ (by decide +kernel)) ggX6_odds_X6_common
theorem dX6_odds_0 : decode cX6_odds 0 = .ok (.iconst 1, 1) := by decide +kernel
theorem dX6_odds_1 : decode cX6_odds 1 = .ok (.istore_n 2, 1) := by decide +kernel
theorem dX6_odds_2 : decode cX6_odds 2 = .ok (.iconst 1, 1) := by decide +kernel
theorem dX6_odds_3 : decode cX6_odds 3 = .ok (.istore_n 3, 1) := by decide +kernel
theorem dX6_odds_4 : decode cX6_odds 4 = .ok (.iconst 0, 1) := by decide +kernel
theorem dX6_odds_5 : decode cX6_odds 5 = .ok (.istore 4, 2) := by decide +kernel
theorem dX6_odds_7 : decode cX6_odds 7 = .ok (.iload 4, 2) := by decide +kernel
theorem dX6_odds_9 : decode cX6_odds 9 = .ok (.aload_n 0, 1) := by decide +kernel
theorem dX6_odds_10 : decode cX6_odds 10 = .ok (.getfield 23, 3) := by decide +kernel
theorem dX6_odds_13 : decode cX6_odds 13 = .ok (.if_icmp .ge 26, 3) := by decide +kernel
theorem dX6_odds_16 : decode cX6_odds 16 = .ok (.iload_n 2, 1) := by decide +kernel
theorem dX6_odds_17 : decode cX6_odds 17 = .ok (.aload_n 0, 1) := by decide +kernel
theorem dX6_odds_18 : decode cX6_odds 18 = .ok (.getfield 169, 3) := by decide +kernel
theorem dX6_odds_21 : decode cX6_odds 21 = .ok (.invokestatic 159, 3) := by decide +kernel
theorem dX6_odds_24 : decode cX6_odds 24 = .ok (.imul, 1) := by decide +kernel
theorem dX6_odds_25 : decode cX6_odds 25 = .ok (.istore_n 2, 1) := by decide +kernel
theorem dX6_odds_26 : decode cX6_odds 26 = .ok (.iload_n 3, 1) := by decide +kernel
theorem dX6_odds_27 : decode cX6_odds 27 = .ok (.aload_n 0, 1) := by decide +kernel
theorem dX6_odds_28 : decode cX6_odds 28 = .ok (.getfield 19, 3) := by decide +kernel
theorem dX6_odds_31 : decode cX6_odds 31 = .ok (.imul, 1) := by decide +kernel
theorem dX6_odds_32 : decode cX6_odds 32 = .ok (.istore_n 3, 1) := by decide +kernel
theorem dX6_odds_33 : decode cX6_odds 33 = .ok (.iinc 4 1, 3) := by decide +kernel
theorem dX6_odds_36 : decode cX6_odds 36 = .ok (.goto (-29), 3) := by decide +kernel
theorem dX6_odds_39 : decode cX6_odds 39 = .ok (.iload_n 1, 1) := by decide +kernel
theorem dX6_odds_40 : decode cX6_odds 40 = .ok (.ifCond .ne 7, 3) := by decide +kernel
theorem dX6_odds_43 : decode cX6_odds 43 = .ok (.iload_n 2, 1) := by decide +kernel
theorem dX6_odds_44 : decode cX6_odds 44 = .ok (.goto 4, 3) := by decide +kernel
theorem dX6_odds_47 : decode cX6_odds 47 = .ok (.iload_n 3, 1) := by decide +kernel
theorem dX6_odds_48 : decode cX6_odds 48 = .ok (.iload_n 2, 1) := by decide +kernel
theorem dX6_odds_49 : decode cX6_odds 49 = .ok (.iload_n 3, 1) := by decide +kernel
theorem dX6_odds_50 : decode cX6_odds 50 = .ok (.invokestatic 198, 3) := by decide +kernel
theorem dX6_odds_53 : decode cX6_odds 53 = .ok (.idiv, 1) := by decide +kernel
theorem dX6_odds_54 : decode cX6_odds 54 = .ok (.ireturn, 1) := by decide +kernel
set_option maxRecDepth 20000 in
theorem ggX6_spreadNow_X6_ones : GoodIn wsX6_spreadNow wsX6_ones := goodIn_r _ [11] (by decide +kernel) (by decide +kernel)
set_option maxRecDepth 20000 in
theorem gX6_spreadNow_X6_ones : GoodIn wsX6_spreadNow (va_wsS RX6 159 yX6_ones wsX6_ones) := goodIn_app (goodIn_of _ (by decide +kernel)) ggX6_spreadNow_X6_ones
set_option maxRecDepth 20000 in
theorem ggX6_spreadNow_X6_odds : GoodIn wsX6_spreadNow wsX6_odds := goodIn_r _ [15, 16, 1, 17, 8, 9, 10, 11, 18, 19, 20, 21, 22, 23, 24, 25, 26, 27, 28, 29, 30, 31, 32, 33, 34, 35, 36, 37, 38, 39, 40, 41, 42, 43, 44, 45, 46, 47, 48, 49, 50, 51, 52, 53, 54] (by decide +kernel) (by decide +kernel)
set_option maxRecDepth 20000 in
theorem gX6_spreadNow_X6_odds : GoodIn wsX6_spreadNow (wsV RX6 201 RX6 yX6_odds wsX6_odds) := goodIn_app (goodIn_of _ (by decide +kernel)) ggX6_spreadNow_X6_odds
theorem dX6_spreadNow_0 : decode cX6_spreadNow 0 = .ok (.iload_n 1, 1) := by decide +kernel
theorem dX6_spreadNow_1 : decode cX6_spreadNow 1 = .ok (.tableswitch 89 0 7 #[47, 55, 60, 65, 70, 75, 80, 80], 47) := by decide +kernel
theorem dX6_spreadNow_48 : decode cX6_spreadNow 48 = .ok (.aload_n 0, 1) := by decide +kernel
theorem dX6_spreadNow_49 : decode cX6_spreadNow 49 = .ok (.getfield 169, 3) := by decide +kernel
theorem dX6_spreadNow_52 : decode cX6_spreadNow 52 = .ok (.invokestatic 159, 3) := by decide +kernel
theorem dX6_spreadNow_55 : decode cX6_spreadNow 55 = .ok (.ireturn, 1) := by decide +kernel
theorem dX6_spreadNow_56 : decode cX6_spreadNow 56 = .ok (.aload_n 0, 1) := by decide +kernel
theorem dX6_spreadNow_57 : decode cX6_spreadNow 57 = .ok (.getfield 172, 3) := by decide +kernel
theorem dX6_spreadNow_60 : decode cX6_spreadNow 60 = .ok (.ireturn, 1) := by decide +kernel
theorem dX6_spreadNow_61 : decode cX6_spreadNow 61 = .ok (.aload_n 0, 1) := by decide +kernel
theorem dX6_spreadNow_62 : decode cX6_spreadNow 62 = .ok (.getfield 175, 3) := by decide +kernel
theorem dX6_spreadNow_65 : decode cX6_spreadNow 65 = .ok (.ireturn, 1) := by decide +kernel
theorem dX6_spreadNow_66 : decode cX6_spreadNow 66 = .ok (.aload_n 0, 1) := by decide +kernel
theorem dX6_spreadNow_67 : decode cX6_spreadNow 67 = .ok (.getfield 178, 3) := by decide +kernel
theorem dX6_spreadNow_70 : decode cX6_spreadNow 70 = .ok (.ireturn, 1) := by decide +kernel
theorem dX6_spreadNow_71 : decode cX6_spreadNow 71 = .ok (.aload_n 0, 1) := by decide +kernel
theorem dX6_spreadNow_72 : decode cX6_spreadNow 72 = .ok (.getfield 181, 3) := by decide +kernel
theorem dX6_spreadNow_75 : decode cX6_spreadNow 75 = .ok (.ireturn, 1) := by decide +kernel
theorem dX6_spreadNow_76 : decode cX6_spreadNow 76 = .ok (.aload_n 0, 1) := by decide +kernel
theorem dX6_spreadNow_77 : decode cX6_spreadNow 77 = .ok (.getfield 191, 3) := by decide +kernel
theorem dX6_spreadNow_80 : decode cX6_spreadNow 80 = .ok (.ireturn, 1) := by decide +kernel
theorem dX6_spreadNow_81 : decode cX6_spreadNow 81 = .ok (.aload_n 0, 1) := by decide +kernel
theorem dX6_spreadNow_82 : decode cX6_spreadNow 82 = .ok (.iload_n 1, 1) := by decide +kernel
theorem dX6_spreadNow_83 : decode cX6_spreadNow 83 = .ok (.bipush 6, 2) := by decide +kernel
theorem dX6_spreadNow_85 : decode cX6_spreadNow 85 = .ok (.isub, 1) := by decide +kernel
theorem dX6_spreadNow_86 : decode cX6_spreadNow 86 = .ok (.invokevirtual 201, 3) := by decide +kernel
theorem dX6_spreadNow_89 : decode cX6_spreadNow 89 = .ok (.ireturn, 1) := by decide +kernel
theorem dX6_spreadNow_90 : decode cX6_spreadNow 90 = .ok (.aload_n 0, 1) := by decide +kernel
theorem dX6_spreadNow_91 : decode cX6_spreadNow 91 = .ok (.getfield 184, 3) := by decide +kernel
theorem dX6_spreadNow_94 : decode cX6_spreadNow 94 = .ok (.ireturn, 1) := by decide +kernel
set_option maxRecDepth 20000 in
theorem ggX6_spread_X6_isNode : GoodIn wsX6_spread wsX6_isNode := goodIn_r _ [5, 6, 7, 8, 4, 9, 88, 89, 90, 91, 92, 93, 94, 95, 96, 97, 98, 99, 100, 101, 102, 103, 104, 105, 106, 107, 108, 109, 110, 111, 112, 113, 114, 115, 116, 117, 118, 119, 120, 121] (by decide +kernel) (by decide +kernel)
set_option maxRecDepth 20000 in
theorem gX6_spread_X6_isNode : GoodIn wsX6_spread (wsV RX6 140 RX6 yX6_isNode wsX6_isNode) := goodIn_app (goodIn_of _ (by decide +kernel)) ggX6_spread_X6_isNode
set_option maxRecDepth 20000 in
theorem ggX6_spread_X6_isSet : GoodIn wsX6_spread wsX6_isSet := goodIn_r _ [13, 6, 7, 8, 4, 9, 88, 89, 90, 91, 92, 93, 94, 95, 96, 97, 98, 99, 100, 101, 102, 103, 104, 105, 106, 107, 108, 109, 110, 111, 112, 113, 114, 115, 116, 117, 118, 119, 120, 121] (by decide +kernel) (by decide +kernel)
set_option maxRecDepth 20000 in
theorem gX6_spread_X6_isSet : GoodIn wsX6_spread (wsV RX6 150 RX6 yX6_isSet wsX6_isSet) := goodIn_app (goodIn_of _ (by decide +kernel)) ggX6_spread_X6_isSet
set_option maxRecDepth 20000 in
theorem ggX6_spread_X6_isVariant : GoodIn wsX6_spread wsX6_isVariant := goodIn_r _ [16, 7, 8, 4, 9] (by decide +kernel) (by decide +kernel)
set_option maxRecDepth 20000 in
theorem gX6_spread_X6_isVariant : GoodIn wsX6_spread (va_wsS RX6 115 yX6_isVariant wsX6_isVariant) := goodIn_app (goodIn_of _ (by decide +kernel)) ggX6_spread_X6_isVariant
set_option maxRecDepth 20000 in
theorem ggX6_spread_X6_within : GoodIn wsX6_spread wsX6_within := goodIn_r _ [9] (by decide +kernel) (by decide +kernel)
set_option maxRecDepth 20000 in
theorem gX6_spread_X6_within : GoodIn wsX6_spread (va_wsS RX6 48 yX6_within wsX6_within) := goodIn_app (goodIn_of _ (by decide +kernel)) ggX6_spread_X6_within
set_option maxRecDepth 20000 in
theorem ggX6_spread_X6_treeOf : GoodIn wsX6_spread wsX6_treeOf := goodIn_r _ [20, 6, 21, 22, 23, 24, 4, 25, 26, 27, 28, 29, 30, 31, 32, 33, 34, 35, 36, 37, 38, 39, 40, 41, 42, 43, 44, 45, 88, 89, 90, 91, 92, 93, 94, 95, 96, 97, 98, 99, 100, 101, 102, 103, 104, 105, 106, 107, 108, 109, 110, 111, 112, 113, 114, 115, 116, 117, 118, 119, 120, 121] (by decide +kernel) (by decide +kernel)
set_option maxRecDepth 20000 in
theorem gX6_spread_X6_treeOf : GoodIn wsX6_spread (wsV RX6 153 RX6 yX6_treeOf wsX6_treeOf) := goodIn_app (goodIn_of _ (by decide +kernel)) ggX6_spread_X6_treeOf
set_option maxRecDepth 20000 in
theorem ggX6_spread_X6_laySpread : GoodIn wsX6_spread wsX6_laySpread := goodIn_r _ [49, 50, 51, 52, 53, 54, 55, 35, 56, 57, 58, 59, 4, 60, 61, 62, 23, 24, 25, 63, 64, 65, 66, 67, 68, 69, 70, 71, 37, 36, 88, 89, 90, 91, 92, 93, 94, 95, 96, 97, 98, 99, 100, 101, 102, 103, 104, 105, 106, 107, 108, 109, 110, 111, 112, 113, 114, 115, 116, 117, 118, 119, 120, 121] (by decide +kernel) (by decide +kernel)
set_option maxRecDepth 20000 in
theorem gX6_spread_X6_laySpread : GoodIn wsX6_spread (wsV RX6 204 RX6 yX6_laySpread wsX6_laySpread) := goodIn_app (goodIn_of _ (by decide +kernel)) ggX6_spread_X6_laySpread
set_option maxRecDepth 20000 in
theorem ggX6_spread_X6_spreadNow : GoodIn wsX6_spread wsX6_spreadNow := goodIn_r _ [75, 50, 51, 52, 53, 54, 56, 55, 76, 77, 4, 78, 79, 80, 81, 82, 83, 84, 85, 86, 87, 88, 89, 90, 91, 92, 93, 94, 95, 96, 97, 98, 99, 100, 101, 102, 103, 104, 105, 106, 107, 108, 109, 110, 111, 112, 113, 114, 115, 116, 117, 118, 119, 120, 121] (by decide +kernel) (by decide +kernel)
set_option maxRecDepth 20000 in
theorem gX6_spread_X6_spreadNow : GoodIn wsX6_spread (wsV RX6 208 RX6 yX6_spreadNow wsX6_spreadNow) := goodIn_app (goodIn_of _ (by decide +kernel)) ggX6_spread_X6_spreadNow
theorem dX6_spread_0 : decode cX6_spread 0 = .ok (.aload_n 0, 1) := by decide +kernel
theorem dX6_spread_1 : decode cX6_spread 1 = .ok (.iload_n 1, 1) := by decide +kernel
theorem dX6_spread_2 : decode cX6_spread 2 = .ok (.invokevirtual 140, 3) := by decide +kernel
theorem dX6_spread_5 : decode cX6_spread 5 = .ok (.ifCond .ne 7, 3) := by decide +kernel
theorem dX6_spread_8 : decode cX6_spread 8 = .ok (.sipush (-1001), 3) := by decide +kernel
theorem dX6_spread_11 : decode cX6_spread 11 = .ok (.ireturn, 1) := by decide +kernel
theorem dX6_spread_12 : decode cX6_spread 12 = .ok (.aload_n 0, 1) := by decide +kernel
theorem dX6_spread_13 : decode cX6_spread 13 = .ok (.iload_n 2, 1) := by decide +kernel
theorem dX6_spread_14 : decode cX6_spread 14 = .ok (.invokevirtual 150, 3) := by decide +kernel
theorem dX6_spread_17 : decode cX6_spread 17 = .ok (.ifCond .eq 21, 3) := by decide +kernel
theorem dX6_spread_20 : decode cX6_spread 20 = .ok (.iload_n 3, 1) := by decide +kernel
theorem dX6_spread_21 : decode cX6_spread 21 = .ok (.invokestatic 115, 3) := by decide +kernel
theorem dX6_spread_24 : decode cX6_spread 24 = .ok (.ifCond .eq 14, 3) := by decide +kernel
theorem dX6_spread_27 : decode cX6_spread 27 = .ok (.iload 5, 2) := by decide +kernel
theorem dX6_spread_29 : decode cX6_spread 29 = .ok (.iconst 0, 1) := by decide +kernel
theorem dX6_spread_30 : decode cX6_spread 30 = .ok (.bipush 8, 2) := by decide +kernel
theorem dX6_spread_32 : decode cX6_spread 32 = .ok (.invokestatic 48, 3) := by decide +kernel
theorem dX6_spread_35 : decode cX6_spread 35 = .ok (.ifCond .ne 7, 3) := by decide +kernel
theorem dX6_spread_38 : decode cX6_spread 38 = .ok (.sipush (-1002), 3) := by decide +kernel
theorem dX6_spread_41 : decode cX6_spread 41 = .ok (.ireturn, 1) := by decide +kernel
theorem dX6_spread_42 : decode cX6_spread 42 = .ok (.aload_n 0, 1) := by decide +kernel
theorem dX6_spread_43 : decode cX6_spread 43 = .ok (.iload_n 1, 1) := by decide +kernel
theorem dX6_spread_44 : decode cX6_spread 44 = .ok (.aload_n 0, 1) := by decide +kernel
