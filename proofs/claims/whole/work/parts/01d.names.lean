set_option maxRecDepth 20000 in
theorem ggX5_bound_X3_ofBundle : GoodIn wsX5_bound wsX3_ofBundle := goodIn_r _ [26, 27, 20, 7, 21, 6, 8, 39, 40, 41, 42, 43] (by decide +kernel) (by decide +kernel)
set_option maxRecDepth 20000 in
theorem gX5_bound_X3_ofBundle : GoodIn wsX5_bound (wsV RX5 147 RX3 yX3_ofBundle wsX3_ofBundle) := goodIn_app (goodIn_of _ (by decide +kernel)) ggX5_bound_X3_ofBundle
theorem dX5_bound_0 : decode cX5_bound 0 = .ok (.iload_n 1, 1) := by decide +kernel
theorem dX5_bound_1 : decode cX5_bound 1 = .ok (.invokestatic 130, 3) := by decide +kernel
theorem dX5_bound_4 : decode cX5_bound 4 = .ok (.ifCond .eq 14, 3) := by decide +kernel
theorem dX5_bound_7 : decode cX5_bound 7 = .ok (.aload_n 0, 1) := by decide +kernel
theorem dX5_bound_8 : decode cX5_bound 8 = .ok (.getfield 33, 3) := by decide +kernel
theorem dX5_bound_11 : decode cX5_bound 11 = .ok (.iload_n 1, 1) := by decide +kernel
theorem dX5_bound_12 : decode cX5_bound 12 = .ok (.invokevirtual 133, 3) := by decide +kernel
theorem dX5_bound_15 : decode cX5_bound 15 = .ok (.ifCond .ne 7, 3) := by decide +kernel
theorem dX5_bound_18 : decode cX5_bound 18 = .ok (.ldc2_w 96, 3) := by decide +kernel
theorem dX5_bound_21 : decode cX5_bound 21 = .ok (.lreturn, 1) := by decide +kernel
theorem dX5_bound_22 : decode cX5_bound 22 = .ok (.iload_n 2, 1) := by decide +kernel
theorem dX5_bound_23 : decode cX5_bound 23 = .ok (.invokestatic 98, 3) := by decide +kernel
theorem dX5_bound_26 : decode cX5_bound 26 = .ok (.ifCond .ne 7, 3) := by decide +kernel
theorem dX5_bound_29 : decode cX5_bound 29 = .ok (.ldc2_w 101, 3) := by decide +kernel
theorem dX5_bound_32 : decode cX5_bound 32 = .ok (.lreturn, 1) := by decide +kernel
theorem dX5_bound_33 : decode cX5_bound 33 = .ok (.aload_n 0, 1) := by decide +kernel
theorem dX5_bound_34 : decode cX5_bound 34 = .ok (.getfield 26, 3) := by decide +kernel
theorem dX5_bound_37 : decode cX5_bound 37 = .ok (.iload_n 1, 1) := by decide +kernel
theorem dX5_bound_38 : decode cX5_bound 38 = .ok (.iload_n 2, 1) := by decide +kernel
theorem dX5_bound_39 : decode cX5_bound 39 = .ok (.invokevirtual 147, 3) := by decide +kernel
theorem dX5_bound_42 : decode cX5_bound 42 = .ok (.lreturn, 1) := by decide +kernel
set_option maxRecDepth 20000 in
theorem ggX5_fold_X2_hasNode : GoodIn wsX5_fold wsX2_hasNode := goodIn_r _ [8, 9, 70, 71, 72, 73, 74, 75, 76, 77] (by decide +kernel) (by decide +kernel)
set_option maxRecDepth 20000 in
theorem gX5_fold_X2_hasNode : GoodIn wsX5_fold (wsV RX5 116 RX2 yX2_hasNode wsX2_hasNode) := goodIn_app (goodIn_of _ (by decide +kernel)) ggX5_fold_X2_hasNode
set_option maxRecDepth 20000 in
theorem ggX5_fold_X2_hasNodes : GoodIn wsX5_fold wsX2_hasNodes := goodIn_r _ [13, 14, 15, 16, 7, 17, 9, 70, 71, 72, 73, 74, 75, 76, 77] (by decide +kernel) (by decide +kernel)
set_option maxRecDepth 20000 in
theorem gX5_fold_X2_hasNodes : GoodIn wsX5_fold (wsV RX5 123 RX2 yX2_hasNodes wsX2_hasNodes) := goodIn_app (goodIn_of _ (by decide +kernel)) ggX5_fold_X2_hasNodes
set_option maxRecDepth 20000 in
theorem ggX5_fold_X5_isVariant : GoodIn wsX5_fold wsX5_isVariant := goodIn_r _ [21] (by decide +kernel) (by decide +kernel)
set_option maxRecDepth 20000 in
theorem gX5_fold_X5_isVariant : GoodIn wsX5_fold (va_wsS RX5 98 yX5_isVariant wsX5_isVariant) := goodIn_app (goodIn_of _ (by decide +kernel)) ggX5_fold_X5_isVariant
set_option maxRecDepth 20000 in
theorem ggX5_fold_X2_treeLinks : GoodIn wsX5_fold wsX2_treeLinks := goodIn_r _ [25, 9, 26, 27, 5, 6, 7, 8, 28, 29, 30, 70, 71, 72, 73, 74, 75, 76, 77] (by decide +kernel) (by decide +kernel)
set_option maxRecDepth 20000 in
theorem gX5_fold_X2_treeLinks : GoodIn wsX5_fold (wsV RX5 126 RX2 yX2_treeLinks wsX2_treeLinks) := goodIn_app (goodIn_of _ (by decide +kernel)) ggX5_fold_X2_treeLinks
set_option maxRecDepth 20000 in
theorem ggX5_fold_X5_foldedBits : GoodIn wsX5_fold wsX5_foldedBits := goodIn_r _ [34, 35, 36, 1, 37, 38, 39, 40, 41, 42, 43, 20, 44, 45, 46, 47, 48, 49, 50, 19, 21, 51, 52, 53, 7, 54, 55, 56, 57, 58, 59, 60, 61, 62, 63, 64, 65, 66, 67, 68, 69, 78, 79, 80, 81, 82, 83, 70, 71, 72, 73, 74, 75, 76, 77] (by decide +kernel) (by decide +kernel)
set_option maxRecDepth 20000 in
theorem gX5_fold_X5_foldedBits : GoodIn wsX5_fold (wsV RX5 150 RX5 yX5_foldedBits wsX5_foldedBits) := goodIn_app (goodIn_of _ (by decide +kernel)) ggX5_fold_X5_foldedBits
theorem dX5_fold_0 : decode cX5_fold 0 = .ok (.aload_n 0, 1) := by decide +kernel
theorem dX5_fold_1 : decode cX5_fold 1 = .ok (.getfield 19, 3) := by decide +kernel
theorem dX5_fold_4 : decode cX5_fold 4 = .ok (.iload_n 1, 1) := by decide +kernel
theorem dX5_fold_5 : decode cX5_fold 5 = .ok (.invokevirtual 116, 3) := by decide +kernel
theorem dX5_fold_8 : decode cX5_fold 8 = .ok (.ifCond .ne 7, 3) := by decide +kernel
theorem dX5_fold_11 : decode cX5_fold 11 = .ok (.ldc2_w 96, 3) := by decide +kernel
theorem dX5_fold_14 : decode cX5_fold 14 = .ok (.lreturn, 1) := by decide +kernel
theorem dX5_fold_15 : decode cX5_fold 15 = .ok (.aload_n 0, 1) := by decide +kernel
theorem dX5_fold_16 : decode cX5_fold 16 = .ok (.getfield 19, 3) := by decide +kernel
theorem dX5_fold_19 : decode cX5_fold 19 = .ok (.iload_n 2, 1) := by decide +kernel
theorem dX5_fold_20 : decode cX5_fold 20 = .ok (.invokevirtual 123, 3) := by decide +kernel
theorem dX5_fold_23 : decode cX5_fold 23 = .ok (.ifCond .eq 10, 3) := by decide +kernel
theorem dX5_fold_26 : decode cX5_fold 26 = .ok (.iload_n 3, 1) := by decide +kernel
theorem dX5_fold_27 : decode cX5_fold 27 = .ok (.invokestatic 98, 3) := by decide +kernel
theorem dX5_fold_30 : decode cX5_fold 30 = .ok (.ifCond .ne 7, 3) := by decide +kernel
theorem dX5_fold_33 : decode cX5_fold 33 = .ok (.ldc2_w 101, 3) := by decide +kernel
theorem dX5_fold_36 : decode cX5_fold 36 = .ok (.lreturn, 1) := by decide +kernel
theorem dX5_fold_37 : decode cX5_fold 37 = .ok (.aload_n 0, 1) := by decide +kernel
theorem dX5_fold_38 : decode cX5_fold 38 = .ok (.aload_n 0, 1) := by decide +kernel
theorem dX5_fold_39 : decode cX5_fold 39 = .ok (.getfield 19, 3) := by decide +kernel
theorem dX5_fold_42 : decode cX5_fold 42 = .ok (.iload_n 1, 1) := by decide +kernel
theorem dX5_fold_43 : decode cX5_fold 43 = .ok (.iload_n 2, 1) := by decide +kernel
theorem dX5_fold_44 : decode cX5_fold 44 = .ok (.invokevirtual 126, 3) := by decide +kernel
theorem dX5_fold_47 : decode cX5_fold 47 = .ok (.iload_n 3, 1) := by decide +kernel
theorem dX5_fold_48 : decode cX5_fold 48 = .ok (.iload 4, 2) := by decide +kernel
theorem dX5_fold_50 : decode cX5_fold 50 = .ok (.invokevirtual 150, 3) := by decide +kernel
theorem dX5_fold_53 : decode cX5_fold 53 = .ok (.lreturn, 1) := by decide +kernel
set_option maxRecDepth 20000 in
theorem ggX5_spread_X2_hasNode : GoodIn wsX5_spread wsX2_hasNode := goodIn_r _ [6, 7, 147, 148, 149, 150, 151, 152, 153, 154] (by decide +kernel) (by decide +kernel)
set_option maxRecDepth 20000 in
theorem gX5_spread_X2_hasNode : GoodIn wsX5_spread (wsV RX5 116 RX2 yX2_hasNode wsX2_hasNode) := goodIn_app (goodIn_of _ (by decide +kernel)) ggX5_spread_X2_hasNode
set_option maxRecDepth 20000 in
theorem ggX5_spread_X2_hasNodes : GoodIn wsX5_spread wsX2_hasNodes := goodIn_r _ [11, 12, 13, 14, 5, 15, 7, 147, 148, 149, 150, 151, 152, 153, 154] (by decide +kernel) (by decide +kernel)
set_option maxRecDepth 20000 in
theorem gX5_spread_X2_hasNodes : GoodIn wsX5_spread (wsV RX5 123 RX2 yX2_hasNodes wsX2_hasNodes) := goodIn_app (goodIn_of _ (by decide +kernel)) ggX5_spread_X2_hasNodes
set_option maxRecDepth 20000 in
theorem ggX5_spread_X5_isVariant : GoodIn wsX5_spread wsX5_isVariant := goodIn_r _ [19] (by decide +kernel) (by decide +kernel)
set_option maxRecDepth 20000 in
theorem gX5_spread_X5_isVariant : GoodIn wsX5_spread (va_wsS RX5 98 yX5_isVariant wsX5_isVariant) := goodIn_app (goodIn_of _ (by decide +kernel)) ggX5_spread_X5_isVariant
set_option maxRecDepth 20000 in
theorem ggX5_spread_X5_spreadOut : GoodIn wsX5_spread wsX5_spreadOut := goodIn_r _ [23, 1, 24, 25, 26, 27, 28, 5, 29, 7, 30, 31, 3, 4, 6, 32, 33, 34, 35, 36, 37, 18, 38, 39, 40, 41, 42, 43, 44, 45, 46, 47, 48, 49, 50, 51, 52, 53, 54, 17, 19, 55, 56, 57, 58, 59, 60, 61, 62, 63, 64, 65, 66, 67, 68, 69, 70, 71, 72, 73, 74, 75, 76, 77, 78, 79, 80, 81, 82, 83, 84, 85, 86, 87, 88, 89, 90, 91, 92, 93, 94, 95, 96, 97, 98, 99, 100, 101, 102, 103, 104, 105, 106, 107, 108, 137, 138, 139, 140, 141, 142, 143, 144, 145, 146, 155, 156, 157, 158, 159, 160, 161, 147, 148, 149, 150, 151, 152, 153, 154, 162, 163, 164, 165, 166, 167] (by decide +kernel) (by decide +kernel)
set_option maxRecDepth 20000 in
theorem gX5_spread_X5_spreadOut : GoodIn wsX5_spread (wsV RX5 154 RX5 yX5_spreadOut wsX5_spreadOut) := goodIn_app (goodIn_of _ (by decide +kernel)) ggX5_spread_X5_spreadOut
set_option maxRecDepth 20000 in
theorem ggX5_spread_X5_spreadFact : GoodIn wsX5_spread wsX5_spreadFact := goodIn_r _ [112, 24, 25, 113, 114, 115, 116, 117, 40, 118, 119, 120, 121, 52, 122, 123, 124, 125, 126, 127, 128, 129, 130, 131, 132, 133, 134, 135, 136, 137, 138, 139, 140, 141, 142, 143, 144, 145, 146, 155, 156, 157, 158, 159, 160, 161, 163, 164, 165, 166, 167] (by decide +kernel) (by decide +kernel)
set_option maxRecDepth 20000 in
theorem gX5_spread_X5_spreadFact : GoodIn wsX5_spread (wsV RX5 158 RX5 yX5_spreadFact wsX5_spreadFact) := goodIn_app (goodIn_of _ (by decide +kernel)) ggX5_spread_X5_spreadFact
theorem dX5_spread_0 : decode cX5_spread 0 = .ok (.aload_n 0, 1) := by decide +kernel
theorem dX5_spread_1 : decode cX5_spread 1 = .ok (.getfield 19, 3) := by decide +kernel
theorem dX5_spread_4 : decode cX5_spread 4 = .ok (.iload_n 1, 1) := by decide +kernel
theorem dX5_spread_5 : decode cX5_spread 5 = .ok (.invokevirtual 116, 3) := by decide +kernel
theorem dX5_spread_8 : decode cX5_spread 8 = .ok (.ifCond .ne 7, 3) := by decide +kernel
theorem dX5_spread_11 : decode cX5_spread 11 = .ok (.sipush (-1001), 3) := by decide +kernel
theorem dX5_spread_14 : decode cX5_spread 14 = .ok (.ireturn, 1) := by decide +kernel
theorem dX5_spread_15 : decode cX5_spread 15 = .ok (.aload_n 0, 1) := by decide +kernel
theorem dX5_spread_16 : decode cX5_spread 16 = .ok (.getfield 19, 3) := by decide +kernel
theorem dX5_spread_19 : decode cX5_spread 19 = .ok (.iload_n 2, 1) := by decide +kernel
theorem dX5_spread_20 : decode cX5_spread 20 = .ok (.invokevirtual 123, 3) := by decide +kernel
theorem dX5_spread_23 : decode cX5_spread 23 = .ok (.ifCond .eq 22, 3) := by decide +kernel
theorem dX5_spread_26 : decode cX5_spread 26 = .ok (.iload_n 3, 1) := by decide +kernel
theorem dX5_spread_27 : decode cX5_spread 27 = .ok (.invokestatic 98, 3) := by decide +kernel
theorem dX5_spread_30 : decode cX5_spread 30 = .ok (.ifCond .eq 15, 3) := by decide +kernel
theorem dX5_spread_33 : decode cX5_spread 33 = .ok (.iload 5, 2) := by decide +kernel
theorem dX5_spread_35 : decode cX5_spread 35 = .ok (.ifCond .lt 10, 3) := by decide +kernel
theorem dX5_spread_38 : decode cX5_spread 38 = .ok (.iload 5, 2) := by decide +kernel
theorem dX5_spread_40 : decode cX5_spread 40 = .ok (.bipush 9, 2) := by decide +kernel
theorem dX5_spread_42 : decode cX5_spread 42 = .ok (.if_icmp .lt 7, 3) := by decide +kernel
theorem dX5_spread_45 : decode cX5_spread 45 = .ok (.sipush (-1002), 3) := by decide +kernel
theorem dX5_spread_48 : decode cX5_spread 48 = .ok (.ireturn, 1) := by decide +kernel
theorem dX5_spread_49 : decode cX5_spread 49 = .ok (.aload_n 0, 1) := by decide +kernel
theorem dX5_spread_50 : decode cX5_spread 50 = .ok (.iload_n 1, 1) := by decide +kernel
theorem dX5_spread_51 : decode cX5_spread 51 = .ok (.iload_n 2, 1) := by decide +kernel
theorem dX5_spread_52 : decode cX5_spread 52 = .ok (.iload_n 3, 1) := by decide +kernel
theorem dX5_spread_53 : decode cX5_spread 53 = .ok (.iload 4, 2) := by decide +kernel
theorem dX5_spread_55 : decode cX5_spread 55 = .ok (.invokevirtual 154, 3) := by decide +kernel
theorem dX5_spread_58 : decode cX5_spread 58 = .ok (.aload_n 0, 1) := by decide +kernel
theorem dX5_spread_59 : decode cX5_spread 59 = .ok (.iload 5, 2) := by decide +kernel
theorem dX5_spread_61 : decode cX5_spread 61 = .ok (.invokevirtual 158, 3) := by decide +kernel
theorem dX5_spread_64 : decode cX5_spread 64 = .ok (.ireturn, 1) := by decide +kernel
set_option maxRecDepth 20000 in
theorem ggX5_best_X2_hasNode : GoodIn wsX5_best wsX2_hasNode := goodIn_r _ [6, 7, 123, 124, 125, 126, 127, 128, 129, 130] (by decide +kernel) (by decide +kernel)
set_option maxRecDepth 20000 in
theorem gX5_best_X2_hasNode : GoodIn wsX5_best (wsV RX5 116 RX2 yX2_hasNode wsX2_hasNode) := goodIn_app (goodIn_of _ (by decide +kernel)) ggX5_best_X2_hasNode
set_option maxRecDepth 20000 in
theorem ggX5_best_X2_hasNodes : GoodIn wsX5_best wsX2_hasNodes := goodIn_r _ [11, 12, 13, 14, 5, 15, 7, 123, 124, 125, 126, 127, 128, 129, 130] (by decide +kernel) (by decide +kernel)
set_option maxRecDepth 20000 in
theorem gX5_best_X2_hasNodes : GoodIn wsX5_best (wsV RX5 123 RX2 yX2_hasNodes wsX2_hasNodes) := goodIn_app (goodIn_of _ (by decide +kernel)) ggX5_best_X2_hasNodes
set_option maxRecDepth 20000 in
theorem ggX5_best_X5_bestVariant : GoodIn wsX5_best wsX5_bestVariant := goodIn_r _ [20, 21, 22, 23, 24, 25, 26, 19, 27, 1, 28, 29, 30, 5, 31, 7, 32, 33, 3, 4, 6, 34, 35, 36, 37, 38, 39, 40, 41, 42, 43, 44, 45, 46, 47, 48, 49, 50, 51, 52, 53, 54, 55, 56, 57, 58, 59, 60, 61, 62, 63, 64, 65, 66, 67, 68, 69, 70, 71, 72, 73, 74, 75, 76, 77, 78, 79, 80, 81, 82, 83, 84, 85, 86, 87, 88, 89, 90, 91, 92, 93, 94, 95, 96, 97, 98, 99, 100, 101, 102, 103, 104, 105, 106, 107, 108, 109, 110, 111, 112, 113, 114, 115, 116, 117, 118, 119, 120, 121, 122, 131, 132, 133, 134, 135, 136, 137, 123, 124, 125, 126, 127, 128, 129, 130, 138, 139, 140, 141, 142, 143] (by decide +kernel) (by decide +kernel)
set_option maxRecDepth 20000 in
theorem gX5_best_X5_bestVariant : GoodIn wsX5_best (wsV RX5 161 RX5 yX5_bestVariant wsX5_bestVariant) := goodIn_app (goodIn_of _ (by decide +kernel)) ggX5_best_X5_bestVariant
theorem dX5_best_0 : decode cX5_best 0 = .ok (.aload_n 0, 1) := by decide +kernel
theorem dX5_best_1 : decode cX5_best 1 = .ok (.getfield 19, 3) := by decide +kernel
theorem dX5_best_4 : decode cX5_best 4 = .ok (.iload_n 1, 1) := by decide +kernel
theorem dX5_best_5 : decode cX5_best 5 = .ok (.invokevirtual 116, 3) := by decide +kernel
theorem dX5_best_8 : decode cX5_best 8 = .ok (.ifCond .ne 7, 3) := by decide +kernel
theorem dX5_best_11 : decode cX5_best 11 = .ok (.sipush (-1001), 3) := by decide +kernel
theorem dX5_best_14 : decode cX5_best 14 = .ok (.ireturn, 1) := by decide +kernel
theorem dX5_best_15 : decode cX5_best 15 = .ok (.aload_n 0, 1) := by decide +kernel
theorem dX5_best_16 : decode cX5_best 16 = .ok (.getfield 19, 3) := by decide +kernel
theorem dX5_best_19 : decode cX5_best 19 = .ok (.iload_n 2, 1) := by decide +kernel
theorem dX5_best_20 : decode cX5_best 20 = .ok (.invokevirtual 123, 3) := by decide +kernel
theorem dX5_best_23 : decode cX5_best 23 = .ok (.ifCond .ne 7, 3) := by decide +kernel
theorem dX5_best_26 : decode cX5_best 26 = .ok (.sipush (-1002), 3) := by decide +kernel
theorem dX5_best_29 : decode cX5_best 29 = .ok (.ireturn, 1) := by decide +kernel
theorem dX5_best_30 : decode cX5_best 30 = .ok (.aload_n 0, 1) := by decide +kernel
theorem dX5_best_31 : decode cX5_best 31 = .ok (.iload_n 1, 1) := by decide +kernel
theorem dX5_best_32 : decode cX5_best 32 = .ok (.iload_n 2, 1) := by decide +kernel
theorem dX5_best_33 : decode cX5_best 33 = .ok (.iload_n 3, 1) := by decide +kernel
theorem dX5_best_34 : decode cX5_best 34 = .ok (.invokevirtual 161, 3) := by decide +kernel
theorem dX5_best_37 : decode cX5_best 37 = .ok (.ireturn, 1) := by decide +kernel
set_option maxRecDepth 20000 in
theorem ggX5_send_X2_hasNode : GoodIn wsX5_send wsX2_hasNode := goodIn_r _ [14, 15, 136, 137, 138, 139, 140, 141, 142, 143] (by decide +kernel) (by decide +kernel)
set_option maxRecDepth 20000 in
theorem gX5_send_X2_hasNode : GoodIn wsX5_send (wsV RX5 116 RX2 yX2_hasNode wsX2_hasNode) := goodIn_app (goodIn_of _ (by decide +kernel)) ggX5_send_X2_hasNode
set_option maxRecDepth 20000 in
theorem ggX5_send_X2_hasNodes : GoodIn wsX5_send wsX2_hasNodes := goodIn_r _ [19, 20, 21, 22, 13, 23, 15, 136, 137, 138, 139, 140, 141, 142, 143] (by decide +kernel) (by decide +kernel)
set_option maxRecDepth 20000 in
theorem gX5_send_X2_hasNodes : GoodIn wsX5_send (wsV RX5 123 RX2 yX2_hasNodes wsX2_hasNodes) := goodIn_app (goodIn_of _ (by decide +kernel)) ggX5_send_X2_hasNodes
set_option maxRecDepth 20000 in
theorem ggX5_send_X5_bestVariant : GoodIn wsX5_send wsX5_bestVariant := goodIn_r _ [28, 4, 7, 29, 30, 31, 32, 27, 33, 1, 34, 35, 36, 13, 37, 15, 38, 39, 11, 12, 14, 40, 41, 42, 43, 44, 45, 46, 47, 48, 49, 50, 51, 52, 53, 54, 55, 56, 57, 58, 59, 60, 61, 62, 63, 64, 65, 66, 67, 68, 69, 70, 71, 72, 73, 74, 75, 76, 77, 78, 79, 80, 81, 82, 83, 84, 85, 86, 87, 88, 89, 90, 91, 92, 93, 94, 95, 96, 97, 98, 99, 100, 101, 102, 103, 104, 105, 106, 107, 108, 109, 110, 111, 112, 113, 114, 115, 116, 117, 118, 119, 120, 121, 122, 123, 124, 125, 126, 127, 128, 129, 130, 131, 132, 133, 134, 135, 136, 137, 138, 139, 140, 141, 142, 143, 144, 145, 146, 147, 148, 149] (by decide +kernel) (by decide +kernel)
set_option maxRecDepth 20000 in
theorem gX5_send_X5_bestVariant : GoodIn wsX5_send (wsV RX5 161 RX5 yX5_bestVariant wsX5_bestVariant) := goodIn_app (goodIn_of _ (by decide +kernel)) ggX5_send_X5_bestVariant
set_option maxRecDepth 20000 in
theorem ggX5_send_X5_spreadOut : GoodIn wsX5_send wsX5_spreadOut := goodIn_r _ [33, 1, 4, 29, 34, 35, 36, 13, 37, 15, 38, 39, 11, 12, 14, 40, 41, 42, 43, 44, 45, 27, 46, 47, 48, 49, 50, 51, 52, 53, 54, 55, 56, 57, 58, 59, 60, 61, 62, 63, 64, 65, 66, 67, 68, 69, 70, 71, 72, 73, 74, 75, 76, 77, 78, 79, 80, 81, 82, 83, 84, 85, 86, 87, 88, 89, 90, 91, 92, 93, 94, 95, 96, 97, 98, 99, 100, 101, 102, 103, 104, 105, 106, 107, 108, 109, 110, 111, 112, 113, 114, 115, 116, 117, 118, 119, 120, 121, 122, 123, 124, 125, 126, 127, 128, 129, 130, 131, 132, 133, 134, 135, 136, 137, 138, 139, 140, 141, 142, 143, 144, 145, 146, 147, 148, 149] (by decide +kernel) (by decide +kernel)
set_option maxRecDepth 20000 in
theorem gX5_send_X5_spreadOut : GoodIn wsX5_send (wsV RX5 154 RX5 yX5_spreadOut wsX5_spreadOut) := goodIn_app (goodIn_of _ (by decide +kernel)) ggX5_send_X5_spreadOut
theorem dX5_send_0 : decode cX5_send 0 = .ok (.aload_n 0, 1) := by decide +kernel
theorem dX5_send_1 : decode cX5_send 1 = .ok (.getfield 19, 3) := by decide +kernel
theorem dX5_send_4 : decode cX5_send 4 = .ok (.iload_n 1, 1) := by decide +kernel
theorem dX5_send_5 : decode cX5_send 5 = .ok (.invokevirtual 116, 3) := by decide +kernel
theorem dX5_send_8 : decode cX5_send 8 = .ok (.ifCond .ne 7, 3) := by decide +kernel
theorem dX5_send_11 : decode cX5_send 11 = .ok (.sipush (-1001), 3) := by decide +kernel
theorem dX5_send_14 : decode cX5_send 14 = .ok (.ireturn, 1) := by decide +kernel
theorem dX5_send_15 : decode cX5_send 15 = .ok (.aload_n 0, 1) := by decide +kernel
theorem dX5_send_16 : decode cX5_send 16 = .ok (.getfield 19, 3) := by decide +kernel
theorem dX5_send_19 : decode cX5_send 19 = .ok (.iload_n 2, 1) := by decide +kernel
theorem dX5_send_20 : decode cX5_send 20 = .ok (.invokevirtual 123, 3) := by decide +kernel
theorem dX5_send_23 : decode cX5_send 23 = .ok (.ifCond .ne 7, 3) := by decide +kernel
theorem dX5_send_26 : decode cX5_send 26 = .ok (.sipush (-1002), 3) := by decide +kernel
theorem dX5_send_29 : decode cX5_send 29 = .ok (.ireturn, 1) := by decide +kernel
theorem dX5_send_30 : decode cX5_send 30 = .ok (.aload_n 0, 1) := by decide +kernel
theorem dX5_send_31 : decode cX5_send 31 = .ok (.iload_n 1, 1) := by decide +kernel
theorem dX5_send_32 : decode cX5_send 32 = .ok (.iload_n 2, 1) := by decide +kernel
theorem dX5_send_33 : decode cX5_send 33 = .ok (.aload_n 0, 1) := by decide +kernel
theorem dX5_send_34 : decode cX5_send 34 = .ok (.iload_n 1, 1) := by decide +kernel
theorem dX5_send_35 : decode cX5_send 35 = .ok (.iload_n 2, 1) := by decide +kernel
theorem dX5_send_36 : decode cX5_send 36 = .ok (.iload_n 3, 1) := by decide +kernel
theorem dX5_send_37 : decode cX5_send 37 = .ok (.invokevirtual 161, 3) := by decide +kernel
theorem dX5_send_40 : decode cX5_send 40 = .ok (.iload_n 3, 1) := by decide +kernel
theorem dX5_send_41 : decode cX5_send 41 = .ok (.invokevirtual 154, 3) := by decide +kernel
theorem dX5_send_44 : decode cX5_send 44 = .ok (.aload_n 0, 1) := by decide +kernel
theorem dX5_send_45 : decode cX5_send 45 = .ok (.dup, 1) := by decide +kernel
theorem dX5_send_46 : decode cX5_send 46 = .ok (.getfield 165, 3) := by decide +kernel
theorem dX5_send_49 : decode cX5_send 49 = .ok (.iconst 1, 1) := by decide +kernel
theorem dX5_send_50 : decode cX5_send 50 = .ok (.iadd, 1) := by decide +kernel
theorem dX5_send_51 : decode cX5_send 51 = .ok (.putfield 165, 3) := by decide +kernel
theorem dX5_send_54 : decode cX5_send 54 = .ok (.aload_n 0, 1) := by decide +kernel
theorem dX5_send_55 : decode cX5_send 55 = .ok (.dup, 1) := by decide +kernel
theorem dX5_send_56 : decode cX5_send 56 = .ok (.getfield 168, 3) := by decide +kernel
theorem dX5_send_59 : decode cX5_send 59 = .ok (.aload_n 0, 1) := by decide +kernel
theorem dX5_send_60 : decode cX5_send 60 = .ok (.getfield 40, 3) := by decide +kernel
theorem dX5_send_63 : decode cX5_send 63 = .ok (.getfield 171, 3) := by decide +kernel
theorem dX5_send_66 : decode cX5_send 66 = .ok (.iadd, 1) := by decide +kernel
theorem dX5_send_67 : decode cX5_send 67 = .ok (.putfield 168, 3) := by decide +kernel
theorem dX5_send_70 : decode cX5_send 70 = .ok (.aload_n 0, 1) := by decide +kernel
theorem dX5_send_71 : decode cX5_send 71 = .ok (.dup, 1) := by decide +kernel
theorem dX5_send_72 : decode cX5_send 72 = .ok (.getfield 174, 3) := by decide +kernel
theorem dX5_send_75 : decode cX5_send 75 = .ok (.aload_n 0, 1) := by decide +kernel
theorem dX5_send_76 : decode cX5_send 76 = .ok (.getfield 40, 3) := by decide +kernel
theorem dX5_send_79 : decode cX5_send 79 = .ok (.getfield 177, 3) := by decide +kernel
theorem dX5_send_82 : decode cX5_send 82 = .ok (.iadd, 1) := by decide +kernel
theorem dX5_send_83 : decode cX5_send 83 = .ok (.putfield 174, 3) := by decide +kernel
theorem dX5_send_86 : decode cX5_send 86 = .ok (.aload_n 0, 1) := by decide +kernel
theorem dX5_send_87 : decode cX5_send 87 = .ok (.dup, 1) := by decide +kernel
theorem dX5_send_88 : decode cX5_send 88 = .ok (.getfield 180, 3) := by decide +kernel
theorem dX5_send_91 : decode cX5_send 91 = .ok (.aload_n 0, 1) := by decide +kernel
theorem dX5_send_92 : decode cX5_send 92 = .ok (.getfield 40, 3) := by decide +kernel
theorem dX5_send_95 : decode cX5_send 95 = .ok (.getfield 183, 3) := by decide +kernel
theorem dX5_send_98 : decode cX5_send 98 = .ok (.iadd, 1) := by decide +kernel
theorem dX5_send_99 : decode cX5_send 99 = .ok (.putfield 180, 3) := by decide +kernel
theorem dX5_send_102 : decode cX5_send 102 = .ok (.aload_n 0, 1) := by decide +kernel
theorem dX5_send_103 : decode cX5_send 103 = .ok (.getfield 40, 3) := by decide +kernel
theorem dX5_send_106 : decode cX5_send 106 = .ok (.getfield 177, 3) := by decide +kernel
theorem dX5_send_109 : decode cX5_send 109 = .ok (.ireturn, 1) := by decide +kernel
set_option maxRecDepth 20000 in
theorem ggX5_count_X2_nodeCount : GoodIn wsX5_count wsX2_nodeCount := goodIn_r _ [14, 15, 62, 63, 64, 65, 66, 67, 68, 69] (by decide +kernel) (by decide +kernel)
set_option maxRecDepth 20000 in
theorem gX5_count_X2_nodeCount : GoodIn wsX5_count (wsV RX5 186 RX2 yX2_nodeCount wsX2_nodeCount) := goodIn_app (goodIn_of _ (by decide +kernel)) ggX5_count_X2_nodeCount
set_option maxRecDepth 20000 in
theorem ggX5_count_X2_linkCount : GoodIn wsX5_count wsX2_linkCount := goodIn_r _ [19, 20, 62, 63, 64, 65, 66, 67, 68, 69] (by decide +kernel) (by decide +kernel)
set_option maxRecDepth 20000 in
theorem gX5_count_X2_linkCount : GoodIn wsX5_count (wsV RX5 70 RX2 yX2_linkCount wsX2_linkCount) := goodIn_app (goodIn_of _ (by decide +kernel)) ggX5_count_X2_linkCount
set_option maxRecDepth 20000 in
theorem ggX5_count_X4_size : GoodIn wsX5_count wsX4_size := goodIn_r _ [25, 26, 70, 71] (by decide +kernel) (by decide +kernel)
set_option maxRecDepth 20000 in
theorem gX5_count_X4_size : GoodIn wsX5_count (wsV RX5 52 RX4 yX4_size wsX4_size) := goodIn_app (goodIn_of _ (by decide +kernel)) ggX5_count_X4_size
set_option maxRecDepth 20000 in
theorem ggX5_count_X3_setting : GoodIn wsX5_count wsX3_setting := goodIn_r _ [31, 32, 33, 34, 72, 73, 74, 75, 76] (by decide +kernel) (by decide +kernel)
set_option maxRecDepth 20000 in
theorem gX5_count_X3_setting : GoodIn wsX5_count (wsV RX5 84 RX3 yX3_setting wsX3_setting) := goodIn_app (goodIn_of _ (by decide +kernel)) ggX5_count_X3_setting
set_option maxRecDepth 20000 in
theorem ggX5_count_X0_howMany : GoodIn wsX5_count wsX0_howMany := goodIn_r _ [39, 40, 41, 42, 38, 43, 44, 45, 46, 47, 48, 49, 50, 51, 77] (by decide +kernel) (by decide +kernel)
set_option maxRecDepth 20000 in
theorem gX5_count_X0_howMany : GoodIn wsX5_count (wsV RX5 189 RX0 yX0_howMany wsX0_howMany) := goodIn_app (goodIn_of _ (by decide +kernel)) ggX5_count_X0_howMany
theorem dX5_count_0 : decode cX5_count 0 = .ok (.iload_n 1, 1) := by decide +kernel
theorem dX5_count_1 : decode cX5_count 1 = .ok (.tableswitch 131 0 11 #[63, 71, 79, 87, 87, 87, 98, 106, 111, 116, 121, 126], 63) := by decide +kernel
theorem dX5_count_64 : decode cX5_count 64 = .ok (.aload_n 0, 1) := by decide +kernel
theorem dX5_count_65 : decode cX5_count 65 = .ok (.getfield 19, 3) := by decide +kernel
theorem dX5_count_68 : decode cX5_count 68 = .ok (.invokevirtual 186, 3) := by decide +kernel
theorem dX5_count_71 : decode cX5_count 71 = .ok (.ireturn, 1) := by decide +kernel
theorem dX5_count_72 : decode cX5_count 72 = .ok (.aload_n 0, 1) := by decide +kernel
theorem dX5_count_73 : decode cX5_count 73 = .ok (.getfield 19, 3) := by decide +kernel
theorem dX5_count_76 : decode cX5_count 76 = .ok (.invokevirtual 70, 3) := by decide +kernel
theorem dX5_count_79 : decode cX5_count 79 = .ok (.ireturn, 1) := by decide +kernel
theorem dX5_count_80 : decode cX5_count 80 = .ok (.aload_n 0, 1) := by decide +kernel
theorem dX5_count_81 : decode cX5_count 81 = .ok (.getfield 10, 3) := by decide +kernel
theorem dX5_count_84 : decode cX5_count 84 = .ok (.invokevirtual 52, 3) := by decide +kernel
theorem dX5_count_87 : decode cX5_count 87 = .ok (.ireturn, 1) := by decide +kernel
theorem dX5_count_88 : decode cX5_count 88 = .ok (.aload_n 0, 1) := by decide +kernel
theorem dX5_count_89 : decode cX5_count 89 = .ok (.getfield 26, 3) := by decide +kernel
theorem dX5_count_92 : decode cX5_count 92 = .ok (.iload_n 1, 1) := by decide +kernel
theorem dX5_count_93 : decode cX5_count 93 = .ok (.iconst 3, 1) := by decide +kernel
theorem dX5_count_94 : decode cX5_count 94 = .ok (.isub, 1) := by decide +kernel
theorem dX5_count_95 : decode cX5_count 95 = .ok (.invokevirtual 84, 3) := by decide +kernel
theorem dX5_count_98 : decode cX5_count 98 = .ok (.ireturn, 1) := by decide +kernel
theorem dX5_count_99 : decode cX5_count 99 = .ok (.aload_n 0, 1) := by decide +kernel
theorem dX5_count_100 : decode cX5_count 100 = .ok (.getfield 33, 3) := by decide +kernel
theorem dX5_count_103 : decode cX5_count 103 = .ok (.invokevirtual 189, 3) := by decide +kernel
theorem dX5_count_106 : decode cX5_count 106 = .ok (.ireturn, 1) := by decide +kernel
theorem dX5_count_107 : decode cX5_count 107 = .ok (.aload_n 0, 1) := by decide +kernel
theorem dX5_count_108 : decode cX5_count 108 = .ok (.getfield 76, 3) := by decide +kernel
theorem dX5_count_111 : decode cX5_count 111 = .ok (.ireturn, 1) := by decide +kernel
theorem dX5_count_112 : decode cX5_count 112 = .ok (.aload_n 0, 1) := by decide +kernel
theorem dX5_count_113 : decode cX5_count 113 = .ok (.getfield 165, 3) := by decide +kernel
theorem dX5_count_116 : decode cX5_count 116 = .ok (.ireturn, 1) := by decide +kernel
theorem dX5_count_117 : decode cX5_count 117 = .ok (.aload_n 0, 1) := by decide +kernel
theorem dX5_count_118 : decode cX5_count 118 = .ok (.getfield 168, 3) := by decide +kernel
theorem dX5_count_121 : decode cX5_count 121 = .ok (.ireturn, 1) := by decide +kernel
theorem dX5_count_122 : decode cX5_count 122 = .ok (.aload_n 0, 1) := by decide +kernel
theorem dX5_count_123 : decode cX5_count 123 = .ok (.getfield 174, 3) := by decide +kernel
theorem dX5_count_126 : decode cX5_count 126 = .ok (.ireturn, 1) := by decide +kernel
theorem dX5_count_127 : decode cX5_count 127 = .ok (.aload_n 0, 1) := by decide +kernel
theorem dX5_count_128 : decode cX5_count 128 = .ok (.getfield 180, 3) := by decide +kernel
theorem dX5_count_131 : decode cX5_count 131 = .ok (.ireturn, 1) := by decide +kernel
theorem dX5_count_132 : decode cX5_count 132 = .ok (.sipush (-1002), 3) := by decide +kernel
theorem dX5_count_135 : decode cX5_count 135 = .ok (.ireturn, 1) := by decide +kernel
set_option maxRecDepth 20000 in
theorem ggX5_digest_X5_withLinks : GoodIn wsX5_digest wsX5_withLinks := goodIn_r _ [6, 7, 8, 9, 10, 11, 12, 13, 14, 15, 16, 17, 18, 19, 20, 21, 22, 5, 23, 24, 25, 26, 27, 28, 29, 30, 31, 32, 33, 34, 35, 36, 37, 38, 39, 40, 41, 42, 43, 206, 207, 208, 209, 210, 211, 212, 213, 214, 215, 216, 217, 218, 219, 220, 221, 222, 223, 224, 225, 226, 227, 228, 229] (by decide +kernel) (by decide +kernel)
set_option maxRecDepth 20000 in
theorem gX5_digest_X5_withLinks : GoodIn wsX5_digest (wsV RX5 194 RX5 yX5_withLinks wsX5_withLinks) := goodIn_app (goodIn_of _ (by decide +kernel)) ggX5_digest_X5_withLinks
set_option maxRecDepth 20000 in
theorem ggX5_digest_X5_withBundles : GoodIn wsX5_digest wsX5_withBundles := goodIn_r _ [47, 8, 9, 48, 49, 50, 33, 51, 52, 53, 54, 55, 35, 56, 5, 57, 21, 22, 23, 24, 58, 59, 60, 39, 61, 41, 42, 43, 206, 207, 208, 209, 210, 211, 212, 213, 214, 215, 224, 225, 226, 227, 228, 229] (by decide +kernel) (by decide +kernel)
set_option maxRecDepth 20000 in
theorem gX5_digest_X5_withBundles : GoodIn wsX5_digest (wsV RX5 198 RX5 yX5_withBundles wsX5_withBundles) := goodIn_app (goodIn_of _ (by decide +kernel)) ggX5_digest_X5_withBundles
set_option maxRecDepth 20000 in
theorem ggX5_digest_X5_withNodes : GoodIn wsX5_digest wsX5_withNodes := goodIn_r _ [65, 7, 66, 67, 68, 13, 69, 70, 71, 72, 73, 74, 75, 76, 77, 78, 79, 80, 81, 82, 83, 84, 85, 86, 21, 22, 5, 23, 24, 87, 88, 89, 90, 91, 92, 93, 94, 95, 96, 8, 9, 97, 53, 54, 33, 55, 35, 56, 57, 58, 59, 60, 39, 61, 41, 42, 43, 10, 11, 12, 14, 15, 36, 37, 38, 40, 98, 99, 100, 101, 102, 103, 104, 105, 106, 107, 108, 109, 110, 111, 112, 113, 114, 115, 116, 117, 118, 119, 120, 121, 122, 123, 124, 125, 126, 17, 18, 19, 20, 127, 26, 27, 28, 29, 128, 129, 130, 131, 132, 133, 134, 135, 136, 137, 138, 139, 140, 141, 142, 143, 144, 145, 146, 147, 148, 149, 150, 151, 152, 153, 154, 155, 156, 157, 158, 159, 160, 161, 162, 163, 164, 165, 166, 206, 207, 208, 209, 210, 211, 212, 213, 214, 215, 216, 217, 218, 219, 220, 221, 222, 223, 230, 231, 232, 233, 234, 235, 236, 224, 225, 226, 227, 228, 229] (by decide +kernel) (by decide +kernel)
set_option maxRecDepth 20000 in
theorem gX5_digest_X5_withNodes : GoodIn wsX5_digest (wsV RX5 201 RX5 yX5_withNodes wsX5_withNodes) := goodIn_app (goodIn_of _ (by decide +kernel)) ggX5_digest_X5_withNodes
set_option maxRecDepth 20000 in
theorem ggX5_digest_X5_withPage : GoodIn wsX5_digest wsX5_withPage := goodIn_r _ [170, 171, 172, 173, 174, 175, 176, 177, 178, 179, 180, 181, 182, 21, 22, 5, 23, 24, 206, 207, 208, 209, 210, 211, 212, 213, 214, 215, 237, 238] (by decide +kernel) (by decide +kernel)
set_option maxRecDepth 20000 in
theorem gX5_digest_X5_withPage : GoodIn wsX5_digest (wsV RX5 204 RX5 yX5_withPage wsX5_withPage) := goodIn_app (goodIn_of _ (by decide +kernel)) ggX5_digest_X5_withPage
set_option maxRecDepth 20000 in
theorem ggX5_digest_X5_withCounts : GoodIn wsX5_digest wsX5_withCounts := goodIn_r _ [186, 187, 188, 189, 5, 190, 7, 171, 9, 8, 191, 192, 193, 194, 195, 71, 72, 73, 13, 74, 70, 10, 11, 12, 14, 15, 172, 173, 174, 175, 176, 177, 196, 197, 198, 39, 199, 153, 158, 200, 201, 202, 203, 33, 204, 205, 49, 50, 51, 52, 53, 54, 55, 35, 56, 57, 21, 22, 23, 24, 206, 207, 208, 209, 210, 211, 212, 213, 214, 215, 216, 217, 218, 219, 220, 221, 222, 223, 237, 238, 225, 226, 227, 228, 229, 224] (by decide +kernel) (by decide +kernel)
set_option maxRecDepth 20000 in
theorem gX5_digest_X5_withCounts : GoodIn wsX5_digest (wsV RX5 207 RX5 yX5_withCounts wsX5_withCounts) := goodIn_app (goodIn_of _ (by decide +kernel)) ggX5_digest_X5_withCounts
theorem dX5_digest_0 : decode cX5_digest 0 = .ok (.ldc2_w 192, 3) := by decide +kernel
theorem dX5_digest_3 : decode cX5_digest 3 = .ok (.lstore_n 1, 1) := by decide +kernel
theorem dX5_digest_4 : decode cX5_digest 4 = .ok (.aload_n 0, 1) := by decide +kernel
theorem dX5_digest_5 : decode cX5_digest 5 = .ok (.lload_n 1, 1) := by decide +kernel
theorem dX5_digest_6 : decode cX5_digest 6 = .ok (.invokevirtual 194, 3) := by decide +kernel
theorem dX5_digest_9 : decode cX5_digest 9 = .ok (.lstore_n 1, 1) := by decide +kernel
theorem dX5_digest_10 : decode cX5_digest 10 = .ok (.aload_n 0, 1) := by decide +kernel
theorem dX5_digest_11 : decode cX5_digest 11 = .ok (.lload_n 1, 1) := by decide +kernel
theorem dX5_digest_12 : decode cX5_digest 12 = .ok (.invokevirtual 198, 3) := by decide +kernel
theorem dX5_digest_15 : decode cX5_digest 15 = .ok (.lstore_n 1, 1) := by decide +kernel
theorem dX5_digest_16 : decode cX5_digest 16 = .ok (.aload_n 0, 1) := by decide +kernel
theorem dX5_digest_17 : decode cX5_digest 17 = .ok (.lload_n 1, 1) := by decide +kernel
theorem dX5_digest_18 : decode cX5_digest 18 = .ok (.invokevirtual 201, 3) := by decide +kernel
theorem dX5_digest_21 : decode cX5_digest 21 = .ok (.lstore_n 1, 1) := by decide +kernel
theorem dX5_digest_22 : decode cX5_digest 22 = .ok (.aload_n 0, 1) := by decide +kernel
theorem dX5_digest_23 : decode cX5_digest 23 = .ok (.lload_n 1, 1) := by decide +kernel
theorem dX5_digest_24 : decode cX5_digest 24 = .ok (.invokevirtual 204, 3) := by decide +kernel
theorem dX5_digest_27 : decode cX5_digest 27 = .ok (.lstore_n 1, 1) := by decide +kernel
theorem dX5_digest_28 : decode cX5_digest 28 = .ok (.aload_n 0, 1) := by decide +kernel
theorem dX5_digest_29 : decode cX5_digest 29 = .ok (.lload_n 1, 1) := by decide +kernel
theorem dX5_digest_30 : decode cX5_digest 30 = .ok (.invokevirtual 207, 3) := by decide +kernel
theorem dX5_digest_33 : decode cX5_digest 33 = .ok (.lreturn, 1) := by decide +kernel
theorem dX5_isVariant_0 : decode cX5_isVariant 0 = .ok (.iload_n 0, 1) := by decide +kernel
theorem dX5_isVariant_1 : decode cX5_isVariant 1 = .ok (.ifCond .lt 12, 3) := by decide +kernel
theorem dX5_isVariant_4 : decode cX5_isVariant 4 = .ok (.iload_n 0, 1) := by decide +kernel
theorem dX5_isVariant_5 : decode cX5_isVariant 5 = .ok (.iconst 3, 1) := by decide +kernel
theorem dX5_isVariant_6 : decode cX5_isVariant 6 = .ok (.if_icmp .ge 7, 3) := by decide +kernel
theorem dX5_isVariant_9 : decode cX5_isVariant 9 = .ok (.iconst 1, 1) := by decide +kernel
theorem dX5_isVariant_10 : decode cX5_isVariant 10 = .ok (.goto 4, 3) := by decide +kernel
theorem dX5_isVariant_13 : decode cX5_isVariant 13 = .ok (.iconst 0, 1) := by decide +kernel
theorem dX5_isVariant_14 : decode cX5_isVariant 14 = .ok (.ireturn, 1) := by decide +kernel
theorem dX5_isPlace_0 : decode cX5_isPlace 0 = .ok (.iload_n 0, 1) := by decide +kernel
theorem dX5_isPlace_1 : decode cX5_isPlace 1 = .ok (.ifCond .lt 12, 3) := by decide +kernel
theorem dX5_isPlace_4 : decode cX5_isPlace 4 = .ok (.iload_n 0, 1) := by decide +kernel
theorem dX5_isPlace_5 : decode cX5_isPlace 5 = .ok (.iconst 4, 1) := by decide +kernel
theorem dX5_isPlace_6 : decode cX5_isPlace 6 = .ok (.if_icmp .ge 7, 3) := by decide +kernel
theorem dX5_isPlace_9 : decode cX5_isPlace 9 = .ok (.iconst 1, 1) := by decide +kernel
theorem dX5_isPlace_10 : decode cX5_isPlace 10 = .ok (.goto 4, 3) := by decide +kernel
theorem dX5_isPlace_13 : decode cX5_isPlace 13 = .ok (.iconst 0, 1) := by decide +kernel
theorem dX5_isPlace_14 : decode cX5_isPlace 14 = .ok (.ireturn, 1) := by decide +kernel
set_option maxRecDepth 20000 in
theorem ggX5_foldedBits_X0_linksAt : GoodIn wsX5_foldedBits wsX0_linksAt := goodIn_r _ [8, 9, 10, 11, 12, 41] (by decide +kernel) (by decide +kernel)
set_option maxRecDepth 20000 in
theorem gX5_foldedBits_X0_linksAt : GoodIn wsX5_foldedBits (wsV RX5 144 RX0 yX0_linksAt wsX0_linksAt) := goodIn_app (goodIn_of _ (by decide +kernel)) ggX5_foldedBits_X0_linksAt
set_option maxRecDepth 20000 in
theorem ggX5_foldedBits_X3_ofBundle : GoodIn wsX5_foldedBits wsX3_ofBundle := goodIn_r _ [17, 18, 19, 11, 20, 10, 12, 42, 43, 44, 45, 46] (by decide +kernel) (by decide +kernel)
set_option maxRecDepth 20000 in
theorem gX5_foldedBits_X3_ofBundle : GoodIn wsX5_foldedBits (wsV RX5 147 RX3 yX3_ofBundle wsX3_ofBundle) := goodIn_app (goodIn_of _ (by decide +kernel)) ggX5_foldedBits_X3_ofBundle
set_option maxRecDepth 20000 in
theorem ggX5_foldedBits_X2_linkCount : GoodIn wsX5_foldedBits wsX2_linkCount := goodIn_r _ [25, 26, 47, 48, 49, 50, 51, 52, 53, 54] (by decide +kernel) (by decide +kernel)
set_option maxRecDepth 20000 in
theorem gX5_foldedBits_X2_linkCount : GoodIn wsX5_foldedBits (wsV RX5 70 RX2 yX2_linkCount wsX2_linkCount) := goodIn_app (goodIn_of _ (by decide +kernel)) ggX5_foldedBits_X2_linkCount
set_option maxRecDepth 20000 in
theorem ggX5_foldedBits_X3_ofLink : GoodIn wsX5_foldedBits wsX3_ofLink := goodIn_r _ [30, 18, 19, 11, 20, 42, 43, 44, 45, 46] (by decide +kernel) (by decide +kernel)
set_option maxRecDepth 20000 in
theorem gX5_foldedBits_X3_ofLink : GoodIn wsX5_foldedBits (wsV RX5 103 RX3 yX3_ofLink wsX3_ofLink) := goodIn_app (goodIn_of _ (by decide +kernel)) ggX5_foldedBits_X3_ofLink
theorem dX5_foldedBits_0 : decode cX5_foldedBits 0 = .ok (.lconst 0, 1) := by decide +kernel
theorem dX5_foldedBits_1 : decode cX5_foldedBits 1 = .ok (.lstore 4, 2) := by decide +kernel
theorem dX5_foldedBits_3 : decode cX5_foldedBits 3 = .ok (.iconst 0, 1) := by decide +kernel
theorem dX5_foldedBits_4 : decode cX5_foldedBits 4 = .ok (.istore 6, 2) := by decide +kernel
theorem dX5_foldedBits_6 : decode cX5_foldedBits 6 = .ok (.iload_n 3, 1) := by decide +kernel
theorem dX5_foldedBits_7 : decode cX5_foldedBits 7 = .ok (.ifCond .eq 65, 3) := by decide +kernel
theorem dX5_foldedBits_10 : decode cX5_foldedBits 10 = .ok (.iconst 0, 1) := by decide +kernel
theorem dX5_foldedBits_11 : decode cX5_foldedBits 11 = .ok (.istore 7, 2) := by decide +kernel
theorem dX5_foldedBits_13 : decode cX5_foldedBits 13 = .ok (.iload 7, 2) := by decide +kernel
theorem dX5_foldedBits_15 : decode cX5_foldedBits 15 = .ok (.iconst 4, 1) := by decide +kernel
theorem dX5_foldedBits_16 : decode cX5_foldedBits 16 = .ok (.if_icmp .ge 56, 3) := by decide +kernel
theorem dX5_foldedBits_19 : decode cX5_foldedBits 19 = .ok (.aload_n 0, 1) := by decide +kernel
theorem dX5_foldedBits_20 : decode cX5_foldedBits 20 = .ok (.getfield 33, 3) := by decide +kernel
theorem dX5_foldedBits_23 : decode cX5_foldedBits 23 = .ok (.iload 7, 2) := by decide +kernel
theorem dX5_foldedBits_25 : decode cX5_foldedBits 25 = .ok (.invokevirtual 144, 3) := by decide +kernel
theorem dX5_foldedBits_28 : decode cX5_foldedBits 28 = .ok (.istore 8, 2) := by decide +kernel
theorem dX5_foldedBits_30 : decode cX5_foldedBits 30 = .ok (.iload 8, 2) := by decide +kernel
theorem dX5_foldedBits_32 : decode cX5_foldedBits 32 = .ok (.ifCond .eq 34, 3) := by decide +kernel
theorem dX5_foldedBits_35 : decode cX5_foldedBits 35 = .ok (.iload 8, 2) := by decide +kernel
theorem dX5_foldedBits_37 : decode cX5_foldedBits 37 = .ok (.iload_n 1, 1) := by decide +kernel
theorem dX5_foldedBits_38 : decode cX5_foldedBits 38 = .ok (.iconst (-1), 1) := by decide +kernel
theorem dX5_foldedBits_39 : decode cX5_foldedBits 39 = .ok (.ixor, 1) := by decide +kernel
theorem dX5_foldedBits_40 : decode cX5_foldedBits 40 = .ok (.iand, 1) := by decide +kernel
theorem dX5_foldedBits_41 : decode cX5_foldedBits 41 = .ok (.ifCond .ne 25, 3) := by decide +kernel
theorem dX5_foldedBits_44 : decode cX5_foldedBits 44 = .ok (.lload 4, 2) := by decide +kernel
theorem dX5_foldedBits_46 : decode cX5_foldedBits 46 = .ok (.aload_n 0, 1) := by decide +kernel
theorem dX5_foldedBits_47 : decode cX5_foldedBits 47 = .ok (.getfield 26, 3) := by decide +kernel
theorem dX5_foldedBits_50 : decode cX5_foldedBits 50 = .ok (.iload 7, 2) := by decide +kernel
theorem dX5_foldedBits_52 : decode cX5_foldedBits 52 = .ok (.iload_n 2, 1) := by decide +kernel
theorem dX5_foldedBits_53 : decode cX5_foldedBits 53 = .ok (.invokevirtual 147, 3) := by decide +kernel
theorem dX5_foldedBits_56 : decode cX5_foldedBits 56 = .ok (.lor, 1) := by decide +kernel
theorem dX5_foldedBits_57 : decode cX5_foldedBits 57 = .ok (.lstore 4, 2) := by decide +kernel
theorem dX5_foldedBits_59 : decode cX5_foldedBits 59 = .ok (.iload 6, 2) := by decide +kernel
theorem dX5_foldedBits_61 : decode cX5_foldedBits 61 = .ok (.iload 8, 2) := by decide +kernel
theorem dX5_foldedBits_63 : decode cX5_foldedBits 63 = .ok (.ior, 1) := by decide +kernel
theorem dX5_foldedBits_64 : decode cX5_foldedBits 64 = .ok (.istore 6, 2) := by decide +kernel
theorem dX5_foldedBits_66 : decode cX5_foldedBits 66 = .ok (.iinc 7 1, 3) := by decide +kernel
theorem dX5_foldedBits_69 : decode cX5_foldedBits 69 = .ok (.goto (-56), 3) := by decide +kernel
theorem dX5_foldedBits_72 : decode cX5_foldedBits 72 = .ok (.iload_n 1, 1) := by decide +kernel
theorem dX5_foldedBits_73 : decode cX5_foldedBits 73 = .ok (.iload 6, 2) := by decide +kernel
theorem dX5_foldedBits_75 : decode cX5_foldedBits 75 = .ok (.iconst (-1), 1) := by decide +kernel
theorem dX5_foldedBits_76 : decode cX5_foldedBits 76 = .ok (.ixor, 1) := by decide +kernel
theorem dX5_foldedBits_77 : decode cX5_foldedBits 77 = .ok (.iand, 1) := by decide +kernel
theorem dX5_foldedBits_78 : decode cX5_foldedBits 78 = .ok (.istore 7, 2) := by decide +kernel
theorem dX5_foldedBits_80 : decode cX5_foldedBits 80 = .ok (.iconst 0, 1) := by decide +kernel
theorem dX5_foldedBits_81 : decode cX5_foldedBits 81 = .ok (.istore 8, 2) := by decide +kernel
theorem dX5_foldedBits_83 : decode cX5_foldedBits 83 = .ok (.iload 8, 2) := by decide +kernel
theorem dX5_foldedBits_85 : decode cX5_foldedBits 85 = .ok (.aload_n 0, 1) := by decide +kernel
theorem dX5_foldedBits_86 : decode cX5_foldedBits 86 = .ok (.getfield 19, 3) := by decide +kernel
theorem dX5_foldedBits_89 : decode cX5_foldedBits 89 = .ok (.invokevirtual 70, 3) := by decide +kernel
theorem dX5_foldedBits_92 : decode cX5_foldedBits 92 = .ok (.if_icmp .ge 34, 3) := by decide +kernel
theorem dX5_foldedBits_95 : decode cX5_foldedBits 95 = .ok (.iload 7, 2) := by decide +kernel
theorem dX5_foldedBits_97 : decode cX5_foldedBits 97 = .ok (.iload 8, 2) := by decide +kernel
theorem dX5_foldedBits_99 : decode cX5_foldedBits 99 = .ok (.ishr, 1) := by decide +kernel
theorem dX5_foldedBits_100 : decode cX5_foldedBits 100 = .ok (.iconst 1, 1) := by decide +kernel
theorem dX5_foldedBits_101 : decode cX5_foldedBits 101 = .ok (.iand, 1) := by decide +kernel
theorem dX5_foldedBits_102 : decode cX5_foldedBits 102 = .ok (.ifCond .eq 18, 3) := by decide +kernel
theorem dX5_foldedBits_105 : decode cX5_foldedBits 105 = .ok (.lload 4, 2) := by decide +kernel
theorem dX5_foldedBits_107 : decode cX5_foldedBits 107 = .ok (.aload_n 0, 1) := by decide +kernel
theorem dX5_foldedBits_108 : decode cX5_foldedBits 108 = .ok (.getfield 26, 3) := by decide +kernel
theorem dX5_foldedBits_111 : decode cX5_foldedBits 111 = .ok (.iload 8, 2) := by decide +kernel
theorem dX5_foldedBits_113 : decode cX5_foldedBits 113 = .ok (.iload_n 2, 1) := by decide +kernel
theorem dX5_foldedBits_114 : decode cX5_foldedBits 114 = .ok (.invokevirtual 103, 3) := by decide +kernel
theorem dX5_foldedBits_117 : decode cX5_foldedBits 117 = .ok (.lor, 1) := by decide +kernel
theorem dX5_foldedBits_118 : decode cX5_foldedBits 118 = .ok (.lstore 4, 2) := by decide +kernel
theorem dX5_foldedBits_120 : decode cX5_foldedBits 120 = .ok (.iinc 8 1, 3) := by decide +kernel
theorem dX5_foldedBits_123 : decode cX5_foldedBits 123 = .ok (.goto (-40), 3) := by decide +kernel
theorem dX5_foldedBits_126 : decode cX5_foldedBits 126 = .ok (.lload 4, 2) := by decide +kernel
theorem dX5_foldedBits_128 : decode cX5_foldedBits 128 = .ok (.lreturn, 1) := by decide +kernel
set_option maxRecDepth 20000 in
theorem ggX5_matchingLinks_X2_linkCount : GoodIn wsX5_matchingLinks wsX2_linkCount := goodIn_r _ [9, 10, 42, 43, 44, 45, 46, 47, 48, 49] (by decide +kernel) (by decide +kernel)
set_option maxRecDepth 20000 in
theorem gX5_matchingLinks_X2_linkCount : GoodIn wsX5_matchingLinks (wsV RX5 70 RX2 yX2_linkCount wsX2_linkCount) := goodIn_app (goodIn_of _ (by decide +kernel)) ggX5_matchingLinks_X2_linkCount
set_option maxRecDepth 20000 in
theorem ggX5_matchingLinks_X3_ofLink : GoodIn wsX5_matchingLinks wsX3_ofLink := goodIn_r _ [15, 16, 17, 18, 19, 50, 51, 52, 53, 54] (by decide +kernel) (by decide +kernel)
set_option maxRecDepth 20000 in
theorem gX5_matchingLinks_X3_ofLink : GoodIn wsX5_matchingLinks (wsV RX5 103 RX3 yX3_ofLink wsX3_ofLink) := goodIn_app (goodIn_of _ (by decide +kernel)) ggX5_matchingLinks_X3_ofLink
set_option maxRecDepth 20000 in
theorem ggX5_matchingLinks_X3_ofBundle : GoodIn wsX5_matchingLinks wsX3_ofBundle := goodIn_r _ [23, 16, 17, 18, 19, 24, 25, 50, 51, 52, 53, 54] (by decide +kernel) (by decide +kernel)
set_option maxRecDepth 20000 in
theorem gX5_matchingLinks_X3_ofBundle : GoodIn wsX5_matchingLinks (wsV RX5 147 RX3 yX3_ofBundle wsX3_ofBundle) := goodIn_app (goodIn_of _ (by decide +kernel)) ggX5_matchingLinks_X3_ofBundle
set_option maxRecDepth 20000 in
theorem ggX5_matchingLinks_X0_linksAt : GoodIn wsX5_matchingLinks wsX0_linksAt := goodIn_r _ [30, 31, 24, 18, 25, 55] (by decide +kernel) (by decide +kernel)
set_option maxRecDepth 20000 in
theorem gX5_matchingLinks_X0_linksAt : GoodIn wsX5_matchingLinks (wsV RX5 144 RX0 yX0_linksAt wsX0_linksAt) := goodIn_app (goodIn_of _ (by decide +kernel)) ggX5_matchingLinks_X0_linksAt
theorem dX5_matchingLinks_0 : decode cX5_matchingLinks 0 = .ok (.iconst 0, 1) := by decide +kernel
theorem dX5_matchingLinks_1 : decode cX5_matchingLinks 1 = .ok (.istore 4, 2) := by decide +kernel
theorem dX5_matchingLinks_3 : decode cX5_matchingLinks 3 = .ok (.iconst 0, 1) := by decide +kernel
theorem dX5_matchingLinks_4 : decode cX5_matchingLinks 4 = .ok (.istore 5, 2) := by decide +kernel
theorem dX5_matchingLinks_6 : decode cX5_matchingLinks 6 = .ok (.iload 5, 2) := by decide +kernel
theorem dX5_matchingLinks_8 : decode cX5_matchingLinks 8 = .ok (.aload_n 0, 1) := by decide +kernel
theorem dX5_matchingLinks_9 : decode cX5_matchingLinks 9 = .ok (.getfield 19, 3) := by decide +kernel
theorem dX5_matchingLinks_12 : decode cX5_matchingLinks 12 = .ok (.invokevirtual 70, 3) := by decide +kernel
theorem dX5_matchingLinks_15 : decode cX5_matchingLinks 15 = .ok (.if_icmp .ge 39, 3) := by decide +kernel
theorem dX5_matchingLinks_18 : decode cX5_matchingLinks 18 = .ok (.aload_n 0, 1) := by decide +kernel
theorem dX5_matchingLinks_19 : decode cX5_matchingLinks 19 = .ok (.getfield 26, 3) := by decide +kernel
theorem dX5_matchingLinks_22 : decode cX5_matchingLinks 22 = .ok (.iload 5, 2) := by decide +kernel
theorem dX5_matchingLinks_24 : decode cX5_matchingLinks 24 = .ok (.iload_n 3, 1) := by decide +kernel
theorem dX5_matchingLinks_25 : decode cX5_matchingLinks 25 = .ok (.invokevirtual 103, 3) := by decide +kernel
theorem dX5_matchingLinks_28 : decode cX5_matchingLinks 28 = .ok (.lload_n 1, 1) := by decide +kernel
theorem dX5_matchingLinks_29 : decode cX5_matchingLinks 29 = .ok (.ldc2_w 210, 3) := by decide +kernel
theorem dX5_matchingLinks_32 : decode cX5_matchingLinks 32 = .ok (.lxor, 1) := by decide +kernel
theorem dX5_matchingLinks_33 : decode cX5_matchingLinks 33 = .ok (.land, 1) := by decide +kernel
theorem dX5_matchingLinks_34 : decode cX5_matchingLinks 34 = .ok (.lconst 0, 1) := by decide +kernel
theorem dX5_matchingLinks_35 : decode cX5_matchingLinks 35 = .ok (.lcmp, 1) := by decide +kernel
theorem dX5_matchingLinks_36 : decode cX5_matchingLinks 36 = .ok (.ifCond .ne 12, 3) := by decide +kernel
theorem dX5_matchingLinks_39 : decode cX5_matchingLinks 39 = .ok (.iload 4, 2) := by decide +kernel
theorem dX5_matchingLinks_41 : decode cX5_matchingLinks 41 = .ok (.iconst 1, 1) := by decide +kernel
theorem dX5_matchingLinks_42 : decode cX5_matchingLinks 42 = .ok (.iload 5, 2) := by decide +kernel
theorem dX5_matchingLinks_44 : decode cX5_matchingLinks 44 = .ok (.ishl, 1) := by decide +kernel
theorem dX5_matchingLinks_45 : decode cX5_matchingLinks 45 = .ok (.ior, 1) := by decide +kernel
theorem dX5_matchingLinks_46 : decode cX5_matchingLinks 46 = .ok (.istore 4, 2) := by decide +kernel
theorem dX5_matchingLinks_48 : decode cX5_matchingLinks 48 = .ok (.iinc 5 1, 3) := by decide +kernel
theorem dX5_matchingLinks_51 : decode cX5_matchingLinks 51 = .ok (.goto (-45), 3) := by decide +kernel
theorem dX5_matchingLinks_54 : decode cX5_matchingLinks 54 = .ok (.iconst 0, 1) := by decide +kernel
theorem dX5_matchingLinks_55 : decode cX5_matchingLinks 55 = .ok (.istore 5, 2) := by decide +kernel
theorem dX5_matchingLinks_57 : decode cX5_matchingLinks 57 = .ok (.iload 5, 2) := by decide +kernel
theorem dX5_matchingLinks_59 : decode cX5_matchingLinks 59 = .ok (.iconst 4, 1) := by decide +kernel
theorem dX5_matchingLinks_60 : decode cX5_matchingLinks 60 = .ok (.if_icmp .ge 44, 3) := by decide +kernel
theorem dX5_matchingLinks_63 : decode cX5_matchingLinks 63 = .ok (.aload_n 0, 1) := by decide +kernel
theorem dX5_matchingLinks_64 : decode cX5_matchingLinks 64 = .ok (.getfield 26, 3) := by decide +kernel
theorem dX5_matchingLinks_67 : decode cX5_matchingLinks 67 = .ok (.iload 5, 2) := by decide +kernel
theorem dX5_matchingLinks_69 : decode cX5_matchingLinks 69 = .ok (.iload_n 3, 1) := by decide +kernel
theorem dX5_matchingLinks_70 : decode cX5_matchingLinks 70 = .ok (.invokevirtual 147, 3) := by decide +kernel
theorem dX5_matchingLinks_73 : decode cX5_matchingLinks 73 = .ok (.lload_n 1, 1) := by decide +kernel
theorem dX5_matchingLinks_74 : decode cX5_matchingLinks 74 = .ok (.ldc2_w 210, 3) := by decide +kernel
theorem dX5_matchingLinks_77 : decode cX5_matchingLinks 77 = .ok (.lxor, 1) := by decide +kernel
theorem dX5_matchingLinks_78 : decode cX5_matchingLinks 78 = .ok (.land, 1) := by decide +kernel
theorem dX5_matchingLinks_79 : decode cX5_matchingLinks 79 = .ok (.lconst 0, 1) := by decide +kernel
theorem dX5_matchingLinks_80 : decode cX5_matchingLinks 80 = .ok (.lcmp, 1) := by decide +kernel
theorem dX5_matchingLinks_81 : decode cX5_matchingLinks 81 = .ok (.ifCond .ne 17, 3) := by decide +kernel
theorem dX5_matchingLinks_84 : decode cX5_matchingLinks 84 = .ok (.iload 4, 2) := by decide +kernel
theorem dX5_matchingLinks_86 : decode cX5_matchingLinks 86 = .ok (.aload_n 0, 1) := by decide +kernel
theorem dX5_matchingLinks_87 : decode cX5_matchingLinks 87 = .ok (.getfield 33, 3) := by decide +kernel
theorem dX5_matchingLinks_90 : decode cX5_matchingLinks 90 = .ok (.iload 5, 2) := by decide +kernel
theorem dX5_matchingLinks_92 : decode cX5_matchingLinks 92 = .ok (.invokevirtual 144, 3) := by decide +kernel
theorem dX5_matchingLinks_95 : decode cX5_matchingLinks 95 = .ok (.ior, 1) := by decide +kernel
theorem dX5_matchingLinks_96 : decode cX5_matchingLinks 96 = .ok (.istore 4, 2) := by decide +kernel
theorem dX5_matchingLinks_98 : decode cX5_matchingLinks 98 = .ok (.iinc 5 1, 3) := by decide +kernel
theorem dX5_matchingLinks_101 : decode cX5_matchingLinks 101 = .ok (.goto (-44), 3) := by decide +kernel
theorem dX5_matchingLinks_104 : decode cX5_matchingLinks 104 = .ok (.iload 4, 2) := by decide +kernel
theorem dX5_matchingLinks_106 : decode cX5_matchingLinks 106 = .ok (.ireturn, 1) := by decide +kernel
set_option maxRecDepth 20000 in
theorem ggX5_spreadOut_X2_treeLinks : GoodIn wsX5_spreadOut wsX2_treeLinks := goodIn_r _ [8, 9, 10, 11, 12, 13, 7, 14, 15, 16, 17, 112, 113, 114, 115, 116, 117, 118, 119] (by decide +kernel) (by decide +kernel)
set_option maxRecDepth 20000 in
theorem gX5_spreadOut_X2_treeLinks : GoodIn wsX5_spreadOut (wsV RX5 126 RX2 yX2_treeLinks wsX2_treeLinks) := goodIn_app (goodIn_of _ (by decide +kernel)) ggX5_spreadOut_X2_treeLinks
set_option maxRecDepth 20000 in
theorem ggX5_spreadOut_X5_foldedBits : GoodIn wsX5_spreadOut wsX5_foldedBits := goodIn_r _ [22, 23, 24, 1, 25, 26, 27, 28, 29, 30, 31, 21, 32, 33, 34, 35, 36, 37, 38, 39, 40, 41, 42, 43, 7, 44, 45, 46, 47, 48, 49, 95, 96, 97, 98, 99, 100, 101, 102, 103, 104, 120, 121, 122, 123, 124, 125, 112, 113, 114, 115, 116, 117, 118, 119] (by decide +kernel) (by decide +kernel)
set_option maxRecDepth 20000 in
theorem gX5_spreadOut_X5_foldedBits : GoodIn wsX5_spreadOut (wsV RX5 150 RX5 yX5_foldedBits wsX5_foldedBits) := goodIn_app (goodIn_of _ (by decide +kernel)) ggX5_spreadOut_X5_foldedBits
set_option maxRecDepth 20000 in
theorem ggX5_spreadOut_X5_matchingLinks : GoodIn wsX5_spreadOut wsX5_matchingLinks := goodIn_r _ [53, 1, 24, 54, 23, 41, 42, 43, 7, 44, 45, 46, 47, 48, 36, 49, 38, 39, 21, 40, 33, 34, 35, 37, 31, 32, 25, 26, 27, 28, 29, 30, 95, 96, 97, 98, 99, 100, 101, 102, 103, 104, 112, 113, 114, 115, 116, 117, 118, 119, 121, 122, 123, 124, 125, 120] (by decide +kernel) (by decide +kernel)
set_option maxRecDepth 20000 in
theorem gX5_spreadOut_X5_matchingLinks : GoodIn wsX5_spreadOut (wsV RX5 212 RX5 yX5_matchingLinks wsX5_matchingLinks) := goodIn_app (goodIn_of _ (by decide +kernel)) ggX5_spreadOut_X5_matchingLinks
set_option maxRecDepth 20000 in
theorem ggX5_spreadOut_X1_run : GoodIn wsX5_spreadOut wsX1_run := goodIn_r _ [59, 60, 61, 62, 63, 64, 65, 66, 67, 68, 69, 70, 71, 72, 73, 74, 75, 58, 76, 77, 42, 43, 7, 44, 45, 78, 79, 80, 81, 82, 83, 84, 85, 86, 87, 105, 106, 107, 108, 109, 110, 111, 112, 113, 114, 115, 116, 117, 118, 119] (by decide +kernel) (by decide +kernel)
set_option maxRecDepth 20000 in
theorem gX5_spreadOut_X1_run : GoodIn wsX5_spreadOut (wsV RX5 216 RX1 yX1_run wsX1_run) := goodIn_app (goodIn_of _ (by decide +kernel)) ggX5_spreadOut_X1_run
set_option maxRecDepth 20000 in
theorem ggX5_spreadOut_J13_bitCount_95d88 : GoodIn wsX5_spreadOut wsJ13_bitCount_95d88 := goodIn_r _ [91, 92, 93, 94] (by decide +kernel) (by decide +kernel)
set_option maxRecDepth 20000 in
theorem gX5_spreadOut_J13_bitCount_95d88 : GoodIn wsX5_spreadOut (va_wsS RX5 220 yJ13_bitCount_95d88 wsJ13_bitCount_95d88) := goodIn_app (goodIn_of _ (by decide +kernel)) ggX5_spreadOut_J13_bitCount_95d88
theorem dX5_spreadOut_0 : decode cX5_spreadOut 0 = .ok (.aload_n 0, 1) := by decide +kernel
theorem dX5_spreadOut_1 : decode cX5_spreadOut 1 = .ok (.getfield 19, 3) := by decide +kernel
theorem dX5_spreadOut_4 : decode cX5_spreadOut 4 = .ok (.iload_n 1, 1) := by decide +kernel
theorem dX5_spreadOut_5 : decode cX5_spreadOut 5 = .ok (.iload_n 2, 1) := by decide +kernel
theorem dX5_spreadOut_6 : decode cX5_spreadOut 6 = .ok (.invokevirtual 126, 3) := by decide +kernel
theorem dX5_spreadOut_9 : decode cX5_spreadOut 9 = .ok (.istore 5, 2) := by decide +kernel
theorem dX5_spreadOut_11 : decode cX5_spreadOut 11 = .ok (.aload_n 0, 1) := by decide +kernel
theorem dX5_spreadOut_12 : decode cX5_spreadOut 12 = .ok (.iload 5, 2) := by decide +kernel
theorem dX5_spreadOut_14 : decode cX5_spreadOut 14 = .ok (.iload_n 3, 1) := by decide +kernel
theorem dX5_spreadOut_15 : decode cX5_spreadOut 15 = .ok (.iload 4, 2) := by decide +kernel
theorem dX5_spreadOut_17 : decode cX5_spreadOut 17 = .ok (.invokevirtual 150, 3) := by decide +kernel
theorem dX5_spreadOut_20 : decode cX5_spreadOut 20 = .ok (.lstore 6, 2) := by decide +kernel
theorem dX5_spreadOut_22 : decode cX5_spreadOut 22 = .ok (.aload_n 0, 1) := by decide +kernel
theorem dX5_spreadOut_23 : decode cX5_spreadOut 23 = .ok (.getfield 40, 3) := by decide +kernel
theorem dX5_spreadOut_26 : decode cX5_spreadOut 26 = .ok (.aload_n 0, 1) := by decide +kernel
theorem dX5_spreadOut_27 : decode cX5_spreadOut 27 = .ok (.getfield 19, 3) := by decide +kernel
theorem dX5_spreadOut_30 : decode cX5_spreadOut 30 = .ok (.iload_n 1, 1) := by decide +kernel
theorem dX5_spreadOut_31 : decode cX5_spreadOut 31 = .ok (.iload 5, 2) := by decide +kernel
theorem dX5_spreadOut_33 : decode cX5_spreadOut 33 = .ok (.aload_n 0, 1) := by decide +kernel
theorem dX5_spreadOut_34 : decode cX5_spreadOut 34 = .ok (.lload 6, 2) := by decide +kernel
theorem dX5_spreadOut_36 : decode cX5_spreadOut 36 = .ok (.iload_n 3, 1) := by decide +kernel
theorem dX5_spreadOut_37 : decode cX5_spreadOut 37 = .ok (.invokevirtual 212, 3) := by decide +kernel
theorem dX5_spreadOut_40 : decode cX5_spreadOut 40 = .ok (.invokevirtual 216, 3) := by decide +kernel
theorem dX5_spreadOut_43 : decode cX5_spreadOut 43 = .ok (.aload_n 0, 1) := by decide +kernel
theorem dX5_spreadOut_44 : decode cX5_spreadOut 44 = .ok (.getfield 40, 3) := by decide +kernel
theorem dX5_spreadOut_47 : decode cX5_spreadOut 47 = .ok (.lload 6, 2) := by decide +kernel
theorem dX5_spreadOut_49 : decode cX5_spreadOut 49 = .ok (.invokestatic 220, 3) := by decide +kernel
theorem dX5_spreadOut_52 : decode cX5_spreadOut 52 = .ok (.putfield 225, 3) := by decide +kernel
theorem dX5_spreadOut_55 : decode cX5_spreadOut 55 = .ok (.return_, 1) := by decide +kernel
set_option maxRecDepth 20000 in
theorem ggX5_spreadFact_X3_oddsAbove : GoodIn wsX5_spreadFact wsX3_oddsAbove := goodIn_r _ [14, 15, 16, 17, 13, 18, 19, 20, 21, 22, 23, 24, 46, 47, 48, 49, 50] (by decide +kernel) (by decide +kernel)
set_option maxRecDepth 20000 in
theorem gX5_spreadFact_X3_oddsAbove : GoodIn wsX5_spreadFact (wsV RX5 234 RX3 yX3_oddsAbove wsX3_oddsAbove) := goodIn_app (goodIn_of _ (by decide +kernel)) ggX5_spreadFact_X3_oddsAbove
set_option maxRecDepth 20000 in
theorem ggX5_spreadFact_X3_oddsBelow : GoodIn wsX5_spreadFact wsX3_oddsBelow := goodIn_r _ [28, 19, 15, 16, 17, 13, 18, 20, 21, 22, 23, 24, 46, 47, 48, 49, 50] (by decide +kernel) (by decide +kernel)
set_option maxRecDepth 20000 in
theorem gX5_spreadFact_X3_oddsBelow : GoodIn wsX5_spreadFact (wsV RX5 237 RX3 yX3_oddsBelow wsX3_oddsBelow) := goodIn_app (goodIn_of _ (by decide +kernel)) ggX5_spreadFact_X3_oddsBelow
theorem dX5_spreadFact_0 : decode cX5_spreadFact 0 = .ok (.iload_n 1, 1) := by decide +kernel
theorem dX5_spreadFact_1 : decode cX5_spreadFact 1 = .ok (.tableswitch 125 0 7 #[47, 55, 63, 71, 79, 87, 95, 110], 47) := by decide +kernel
theorem dX5_spreadFact_48 : decode cX5_spreadFact 48 = .ok (.aload_n 0, 1) := by decide +kernel
theorem dX5_spreadFact_49 : decode cX5_spreadFact 49 = .ok (.getfield 40, 3) := by decide +kernel
theorem dX5_spreadFact_52 : decode cX5_spreadFact 52 = .ok (.getfield 225, 3) := by decide +kernel
theorem dX5_spreadFact_55 : decode cX5_spreadFact 55 = .ok (.ireturn, 1) := by decide +kernel
theorem dX5_spreadFact_56 : decode cX5_spreadFact 56 = .ok (.aload_n 0, 1) := by decide +kernel
theorem dX5_spreadFact_57 : decode cX5_spreadFact 57 = .ok (.getfield 40, 3) := by decide +kernel
theorem dX5_spreadFact_60 : decode cX5_spreadFact 60 = .ok (.getfield 171, 3) := by decide +kernel
theorem dX5_spreadFact_63 : decode cX5_spreadFact 63 = .ok (.ireturn, 1) := by decide +kernel
theorem dX5_spreadFact_64 : decode cX5_spreadFact 64 = .ok (.aload_n 0, 1) := by decide +kernel
theorem dX5_spreadFact_65 : decode cX5_spreadFact 65 = .ok (.getfield 40, 3) := by decide +kernel
theorem dX5_spreadFact_68 : decode cX5_spreadFact 68 = .ok (.getfield 177, 3) := by decide +kernel
theorem dX5_spreadFact_71 : decode cX5_spreadFact 71 = .ok (.ireturn, 1) := by decide +kernel
theorem dX5_spreadFact_72 : decode cX5_spreadFact 72 = .ok (.aload_n 0, 1) := by decide +kernel
theorem dX5_spreadFact_73 : decode cX5_spreadFact 73 = .ok (.getfield 40, 3) := by decide +kernel
theorem dX5_spreadFact_76 : decode cX5_spreadFact 76 = .ok (.getfield 183, 3) := by decide +kernel
theorem dX5_spreadFact_79 : decode cX5_spreadFact 79 = .ok (.ireturn, 1) := by decide +kernel
theorem dX5_spreadFact_80 : decode cX5_spreadFact 80 = .ok (.aload_n 0, 1) := by decide +kernel
theorem dX5_spreadFact_81 : decode cX5_spreadFact 81 = .ok (.getfield 40, 3) := by decide +kernel
theorem dX5_spreadFact_84 : decode cX5_spreadFact 84 = .ok (.getfield 228, 3) := by decide +kernel
theorem dX5_spreadFact_87 : decode cX5_spreadFact 87 = .ok (.ireturn, 1) := by decide +kernel
theorem dX5_spreadFact_88 : decode cX5_spreadFact 88 = .ok (.aload_n 0, 1) := by decide +kernel
theorem dX5_spreadFact_89 : decode cX5_spreadFact 89 = .ok (.getfield 40, 3) := by decide +kernel
theorem dX5_spreadFact_92 : decode cX5_spreadFact 92 = .ok (.getfield 231, 3) := by decide +kernel
theorem dX5_spreadFact_95 : decode cX5_spreadFact 95 = .ok (.ireturn, 1) := by decide +kernel
theorem dX5_spreadFact_96 : decode cX5_spreadFact 96 = .ok (.aload_n 0, 1) := by decide +kernel
theorem dX5_spreadFact_97 : decode cX5_spreadFact 97 = .ok (.getfield 26, 3) := by decide +kernel
theorem dX5_spreadFact_100 : decode cX5_spreadFact 100 = .ok (.aload_n 0, 1) := by decide +kernel
theorem dX5_spreadFact_101 : decode cX5_spreadFact 101 = .ok (.getfield 40, 3) := by decide +kernel
theorem dX5_spreadFact_104 : decode cX5_spreadFact 104 = .ok (.getfield 225, 3) := by decide +kernel
theorem dX5_spreadFact_107 : decode cX5_spreadFact 107 = .ok (.invokevirtual 234, 3) := by decide +kernel
theorem dX5_spreadFact_110 : decode cX5_spreadFact 110 = .ok (.ireturn, 1) := by decide +kernel
theorem dX5_spreadFact_111 : decode cX5_spreadFact 111 = .ok (.aload_n 0, 1) := by decide +kernel
theorem dX5_spreadFact_112 : decode cX5_spreadFact 112 = .ok (.getfield 26, 3) := by decide +kernel
theorem dX5_spreadFact_115 : decode cX5_spreadFact 115 = .ok (.aload_n 0, 1) := by decide +kernel
theorem dX5_spreadFact_116 : decode cX5_spreadFact 116 = .ok (.getfield 40, 3) := by decide +kernel
theorem dX5_spreadFact_119 : decode cX5_spreadFact 119 = .ok (.getfield 225, 3) := by decide +kernel
theorem dX5_spreadFact_122 : decode cX5_spreadFact 122 = .ok (.invokevirtual 237, 3) := by decide +kernel
theorem dX5_spreadFact_125 : decode cX5_spreadFact 125 = .ok (.ireturn, 1) := by decide +kernel
theorem dX5_spreadFact_126 : decode cX5_spreadFact 126 = .ok (.aload_n 0, 1) := by decide +kernel
theorem dX5_spreadFact_127 : decode cX5_spreadFact 127 = .ok (.getfield 40, 3) := by decide +kernel
theorem dX5_spreadFact_130 : decode cX5_spreadFact 130 = .ok (.getfield 240, 3) := by decide +kernel
theorem dX5_spreadFact_133 : decode cX5_spreadFact 133 = .ok (.ireturn, 1) := by decide +kernel
set_option maxRecDepth 20000 in
theorem ggX5_bestVariant_X5_spreadOut : GoodIn wsX5_bestVariant wsX5_spreadOut := goodIn_r _ [8, 9, 1, 3, 10, 11, 12, 13, 14, 15, 16, 17, 18, 19, 20, 21, 22, 23, 24, 25, 26, 7, 27, 28, 29, 30, 31, 32, 33, 34, 35, 36, 37, 38, 39, 40, 41, 42, 43, 44, 45, 46, 47, 48, 49, 50, 51, 52, 53, 54, 55, 56, 57, 58, 59, 60, 61, 62, 63, 64, 65, 66, 67, 68, 69, 70, 71, 72, 73, 74, 75, 76, 77, 78, 79, 80, 81, 82, 83, 84, 85, 86, 87, 88, 89, 90, 91, 92, 93, 94, 95, 96, 97, 98, 99, 100, 101, 102, 103, 104, 105, 106, 107, 108, 109, 110, 111, 112, 113, 114, 115, 116, 117, 118, 119, 120, 121, 122, 123, 124, 125, 126, 127, 128, 129, 130] (by decide +kernel) (by decide +kernel)
set_option maxRecDepth 20000 in
theorem gX5_bestVariant_X5_spreadOut : GoodIn wsX5_bestVariant (wsV RX5 154 RX5 yX5_spreadOut wsX5_spreadOut) := goodIn_app (goodIn_of _ (by decide +kernel)) ggX5_bestVariant_X5_spreadOut
theorem dX5_bestVariant_0 : decode cX5_bestVariant 0 = .ok (.iconst 0, 1) := by decide +kernel
theorem dX5_bestVariant_1 : decode cX5_bestVariant 1 = .ok (.istore 4, 2) := by decide +kernel
theorem dX5_bestVariant_3 : decode cX5_bestVariant 3 = .ok (.iconst 0, 1) := by decide +kernel
theorem dX5_bestVariant_4 : decode cX5_bestVariant 4 = .ok (.istore 5, 2) := by decide +kernel
theorem dX5_bestVariant_6 : decode cX5_bestVariant 6 = .ok (.iconst 0, 1) := by decide +kernel
theorem dX5_bestVariant_7 : decode cX5_bestVariant 7 = .ok (.istore 6, 2) := by decide +kernel
theorem dX5_bestVariant_9 : decode cX5_bestVariant 9 = .ok (.iconst 0, 1) := by decide +kernel
theorem dX5_bestVariant_10 : decode cX5_bestVariant 10 = .ok (.istore 7, 2) := by decide +kernel
theorem dX5_bestVariant_12 : decode cX5_bestVariant 12 = .ok (.iload 7, 2) := by decide +kernel
theorem dX5_bestVariant_14 : decode cX5_bestVariant 14 = .ok (.iconst 3, 1) := by decide +kernel
theorem dX5_bestVariant_15 : decode cX5_bestVariant 15 = .ok (.if_icmp .ge 93, 3) := by decide +kernel
theorem dX5_bestVariant_18 : decode cX5_bestVariant 18 = .ok (.aload_n 0, 1) := by decide +kernel
theorem dX5_bestVariant_19 : decode cX5_bestVariant 19 = .ok (.iload_n 1, 1) := by decide +kernel
theorem dX5_bestVariant_20 : decode cX5_bestVariant 20 = .ok (.iload_n 2, 1) := by decide +kernel
theorem dX5_bestVariant_21 : decode cX5_bestVariant 21 = .ok (.iload 7, 2) := by decide +kernel
theorem dX5_bestVariant_23 : decode cX5_bestVariant 23 = .ok (.iload_n 3, 1) := by decide +kernel
theorem dX5_bestVariant_24 : decode cX5_bestVariant 24 = .ok (.invokevirtual 154, 3) := by decide +kernel
theorem dX5_bestVariant_27 : decode cX5_bestVariant 27 = .ok (.aload_n 0, 1) := by decide +kernel
theorem dX5_bestVariant_28 : decode cX5_bestVariant 28 = .ok (.getfield 40, 3) := by decide +kernel
theorem dX5_bestVariant_31 : decode cX5_bestVariant 31 = .ok (.getfield 177, 3) := by decide +kernel
theorem dX5_bestVariant_34 : decode cX5_bestVariant 34 = .ok (.iload 5, 2) := by decide +kernel
theorem dX5_bestVariant_36 : decode cX5_bestVariant 36 = .ok (.if_icmp .lt 27, 3) := by decide +kernel
theorem dX5_bestVariant_39 : decode cX5_bestVariant 39 = .ok (.aload_n 0, 1) := by decide +kernel
theorem dX5_bestVariant_40 : decode cX5_bestVariant 40 = .ok (.getfield 40, 3) := by decide +kernel
theorem dX5_bestVariant_43 : decode cX5_bestVariant 43 = .ok (.getfield 177, 3) := by decide +kernel
theorem dX5_bestVariant_46 : decode cX5_bestVariant 46 = .ok (.iload 5, 2) := by decide +kernel
theorem dX5_bestVariant_48 : decode cX5_bestVariant 48 = .ok (.if_icmp .ne 19, 3) := by decide +kernel
theorem dX5_bestVariant_51 : decode cX5_bestVariant 51 = .ok (.aload_n 0, 1) := by decide +kernel
theorem dX5_bestVariant_52 : decode cX5_bestVariant 52 = .ok (.getfield 40, 3) := by decide +kernel
theorem dX5_bestVariant_55 : decode cX5_bestVariant 55 = .ok (.getfield 225, 3) := by decide +kernel
theorem dX5_bestVariant_58 : decode cX5_bestVariant 58 = .ok (.iload 6, 2) := by decide +kernel
theorem dX5_bestVariant_60 : decode cX5_bestVariant 60 = .ok (.if_icmp .ge 7, 3) := by decide +kernel
theorem dX5_bestVariant_63 : decode cX5_bestVariant 63 = .ok (.iconst 1, 1) := by decide +kernel
theorem dX5_bestVariant_64 : decode cX5_bestVariant 64 = .ok (.goto 4, 3) := by decide +kernel
theorem dX5_bestVariant_67 : decode cX5_bestVariant 67 = .ok (.iconst 0, 1) := by decide +kernel
theorem dX5_bestVariant_68 : decode cX5_bestVariant 68 = .ok (.istore 8, 2) := by decide +kernel
theorem dX5_bestVariant_70 : decode cX5_bestVariant 70 = .ok (.iload 7, 2) := by decide +kernel
theorem dX5_bestVariant_72 : decode cX5_bestVariant 72 = .ok (.ifCond .eq 8, 3) := by decide +kernel
theorem dX5_bestVariant_75 : decode cX5_bestVariant 75 = .ok (.iload 8, 2) := by decide +kernel
theorem dX5_bestVariant_77 : decode cX5_bestVariant 77 = .ok (.ifCond .eq 25, 3) := by decide +kernel
theorem dX5_bestVariant_80 : decode cX5_bestVariant 80 = .ok (.iload 7, 2) := by decide +kernel
theorem dX5_bestVariant_82 : decode cX5_bestVariant 82 = .ok (.istore 4, 2) := by decide +kernel
theorem dX5_bestVariant_84 : decode cX5_bestVariant 84 = .ok (.aload_n 0, 1) := by decide +kernel
theorem dX5_bestVariant_85 : decode cX5_bestVariant 85 = .ok (.getfield 40, 3) := by decide +kernel
theorem dX5_bestVariant_88 : decode cX5_bestVariant 88 = .ok (.getfield 177, 3) := by decide +kernel
theorem dX5_bestVariant_91 : decode cX5_bestVariant 91 = .ok (.istore 5, 2) := by decide +kernel
theorem dX5_bestVariant_93 : decode cX5_bestVariant 93 = .ok (.aload_n 0, 1) := by decide +kernel
theorem dX5_bestVariant_94 : decode cX5_bestVariant 94 = .ok (.getfield 40, 3) := by decide +kernel
theorem dX5_bestVariant_97 : decode cX5_bestVariant 97 = .ok (.getfield 225, 3) := by decide +kernel
theorem dX5_bestVariant_100 : decode cX5_bestVariant 100 = .ok (.istore 6, 2) := by decide +kernel
theorem dX5_bestVariant_102 : decode cX5_bestVariant 102 = .ok (.iinc 7 1, 3) := by decide +kernel
theorem dX5_bestVariant_105 : decode cX5_bestVariant 105 = .ok (.goto (-93), 3) := by decide +kernel
theorem dX5_bestVariant_108 : decode cX5_bestVariant 108 = .ok (.iload 4, 2) := by decide +kernel
theorem dX5_bestVariant_110 : decode cX5_bestVariant 110 = .ok (.ireturn, 1) := by decide +kernel
theorem dX5_with_0 : decode cX5_with 0 = .ok (.ldc2_w 243, 3) := by decide +kernel
theorem dX5_with_3 : decode cX5_with 3 = .ok (.lload_n 0, 1) := by decide +kernel
theorem dX5_with_4 : decode cX5_with 4 = .ok (.lmul, 1) := by decide +kernel
theorem dX5_with_5 : decode cX5_with 5 = .ok (.lload_n 2, 1) := by decide +kernel
theorem dX5_with_6 : decode cX5_with 6 = .ok (.ladd, 1) := by decide +kernel
theorem dX5_with_7 : decode cX5_with 7 = .ok (.lreturn, 1) := by decide +kernel
set_option maxRecDepth 20000 in
theorem ggX5_withLinks_X2_linkCount : GoodIn wsX5_withLinks wsX2_linkCount := goodIn_r _ [8, 9, 49, 50, 51, 52, 53, 54, 55, 56] (by decide +kernel) (by decide +kernel)
set_option maxRecDepth 20000 in
theorem gX5_withLinks_X2_linkCount : GoodIn wsX5_withLinks (wsV RX5 70 RX2 yX2_linkCount wsX2_linkCount) := goodIn_app (goodIn_of _ (by decide +kernel)) ggX5_withLinks_X2_linkCount
set_option maxRecDepth 20000 in
theorem ggX5_withLinks_X2_startOf : GoodIn wsX5_withLinks wsX2_startOf := goodIn_r _ [13, 14, 49, 50, 51, 52, 53, 54, 55, 56] (by decide +kernel) (by decide +kernel)
set_option maxRecDepth 20000 in
theorem gX5_withLinks_X2_startOf : GoodIn wsX5_withLinks (wsV RX5 107 RX2 yX2_startOf wsX2_startOf) := goodIn_app (goodIn_of _ (by decide +kernel)) ggX5_withLinks_X2_startOf
set_option maxRecDepth 20000 in
theorem ggX5_withLinks_X5_with : GoodIn wsX5_withLinks wsX5_with := goodIn_r _ [18, 19] (by decide +kernel) (by decide +kernel)
set_option maxRecDepth 20000 in
theorem gX5_withLinks_X5_with : GoodIn wsX5_withLinks (va_wsS RX5 245 yX5_with wsX5_with) := goodIn_app (goodIn_of _ (by decide +kernel)) ggX5_withLinks_X5_with
set_option maxRecDepth 20000 in
theorem ggX5_withLinks_X2_endOf : GoodIn wsX5_withLinks wsX2_endOf := goodIn_r _ [23, 24, 49, 50, 51, 52, 53, 54, 55, 56] (by decide +kernel) (by decide +kernel)
set_option maxRecDepth 20000 in
theorem gX5_withLinks_X2_endOf : GoodIn wsX5_withLinks (wsV RX5 110 RX2 yX2_endOf wsX2_endOf) := goodIn_app (goodIn_of _ (by decide +kernel)) ggX5_withLinks_X2_endOf
set_option maxRecDepth 20000 in
theorem ggX5_withLinks_X0_placesWith : GoodIn wsX5_withLinks wsX0_placesWith := goodIn_r _ [29, 30, 57] (by decide +kernel) (by decide +kernel)
set_option maxRecDepth 20000 in
theorem gX5_withLinks_X0_placesWith : GoodIn wsX5_withLinks (wsV RX5 113 RX0 yX0_placesWith wsX0_placesWith) := goodIn_app (goodIn_of _ (by decide +kernel)) ggX5_withLinks_X0_placesWith
set_option maxRecDepth 20000 in
theorem ggX5_withLinks_X3_ofLink : GoodIn wsX5_withLinks wsX3_ofLink := goodIn_r _ [35, 36, 37, 17, 38, 58, 59, 60, 61, 62] (by decide +kernel) (by decide +kernel)
set_option maxRecDepth 20000 in
theorem gX5_withLinks_X3_ofLink : GoodIn wsX5_withLinks (wsV RX5 103 RX3 yX3_ofLink wsX3_ofLink) := goodIn_app (goodIn_of _ (by decide +kernel)) ggX5_withLinks_X3_ofLink
theorem dX5_withLinks_0 : decode cX5_withLinks 0 = .ok (.lload_n 1, 1) := by decide +kernel
theorem dX5_withLinks_1 : decode cX5_withLinks 1 = .ok (.lstore_n 3, 1) := by decide +kernel
theorem dX5_withLinks_2 : decode cX5_withLinks 2 = .ok (.iconst 0, 1) := by decide +kernel
theorem dX5_withLinks_3 : decode cX5_withLinks 3 = .ok (.istore 5, 2) := by decide +kernel
theorem dX5_withLinks_5 : decode cX5_withLinks 5 = .ok (.iload 5, 2) := by decide +kernel
theorem dX5_withLinks_7 : decode cX5_withLinks 7 = .ok (.aload_n 0, 1) := by decide +kernel
theorem dX5_withLinks_8 : decode cX5_withLinks 8 = .ok (.getfield 19, 3) := by decide +kernel
theorem dX5_withLinks_11 : decode cX5_withLinks 11 = .ok (.invokevirtual 70, 3) := by decide +kernel
theorem dX5_withLinks_14 : decode cX5_withLinks 14 = .ok (.if_icmp .ge 85, 3) := by decide +kernel
theorem dX5_withLinks_17 : decode cX5_withLinks 17 = .ok (.lload_n 3, 1) := by decide +kernel
theorem dX5_withLinks_18 : decode cX5_withLinks 18 = .ok (.aload_n 0, 1) := by decide +kernel
theorem dX5_withLinks_19 : decode cX5_withLinks 19 = .ok (.getfield 19, 3) := by decide +kernel
theorem dX5_withLinks_22 : decode cX5_withLinks 22 = .ok (.iload 5, 2) := by decide +kernel
theorem dX5_withLinks_24 : decode cX5_withLinks 24 = .ok (.invokevirtual 107, 3) := by decide +kernel
theorem dX5_withLinks_27 : decode cX5_withLinks 27 = .ok (.i2l, 1) := by decide +kernel
theorem dX5_withLinks_28 : decode cX5_withLinks 28 = .ok (.invokestatic 245, 3) := by decide +kernel
theorem dX5_withLinks_31 : decode cX5_withLinks 31 = .ok (.lstore_n 3, 1) := by decide +kernel
theorem dX5_withLinks_32 : decode cX5_withLinks 32 = .ok (.lload_n 3, 1) := by decide +kernel
theorem dX5_withLinks_33 : decode cX5_withLinks 33 = .ok (.aload_n 0, 1) := by decide +kernel
theorem dX5_withLinks_34 : decode cX5_withLinks 34 = .ok (.getfield 19, 3) := by decide +kernel
theorem dX5_withLinks_37 : decode cX5_withLinks 37 = .ok (.iload 5, 2) := by decide +kernel
theorem dX5_withLinks_39 : decode cX5_withLinks 39 = .ok (.invokevirtual 110, 3) := by decide +kernel
theorem dX5_withLinks_42 : decode cX5_withLinks 42 = .ok (.i2l, 1) := by decide +kernel
theorem dX5_withLinks_43 : decode cX5_withLinks 43 = .ok (.invokestatic 245, 3) := by decide +kernel
theorem dX5_withLinks_46 : decode cX5_withLinks 46 = .ok (.lstore_n 3, 1) := by decide +kernel
theorem dX5_withLinks_47 : decode cX5_withLinks 47 = .ok (.lload_n 3, 1) := by decide +kernel
theorem dX5_withLinks_48 : decode cX5_withLinks 48 = .ok (.aload_n 0, 1) := by decide +kernel
theorem dX5_withLinks_49 : decode cX5_withLinks 49 = .ok (.getfield 33, 3) := by decide +kernel
theorem dX5_withLinks_52 : decode cX5_withLinks 52 = .ok (.iload 5, 2) := by decide +kernel
theorem dX5_withLinks_54 : decode cX5_withLinks 54 = .ok (.invokevirtual 113, 3) := by decide +kernel
theorem dX5_withLinks_57 : decode cX5_withLinks 57 = .ok (.i2l, 1) := by decide +kernel
theorem dX5_withLinks_58 : decode cX5_withLinks 58 = .ok (.invokestatic 245, 3) := by decide +kernel
theorem dX5_withLinks_61 : decode cX5_withLinks 61 = .ok (.lstore_n 3, 1) := by decide +kernel
theorem dX5_withLinks_62 : decode cX5_withLinks 62 = .ok (.iconst 0, 1) := by decide +kernel
theorem dX5_withLinks_63 : decode cX5_withLinks 63 = .ok (.istore 6, 2) := by decide +kernel
theorem dX5_withLinks_65 : decode cX5_withLinks 65 = .ok (.iload 6, 2) := by decide +kernel
theorem dX5_withLinks_67 : decode cX5_withLinks 67 = .ok (.iconst 3, 1) := by decide +kernel
theorem dX5_withLinks_68 : decode cX5_withLinks 68 = .ok (.if_icmp .ge 25, 3) := by decide +kernel
theorem dX5_withLinks_71 : decode cX5_withLinks 71 = .ok (.lload_n 3, 1) := by decide +kernel
theorem dX5_withLinks_72 : decode cX5_withLinks 72 = .ok (.aload_n 0, 1) := by decide +kernel
theorem dX5_withLinks_73 : decode cX5_withLinks 73 = .ok (.getfield 26, 3) := by decide +kernel
theorem dX5_withLinks_76 : decode cX5_withLinks 76 = .ok (.iload 5, 2) := by decide +kernel
theorem dX5_withLinks_78 : decode cX5_withLinks 78 = .ok (.iload 6, 2) := by decide +kernel
theorem dX5_withLinks_80 : decode cX5_withLinks 80 = .ok (.invokevirtual 103, 3) := by decide +kernel
theorem dX5_withLinks_83 : decode cX5_withLinks 83 = .ok (.invokestatic 245, 3) := by decide +kernel
theorem dX5_withLinks_86 : decode cX5_withLinks 86 = .ok (.lstore_n 3, 1) := by decide +kernel
theorem dX5_withLinks_87 : decode cX5_withLinks 87 = .ok (.iinc 6 1, 3) := by decide +kernel
theorem dX5_withLinks_90 : decode cX5_withLinks 90 = .ok (.goto (-25), 3) := by decide +kernel
theorem dX5_withLinks_93 : decode cX5_withLinks 93 = .ok (.iinc 5 1, 3) := by decide +kernel
theorem dX5_withLinks_96 : decode cX5_withLinks 96 = .ok (.goto (-91), 3) := by decide +kernel
theorem dX5_withLinks_99 : decode cX5_withLinks 99 = .ok (.lload_n 3, 1) := by decide +kernel
theorem dX5_withLinks_100 : decode cX5_withLinks 100 = .ok (.lreturn, 1) := by decide +kernel
set_option maxRecDepth 20000 in
theorem ggX5_withBundles_X0_isThere : GoodIn wsX5_withBundles wsX0_isThere := goodIn_r _ [7, 8, 9, 10, 6, 11, 12, 13, 14, 15, 38] (by decide +kernel) (by decide +kernel)
set_option maxRecDepth 20000 in
theorem gX5_withBundles_X0_isThere : GoodIn wsX5_withBundles (wsV RX5 133 RX0 yX0_isThere wsX0_isThere) := goodIn_app (goodIn_of _ (by decide +kernel)) ggX5_withBundles_X0_isThere
set_option maxRecDepth 20000 in
theorem ggX5_withBundles_X5_with : GoodIn wsX5_withBundles wsX5_with := goodIn_r _ [18, 19] (by decide +kernel) (by decide +kernel)
set_option maxRecDepth 20000 in
theorem gX5_withBundles_X5_with : GoodIn wsX5_withBundles (va_wsS RX5 245 yX5_with wsX5_with) := goodIn_app (goodIn_of _ (by decide +kernel)) ggX5_withBundles_X5_with
set_option maxRecDepth 20000 in
theorem ggX5_withBundles_X3_ofBundle : GoodIn wsX5_withBundles wsX3_ofBundle := goodIn_r _ [24, 25, 26, 14, 27, 13, 15, 39, 40, 41, 42, 43] (by decide +kernel) (by decide +kernel)
set_option maxRecDepth 20000 in
theorem gX5_withBundles_X3_ofBundle : GoodIn wsX5_withBundles (wsV RX5 147 RX3 yX3_ofBundle wsX3_ofBundle) := goodIn_app (goodIn_of _ (by decide +kernel)) ggX5_withBundles_X3_ofBundle
theorem dX5_withBundles_0 : decode cX5_withBundles 0 = .ok (.lload_n 1, 1) := by decide +kernel
theorem dX5_withBundles_1 : decode cX5_withBundles 1 = .ok (.lstore_n 3, 1) := by decide +kernel
theorem dX5_withBundles_2 : decode cX5_withBundles 2 = .ok (.iconst 0, 1) := by decide +kernel
theorem dX5_withBundles_3 : decode cX5_withBundles 3 = .ok (.istore 5, 2) := by decide +kernel
theorem dX5_withBundles_5 : decode cX5_withBundles 5 = .ok (.iload 5, 2) := by decide +kernel
theorem dX5_withBundles_7 : decode cX5_withBundles 7 = .ok (.iconst 4, 1) := by decide +kernel
theorem dX5_withBundles_8 : decode cX5_withBundles 8 = .ok (.if_icmp .ge 60, 3) := by decide +kernel
theorem dX5_withBundles_11 : decode cX5_withBundles 11 = .ok (.aload_n 0, 1) := by decide +kernel
theorem dX5_withBundles_12 : decode cX5_withBundles 12 = .ok (.getfield 33, 3) := by decide +kernel
theorem dX5_withBundles_15 : decode cX5_withBundles 15 = .ok (.iload 5, 2) := by decide +kernel
theorem dX5_withBundles_17 : decode cX5_withBundles 17 = .ok (.invokevirtual 133, 3) := by decide +kernel
theorem dX5_withBundles_20 : decode cX5_withBundles 20 = .ok (.ifCond .eq 42, 3) := by decide +kernel
theorem dX5_withBundles_23 : decode cX5_withBundles 23 = .ok (.lload_n 3, 1) := by decide +kernel
theorem dX5_withBundles_24 : decode cX5_withBundles 24 = .ok (.iload 5, 2) := by decide +kernel
theorem dX5_withBundles_26 : decode cX5_withBundles 26 = .ok (.i2l, 1) := by decide +kernel
theorem dX5_withBundles_27 : decode cX5_withBundles 27 = .ok (.invokestatic 245, 3) := by decide +kernel
theorem dX5_withBundles_30 : decode cX5_withBundles 30 = .ok (.lstore_n 3, 1) := by decide +kernel
theorem dX5_withBundles_31 : decode cX5_withBundles 31 = .ok (.iconst 0, 1) := by decide +kernel
theorem dX5_withBundles_32 : decode cX5_withBundles 32 = .ok (.istore 6, 2) := by decide +kernel
theorem dX5_withBundles_34 : decode cX5_withBundles 34 = .ok (.iload 6, 2) := by decide +kernel
theorem dX5_withBundles_36 : decode cX5_withBundles 36 = .ok (.iconst 3, 1) := by decide +kernel
theorem dX5_withBundles_37 : decode cX5_withBundles 37 = .ok (.if_icmp .ge 25, 3) := by decide +kernel
theorem dX5_withBundles_40 : decode cX5_withBundles 40 = .ok (.lload_n 3, 1) := by decide +kernel
theorem dX5_withBundles_41 : decode cX5_withBundles 41 = .ok (.aload_n 0, 1) := by decide +kernel
theorem dX5_withBundles_42 : decode cX5_withBundles 42 = .ok (.getfield 26, 3) := by decide +kernel
theorem dX5_withBundles_45 : decode cX5_withBundles 45 = .ok (.iload 5, 2) := by decide +kernel
theorem dX5_withBundles_47 : decode cX5_withBundles 47 = .ok (.iload 6, 2) := by decide +kernel
theorem dX5_withBundles_49 : decode cX5_withBundles 49 = .ok (.invokevirtual 147, 3) := by decide +kernel
theorem dX5_withBundles_52 : decode cX5_withBundles 52 = .ok (.invokestatic 245, 3) := by decide +kernel
theorem dX5_withBundles_55 : decode cX5_withBundles 55 = .ok (.lstore_n 3, 1) := by decide +kernel
theorem dX5_withBundles_56 : decode cX5_withBundles 56 = .ok (.iinc 6 1, 3) := by decide +kernel
theorem dX5_withBundles_59 : decode cX5_withBundles 59 = .ok (.goto (-25), 3) := by decide +kernel
theorem dX5_withBundles_62 : decode cX5_withBundles 62 = .ok (.iinc 5 1, 3) := by decide +kernel
theorem dX5_withBundles_65 : decode cX5_withBundles 65 = .ok (.goto (-60), 3) := by decide +kernel
theorem dX5_withBundles_68 : decode cX5_withBundles 68 = .ok (.lload_n 3, 1) := by decide +kernel
theorem dX5_withBundles_69 : decode cX5_withBundles 69 = .ok (.lreturn, 1) := by decide +kernel
set_option maxRecDepth 20000 in
theorem ggX5_withNodes_X2_allNodes : GoodIn wsX5_withNodes wsX2_allNodes := goodIn_r _ [6, 7, 153, 154, 155, 156, 157, 158, 159, 160] (by decide +kernel) (by decide +kernel)
set_option maxRecDepth 20000 in
theorem gX5_withNodes_X2_allNodes : GoodIn wsX5_withNodes (wsV RX5 249 RX2 yX2_allNodes wsX2_allNodes) := goodIn_app (goodIn_of _ (by decide +kernel)) ggX5_withNodes_X2_allNodes
set_option maxRecDepth 20000 in
theorem ggX5_withNodes_X2_nodeCount : GoodIn wsX5_withNodes wsX2_nodeCount := goodIn_r _ [11, 7, 153, 154, 155, 156, 157, 158, 159, 160] (by decide +kernel) (by decide +kernel)
set_option maxRecDepth 20000 in
theorem gX5_withNodes_X2_nodeCount : GoodIn wsX5_withNodes (wsV RX5 186 RX2 yX2_nodeCount wsX2_nodeCount) := goodIn_app (goodIn_of _ (by decide +kernel)) ggX5_withNodes_X2_nodeCount
set_option maxRecDepth 20000 in
theorem ggX5_withNodes_X2_treeLinks : GoodIn wsX5_withNodes wsX2_treeLinks := goodIn_r _ [15, 7, 16, 17, 18, 19, 5, 20, 21, 22, 23, 153, 154, 155, 156, 157, 158, 159, 160] (by decide +kernel) (by decide +kernel)
set_option maxRecDepth 20000 in
theorem gX5_withNodes_X2_treeLinks : GoodIn wsX5_withNodes (wsV RX5 126 RX2 yX2_treeLinks wsX2_treeLinks) := goodIn_app (goodIn_of _ (by decide +kernel)) ggX5_withNodes_X2_treeLinks
set_option maxRecDepth 20000 in
theorem ggX5_withNodes_X5_with : GoodIn wsX5_withNodes wsX5_with := goodIn_r _ [27, 28] (by decide +kernel) (by decide +kernel)
set_option maxRecDepth 20000 in
theorem gX5_withNodes_X5_with : GoodIn wsX5_withNodes (va_wsS RX5 245 yX5_with wsX5_with) := goodIn_app (goodIn_of _ (by decide +kernel)) ggX5_withNodes_X5_with
set_option maxRecDepth 20000 in
theorem ggX5_withNodes_X5_spreadOut : GoodIn wsX5_withNodes wsX5_spreadOut := goodIn_r _ [32, 1, 33, 34, 12, 13, 14, 5, 15, 7, 16, 17, 18, 19, 20, 21, 22, 23, 35, 36, 37, 26, 38, 39, 40, 41, 42, 43, 44, 45, 46, 47, 48, 49, 50, 51, 52, 53, 54, 55, 56, 57, 58, 59, 60, 61, 62, 63, 64, 65, 66, 67, 68, 69, 70, 71, 72, 73, 74, 75, 76, 77, 78, 79, 80, 81, 82, 83, 84, 85, 86, 87, 88, 89, 90, 91, 92, 93, 94, 95, 96, 97, 98, 99, 100, 101, 102, 103, 104, 105, 106, 107, 108, 109, 110, 143, 144, 145, 146, 147, 148, 149, 150, 151, 152, 161, 162, 163, 164, 165, 166, 167, 153, 154, 155, 156, 157, 158, 159, 160, 168, 169, 170, 171, 172, 173] (by decide +kernel) (by decide +kernel)
set_option maxRecDepth 20000 in
theorem gX5_withNodes_X5_spreadOut : GoodIn wsX5_withNodes (wsV RX5 154 RX5 yX5_spreadOut wsX5_spreadOut) := goodIn_app (goodIn_of _ (by decide +kernel)) ggX5_withNodes_X5_spreadOut
set_option maxRecDepth 20000 in
theorem ggX5_withNodes_X5_spreadFact : GoodIn wsX5_withNodes wsX5_spreadFact := goodIn_r _ [114, 33, 34, 115, 116, 117, 118, 119, 40, 120, 121, 122, 123, 52, 124, 125, 126, 127, 128, 129, 130, 131, 132, 133, 134, 135, 136, 137, 138, 143, 144, 145, 146, 147, 148, 149, 150, 151, 152, 161, 162, 163, 164, 165, 166, 167, 169, 170, 171, 172, 173] (by decide +kernel) (by decide +kernel)
set_option maxRecDepth 20000 in
theorem gX5_withNodes_X5_spreadFact : GoodIn wsX5_withNodes (wsV RX5 158 RX5 yX5_spreadFact wsX5_spreadFact) := goodIn_app (goodIn_of _ (by decide +kernel)) ggX5_withNodes_X5_spreadFact
set_option maxRecDepth 20000 in
theorem ggX5_withNodes_X5_bestVariant : GoodIn wsX5_withNodes wsX5_bestVariant := goodIn_r _ [142, 33, 116, 34, 29, 30, 31, 26, 32, 1, 12, 13, 14, 5, 15, 7, 16, 17, 18, 19, 20, 21, 22, 23, 35, 36, 37, 38, 39, 40, 41, 42, 43, 44, 45, 46, 47, 48, 49, 50, 51, 52, 53, 54, 55, 56, 57, 58, 59, 60, 61, 62, 63, 64, 65, 66, 67, 68, 69, 70, 71, 72, 73, 74, 75, 76, 77, 78, 79, 80, 81, 82, 83, 84, 85, 86, 87, 88, 89, 90, 91, 92, 93, 94, 95, 96, 97, 98, 99, 100, 101, 102, 103, 104, 105, 106, 107, 108, 109, 110, 143, 144, 145, 146, 147, 148, 149, 150, 151, 152, 161, 162, 163, 164, 165, 166, 167, 153, 154, 155, 156, 157, 158, 159, 160, 168, 169, 170, 171, 172, 173] (by decide +kernel) (by decide +kernel)
set_option maxRecDepth 20000 in
theorem gX5_withNodes_X5_bestVariant : GoodIn wsX5_withNodes (wsV RX5 161 RX5 yX5_bestVariant wsX5_bestVariant) := goodIn_app (goodIn_of _ (by decide +kernel)) ggX5_withNodes_X5_bestVariant
theorem dX5_withNodes_0 : decode cX5_withNodes 0 = .ok (.lload_n 1, 1) := by decide +kernel
theorem dX5_withNodes_1 : decode cX5_withNodes 1 = .ok (.lstore_n 3, 1) := by decide +kernel
theorem dX5_withNodes_2 : decode cX5_withNodes 2 = .ok (.aload_n 0, 1) := by decide +kernel
theorem dX5_withNodes_3 : decode cX5_withNodes 3 = .ok (.getfield 19, 3) := by decide +kernel
theorem dX5_withNodes_6 : decode cX5_withNodes 6 = .ok (.invokevirtual 249, 3) := by decide +kernel
theorem dX5_withNodes_9 : decode cX5_withNodes 9 = .ok (.istore 5, 2) := by decide +kernel
theorem dX5_withNodes_11 : decode cX5_withNodes 11 = .ok (.iconst 0, 1) := by decide +kernel
theorem dX5_withNodes_12 : decode cX5_withNodes 12 = .ok (.istore 6, 2) := by decide +kernel
theorem dX5_withNodes_14 : decode cX5_withNodes 14 = .ok (.iload 6, 2) := by decide +kernel
theorem dX5_withNodes_16 : decode cX5_withNodes 16 = .ok (.aload_n 0, 1) := by decide +kernel
theorem dX5_withNodes_17 : decode cX5_withNodes 17 = .ok (.getfield 19, 3) := by decide +kernel
theorem dX5_withNodes_20 : decode cX5_withNodes 20 = .ok (.invokevirtual 186, 3) := by decide +kernel
theorem dX5_withNodes_23 : decode cX5_withNodes 23 = .ok (.if_icmp .ge 110, 3) := by decide +kernel
theorem dX5_withNodes_26 : decode cX5_withNodes 26 = .ok (.lload_n 3, 1) := by decide +kernel
theorem dX5_withNodes_27 : decode cX5_withNodes 27 = .ok (.aload_n 0, 1) := by decide +kernel
theorem dX5_withNodes_28 : decode cX5_withNodes 28 = .ok (.getfield 19, 3) := by decide +kernel
theorem dX5_withNodes_31 : decode cX5_withNodes 31 = .ok (.iload 6, 2) := by decide +kernel
theorem dX5_withNodes_33 : decode cX5_withNodes 33 = .ok (.iload 5, 2) := by decide +kernel
theorem dX5_withNodes_35 : decode cX5_withNodes 35 = .ok (.invokevirtual 126, 3) := by decide +kernel
theorem dX5_withNodes_38 : decode cX5_withNodes 38 = .ok (.i2l, 1) := by decide +kernel
theorem dX5_withNodes_39 : decode cX5_withNodes 39 = .ok (.invokestatic 245, 3) := by decide +kernel
theorem dX5_withNodes_42 : decode cX5_withNodes 42 = .ok (.lstore_n 3, 1) := by decide +kernel
theorem dX5_withNodes_43 : decode cX5_withNodes 43 = .ok (.iconst 0, 1) := by decide +kernel
theorem dX5_withNodes_44 : decode cX5_withNodes 44 = .ok (.istore 7, 2) := by decide +kernel
theorem dX5_withNodes_46 : decode cX5_withNodes 46 = .ok (.iload 7, 2) := by decide +kernel
theorem dX5_withNodes_48 : decode cX5_withNodes 48 = .ok (.iconst 3, 1) := by decide +kernel
theorem dX5_withNodes_49 : decode cX5_withNodes 49 = .ok (.if_icmp .ge 48, 3) := by decide +kernel
theorem dX5_withNodes_52 : decode cX5_withNodes 52 = .ok (.aload_n 0, 1) := by decide +kernel
theorem dX5_withNodes_53 : decode cX5_withNodes 53 = .ok (.iload 6, 2) := by decide +kernel
theorem dX5_withNodes_55 : decode cX5_withNodes 55 = .ok (.iload 5, 2) := by decide +kernel
theorem dX5_withNodes_57 : decode cX5_withNodes 57 = .ok (.iload 7, 2) := by decide +kernel
theorem dX5_withNodes_59 : decode cX5_withNodes 59 = .ok (.iconst 0, 1) := by decide +kernel
theorem dX5_withNodes_60 : decode cX5_withNodes 60 = .ok (.invokevirtual 154, 3) := by decide +kernel
theorem dX5_withNodes_63 : decode cX5_withNodes 63 = .ok (.iconst 0, 1) := by decide +kernel
theorem dX5_withNodes_64 : decode cX5_withNodes 64 = .ok (.istore 8, 2) := by decide +kernel
theorem dX5_withNodes_66 : decode cX5_withNodes 66 = .ok (.iload 8, 2) := by decide +kernel
theorem dX5_withNodes_68 : decode cX5_withNodes 68 = .ok (.bipush 9, 2) := by decide +kernel
theorem dX5_withNodes_70 : decode cX5_withNodes 70 = .ok (.if_icmp .ge 21, 3) := by decide +kernel
theorem dX5_withNodes_73 : decode cX5_withNodes 73 = .ok (.lload_n 3, 1) := by decide +kernel
theorem dX5_withNodes_74 : decode cX5_withNodes 74 = .ok (.aload_n 0, 1) := by decide +kernel
theorem dX5_withNodes_75 : decode cX5_withNodes 75 = .ok (.iload 8, 2) := by decide +kernel
theorem dX5_withNodes_77 : decode cX5_withNodes 77 = .ok (.invokevirtual 158, 3) := by decide +kernel
theorem dX5_withNodes_80 : decode cX5_withNodes 80 = .ok (.i2l, 1) := by decide +kernel
theorem dX5_withNodes_81 : decode cX5_withNodes 81 = .ok (.invokestatic 245, 3) := by decide +kernel
theorem dX5_withNodes_84 : decode cX5_withNodes 84 = .ok (.lstore_n 3, 1) := by decide +kernel
theorem dX5_withNodes_85 : decode cX5_withNodes 85 = .ok (.iinc 8 1, 3) := by decide +kernel
theorem dX5_withNodes_88 : decode cX5_withNodes 88 = .ok (.goto (-22), 3) := by decide +kernel
theorem dX5_withNodes_91 : decode cX5_withNodes 91 = .ok (.iinc 7 1, 3) := by decide +kernel
theorem dX5_withNodes_94 : decode cX5_withNodes 94 = .ok (.goto (-48), 3) := by decide +kernel
theorem dX5_withNodes_97 : decode cX5_withNodes 97 = .ok (.lload_n 3, 1) := by decide +kernel
theorem dX5_withNodes_98 : decode cX5_withNodes 98 = .ok (.aload_n 0, 1) := by decide +kernel
theorem dX5_withNodes_99 : decode cX5_withNodes 99 = .ok (.iload 6, 2) := by decide +kernel
theorem dX5_withNodes_101 : decode cX5_withNodes 101 = .ok (.iload 5, 2) := by decide +kernel
theorem dX5_withNodes_103 : decode cX5_withNodes 103 = .ok (.iconst 0, 1) := by decide +kernel
theorem dX5_withNodes_104 : decode cX5_withNodes 104 = .ok (.invokevirtual 161, 3) := by decide +kernel
theorem dX5_withNodes_107 : decode cX5_withNodes 107 = .ok (.i2l, 1) := by decide +kernel
theorem dX5_withNodes_108 : decode cX5_withNodes 108 = .ok (.invokestatic 245, 3) := by decide +kernel
theorem dX5_withNodes_111 : decode cX5_withNodes 111 = .ok (.lstore_n 3, 1) := by decide +kernel
theorem dX5_withNodes_112 : decode cX5_withNodes 112 = .ok (.lload_n 3, 1) := by decide +kernel
theorem dX5_withNodes_113 : decode cX5_withNodes 113 = .ok (.aload_n 0, 1) := by decide +kernel
theorem dX5_withNodes_114 : decode cX5_withNodes 114 = .ok (.iload 6, 2) := by decide +kernel
theorem dX5_withNodes_116 : decode cX5_withNodes 116 = .ok (.iload 5, 2) := by decide +kernel
theorem dX5_withNodes_118 : decode cX5_withNodes 118 = .ok (.iconst 1, 1) := by decide +kernel
theorem dX5_withNodes_119 : decode cX5_withNodes 119 = .ok (.invokevirtual 161, 3) := by decide +kernel
theorem dX5_withNodes_122 : decode cX5_withNodes 122 = .ok (.i2l, 1) := by decide +kernel
theorem dX5_withNodes_123 : decode cX5_withNodes 123 = .ok (.invokestatic 245, 3) := by decide +kernel
theorem dX5_withNodes_126 : decode cX5_withNodes 126 = .ok (.lstore_n 3, 1) := by decide +kernel
theorem dX5_withNodes_127 : decode cX5_withNodes 127 = .ok (.iinc 6 1, 3) := by decide +kernel
theorem dX5_withNodes_130 : decode cX5_withNodes 130 = .ok (.goto (-116), 3) := by decide +kernel
theorem dX5_withNodes_133 : decode cX5_withNodes 133 = .ok (.lload_n 3, 1) := by decide +kernel
theorem dX5_withNodes_134 : decode cX5_withNodes 134 = .ok (.lreturn, 1) := by decide +kernel
set_option maxRecDepth 20000 in
theorem ggX5_withPage_X4_size : GoodIn wsX5_withPage wsX4_size := goodIn_r _ [6, 7, 28, 29] (by decide +kernel) (by decide +kernel)
