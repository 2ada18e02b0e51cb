theorem inlX0 : ∀ w ∈ wsX00, w ∈ wsL_law := fun _ h => List.mem_append_left _ (List.mem_append_left _ (List.mem_append_right _ h))
theorem inX0 : ∀ w ∈ wsX00, w ∈ lw_tbl := fun w h => wsL_law_in w (inlX0 w h)
theorem inlX1 : ∀ w ∈ wsX10, w ∈ wsL_law := fun _ h => List.mem_append_left _ (List.mem_append_right _ h)
theorem inX1 : ∀ w ∈ wsX10, w ∈ lw_tbl := fun w h => wsL_law_in w (inlX1 w h)
theorem inlX2 : ∀ w ∈ wsX20, w ∈ wsL_law := fun _ h => List.mem_append_left _ (List.mem_append_left _ (List.mem_append_left _ (List.mem_append_left _ (List.mem_append_right _ h))))
theorem inX2 : ∀ w ∈ wsX20, w ∈ lw_tbl := fun w h => wsL_law_in w (inlX2 w h)
theorem inlX3 : ∀ w ∈ wsX30, w ∈ wsL_law := fun _ h => List.mem_append_left _ (List.mem_append_left _ (List.mem_append_left _ (List.mem_append_right _ h)))
theorem inX3 : ∀ w ∈ wsX30, w ∈ lw_tbl := fun w h => wsL_law_in w (inlX3 w h)
theorem inlX4 : ∀ w ∈ wsX40, w ∈ wsL_law := fun _ h => List.mem_append_left _ (List.mem_append_left _ (List.mem_append_left _ (List.mem_append_left _ (List.mem_append_left _ (List.mem_append_right _ h)))))
theorem inX4 : ∀ w ∈ wsX40, w ∈ lw_tbl := fun w h => wsL_law_in w (inlX4 w h)
theorem inlX5 : ∀ w ∈ wsX50, w ∈ wsL_law := fun _ h => List.mem_append_left _ (List.mem_append_left _ (List.mem_append_left _ (List.mem_append_left _ (List.mem_append_left _ (List.mem_append_left _ (List.mem_append_left _ (List.mem_append_right _ h)))))))
theorem inX5 : ∀ w ∈ wsX50, w ∈ lw_tbl := fun w h => wsL_law_in w (inlX5 w h)
theorem inlX6 : ∀ w ∈ wsX60, w ∈ wsL_law := fun _ h => List.mem_append_left _ (List.mem_append_left _ (List.mem_append_left _ (List.mem_append_left _ (List.mem_append_left _ (List.mem_append_left _ (List.mem_append_right _ h))))))
theorem inX6 : ∀ w ∈ wsX60, w ∈ lw_tbl := fun w h => wsL_law_in w (inlX6 w h)
theorem inJ6 : ∀ w ∈ wsJ60, w ∈ lw_tbl := by decide +kernel
theorem inJ13 : ∀ w ∈ wsJ130, w ∈ lw_tbl := by decide +kernel
theorem inJ9 : ∀ w ∈ wsJ90, w ∈ lw_tbl := by decide +kernel
theorem dX0_init_0 : decode cX0_init 0 = .ok (.aload_n 0, 1) := by decide +kernel
theorem dX0_init_1 : decode cX0_init 1 = .ok (.invokespecial 3, 3) := by decide +kernel
theorem dX0_init_4 : decode cX0_init 4 = .ok (.aload_n 0, 1) := by decide +kernel
theorem dX0_init_5 : decode cX0_init 5 = .ok (.iconst 4, 1) := by decide +kernel
theorem dX0_init_6 : decode cX0_init 6 = .ok (.newarray .int, 2) := by decide +kernel
theorem dX0_init_8 : decode cX0_init 8 = .ok (.putfield 9, 3) := by decide +kernel
theorem dX0_init_11 : decode cX0_init 11 = .ok (.return_, 1) := by decide +kernel
set_option maxRecDepth 20000 in
theorem ggX0_linksAt_X5_isPlace : GoodIn wsX0_linksAt wsX5_isPlace := goodIn_r _ [4] (by decide +kernel) (by decide +kernel)
set_option maxRecDepth 20000 in
theorem gX0_linksAt_X5_isPlace_n15 : GoodIn wsX0_linksAt (wsX5_isPlace) := ggX0_linksAt_X5_isPlace
theorem dX0_linksAt_0 : decode cX0_linksAt 0 = .ok (.iload_n 1, 1) := by decide +kernel
theorem dX0_linksAt_1 : decode cX0_linksAt 1 = .ok (.invokestatic 15, 3) := by decide +kernel
theorem dX0_linksAt_4 : decode cX0_linksAt 4 = .ok (.ifCond .eq 12, 3) := by decide +kernel
theorem dX0_linksAt_7 : decode cX0_linksAt 7 = .ok (.aload_n 0, 1) := by decide +kernel
theorem dX0_linksAt_8 : decode cX0_linksAt 8 = .ok (.getfield 9, 3) := by decide +kernel
theorem dX0_linksAt_11 : decode cX0_linksAt 11 = .ok (.iload_n 1, 1) := by decide +kernel
theorem dX0_linksAt_12 : decode cX0_linksAt 12 = .ok (.iaload, 1) := by decide +kernel
theorem dX0_linksAt_13 : decode cX0_linksAt 13 = .ok (.goto 4, 3) := by decide +kernel
theorem dX0_linksAt_16 : decode cX0_linksAt 16 = .ok (.iconst 0, 1) := by decide +kernel
theorem dX0_linksAt_17 : decode cX0_linksAt 17 = .ok (.ireturn, 1) := by decide +kernel
set_option maxRecDepth 20000 in
theorem ggX0_isThere_X0_linksAt : GoodIn wsX0_isThere wsX0_linksAt := goodIn_r _ [5, 6, 7, 8, 9, 10] (by decide +kernel) (by decide +kernel)
set_option maxRecDepth 20000 in
theorem gX0_isThere_X0_linksAt : GoodIn wsX0_isThere (wsV RX0 19 RX0 yX0_linksAt wsX0_linksAt) := goodIn_app (goodIn_of _ (by decide +kernel)) ggX0_isThere_X0_linksAt
theorem dX0_isThere_0 : decode cX0_isThere 0 = .ok (.aload_n 0, 1) := by decide +kernel
theorem dX0_isThere_1 : decode cX0_isThere 1 = .ok (.iload_n 1, 1) := by decide +kernel
theorem dX0_isThere_2 : decode cX0_isThere 2 = .ok (.invokevirtual 19, 3) := by decide +kernel
theorem dX0_isThere_5 : decode cX0_isThere 5 = .ok (.ifCond .eq 7, 3) := by decide +kernel
theorem dX0_isThere_8 : decode cX0_isThere 8 = .ok (.iconst 1, 1) := by decide +kernel
theorem dX0_isThere_9 : decode cX0_isThere 9 = .ok (.goto 4, 3) := by decide +kernel
theorem dX0_isThere_12 : decode cX0_isThere 12 = .ok (.iconst 0, 1) := by decide +kernel
theorem dX0_isThere_13 : decode cX0_isThere 13 = .ok (.ireturn, 1) := by decide +kernel
set_option maxRecDepth 20000 in
theorem ggX0_put_X5_isPlace : GoodIn wsX0_put wsX5_isPlace := goodIn_r _ [4] (by decide +kernel) (by decide +kernel)
set_option maxRecDepth 20000 in
theorem gX0_put_X5_isPlace_n15 : GoodIn wsX0_put (wsX5_isPlace) := ggX0_put_X5_isPlace
theorem dX0_put_0 : decode cX0_put 0 = .ok (.iload_n 1, 1) := by decide +kernel
theorem dX0_put_1 : decode cX0_put 1 = .ok (.invokestatic 15, 3) := by decide +kernel
theorem dX0_put_4 : decode cX0_put 4 = .ok (.ifCond .eq 10, 3) := by decide +kernel
theorem dX0_put_7 : decode cX0_put 7 = .ok (.aload_n 0, 1) := by decide +kernel
theorem dX0_put_8 : decode cX0_put 8 = .ok (.getfield 9, 3) := by decide +kernel
theorem dX0_put_11 : decode cX0_put 11 = .ok (.iload_n 1, 1) := by decide +kernel
theorem dX0_put_12 : decode cX0_put 12 = .ok (.iload_n 2, 1) := by decide +kernel
theorem dX0_put_13 : decode cX0_put 13 = .ok (.iastore, 1) := by decide +kernel
theorem dX0_put_14 : decode cX0_put 14 = .ok (.return_, 1) := by decide +kernel
theorem dX0_clear_0 : decode cX0_clear 0 = .ok (.iconst 0, 1) := by decide +kernel
theorem dX0_clear_1 : decode cX0_clear 1 = .ok (.istore_n 1, 1) := by decide +kernel
theorem dX0_clear_2 : decode cX0_clear 2 = .ok (.iload_n 1, 1) := by decide +kernel
theorem dX0_clear_3 : decode cX0_clear 3 = .ok (.iconst 4, 1) := by decide +kernel
theorem dX0_clear_4 : decode cX0_clear 4 = .ok (.if_icmp .ge 16, 3) := by decide +kernel
theorem dX0_clear_7 : decode cX0_clear 7 = .ok (.aload_n 0, 1) := by decide +kernel
theorem dX0_clear_8 : decode cX0_clear 8 = .ok (.getfield 9, 3) := by decide +kernel
theorem dX0_clear_11 : decode cX0_clear 11 = .ok (.iload_n 1, 1) := by decide +kernel
theorem dX0_clear_12 : decode cX0_clear 12 = .ok (.iconst 0, 1) := by decide +kernel
theorem dX0_clear_13 : decode cX0_clear 13 = .ok (.iastore, 1) := by decide +kernel
theorem dX0_clear_14 : decode cX0_clear 14 = .ok (.iinc 1 1, 3) := by decide +kernel
theorem dX0_clear_17 : decode cX0_clear 17 = .ok (.goto (-15), 3) := by decide +kernel
theorem dX0_clear_20 : decode cX0_clear 20 = .ok (.return_, 1) := by decide +kernel
set_option maxRecDepth 20000 in
theorem ggX0_howMany_X0_isThere : GoodIn wsX0_howMany wsX0_isThere := goodIn_r _ [5, 6, 7, 8, 4, 9, 10, 11, 12, 13, 14] (by decide +kernel) (by decide +kernel)
set_option maxRecDepth 20000 in
theorem gX0_howMany_X0_isThere : GoodIn wsX0_howMany (wsV RX0 23 RX0 yX0_isThere wsX0_isThere) := goodIn_app (goodIn_of _ (by decide +kernel)) ggX0_howMany_X0_isThere
theorem dX0_howMany_0 : decode cX0_howMany 0 = .ok (.iconst 0, 1) := by decide +kernel
theorem dX0_howMany_1 : decode cX0_howMany 1 = .ok (.istore_n 1, 1) := by decide +kernel
theorem dX0_howMany_2 : decode cX0_howMany 2 = .ok (.iconst 0, 1) := by decide +kernel
theorem dX0_howMany_3 : decode cX0_howMany 3 = .ok (.istore_n 2, 1) := by decide +kernel
theorem dX0_howMany_4 : decode cX0_howMany 4 = .ok (.iload_n 2, 1) := by decide +kernel
theorem dX0_howMany_5 : decode cX0_howMany 5 = .ok (.iconst 4, 1) := by decide +kernel
theorem dX0_howMany_6 : decode cX0_howMany 6 = .ok (.if_icmp .ge 20, 3) := by decide +kernel
theorem dX0_howMany_9 : decode cX0_howMany 9 = .ok (.aload_n 0, 1) := by decide +kernel
theorem dX0_howMany_10 : decode cX0_howMany 10 = .ok (.iload_n 2, 1) := by decide +kernel
theorem dX0_howMany_11 : decode cX0_howMany 11 = .ok (.invokevirtual 23, 3) := by decide +kernel
theorem dX0_howMany_14 : decode cX0_howMany 14 = .ok (.ifCond .eq 6, 3) := by decide +kernel
theorem dX0_howMany_17 : decode cX0_howMany 17 = .ok (.iinc 1 1, 3) := by decide +kernel
theorem dX0_howMany_20 : decode cX0_howMany 20 = .ok (.iinc 2 1, 3) := by decide +kernel
theorem dX0_howMany_23 : decode cX0_howMany 23 = .ok (.goto (-19), 3) := by decide +kernel
theorem dX0_howMany_26 : decode cX0_howMany 26 = .ok (.iload_n 1, 1) := by decide +kernel
theorem dX0_howMany_27 : decode cX0_howMany 27 = .ok (.ireturn, 1) := by decide +kernel
theorem dX0_placesWith_0 : decode cX0_placesWith 0 = .ok (.iconst 0, 1) := by decide +kernel
theorem dX0_placesWith_1 : decode cX0_placesWith 1 = .ok (.istore_n 2, 1) := by decide +kernel
theorem dX0_placesWith_2 : decode cX0_placesWith 2 = .ok (.iconst 0, 1) := by decide +kernel
theorem dX0_placesWith_3 : decode cX0_placesWith 3 = .ok (.istore_n 3, 1) := by decide +kernel
theorem dX0_placesWith_4 : decode cX0_placesWith 4 = .ok (.iload_n 3, 1) := by decide +kernel
theorem dX0_placesWith_5 : decode cX0_placesWith 5 = .ok (.iconst 4, 1) := by decide +kernel
theorem dX0_placesWith_6 : decode cX0_placesWith 6 = .ok (.if_icmp .ge 24, 3) := by decide +kernel
theorem dX0_placesWith_9 : decode cX0_placesWith 9 = .ok (.iload_n 2, 1) := by decide +kernel
theorem dX0_placesWith_10 : decode cX0_placesWith 10 = .ok (.aload_n 0, 1) := by decide +kernel
theorem dX0_placesWith_11 : decode cX0_placesWith 11 = .ok (.getfield 9, 3) := by decide +kernel
theorem dX0_placesWith_14 : decode cX0_placesWith 14 = .ok (.iload_n 3, 1) := by decide +kernel
theorem dX0_placesWith_15 : decode cX0_placesWith 15 = .ok (.iaload, 1) := by decide +kernel
theorem dX0_placesWith_16 : decode cX0_placesWith 16 = .ok (.iload_n 1, 1) := by decide +kernel
theorem dX0_placesWith_17 : decode cX0_placesWith 17 = .ok (.ishr, 1) := by decide +kernel
theorem dX0_placesWith_18 : decode cX0_placesWith 18 = .ok (.iconst 1, 1) := by decide +kernel
theorem dX0_placesWith_19 : decode cX0_placesWith 19 = .ok (.iand, 1) := by decide +kernel
theorem dX0_placesWith_20 : decode cX0_placesWith 20 = .ok (.iload_n 3, 1) := by decide +kernel
theorem dX0_placesWith_21 : decode cX0_placesWith 21 = .ok (.ishl, 1) := by decide +kernel
theorem dX0_placesWith_22 : decode cX0_placesWith 22 = .ok (.ior, 1) := by decide +kernel
theorem dX0_placesWith_23 : decode cX0_placesWith 23 = .ok (.istore_n 2, 1) := by decide +kernel
theorem dX0_placesWith_24 : decode cX0_placesWith 24 = .ok (.iinc 3 1, 3) := by decide +kernel
theorem dX0_placesWith_27 : decode cX0_placesWith 27 = .ok (.goto (-23), 3) := by decide +kernel
theorem dX0_placesWith_30 : decode cX0_placesWith 30 = .ok (.iload_n 2, 1) := by decide +kernel
theorem dX0_placesWith_31 : decode cX0_placesWith 31 = .ok (.ireturn, 1) := by decide +kernel
theorem dX1_init_0 : decode cX1_init 0 = .ok (.aload_n 0, 1) := by decide +kernel
theorem dX1_init_1 : decode cX1_init 1 = .ok (.invokespecial 3, 3) := by decide +kernel
theorem dX1_init_4 : decode cX1_init 4 = .ok (.return_, 1) := by decide +kernel
set_option maxRecDepth 20000 in
theorem ggX1_run_J6_bitCount_0f7a4 : GoodIn wsX1_run wsJ6_bitCount_0f7a4 := goodIn_r _ [10, 11, 12, 13] (by decide +kernel) (by decide +kernel)
set_option maxRecDepth 20000 in
theorem gX1_run_J6_bitCount_0f7a4 : GoodIn wsX1_run (va_wsS RX1 27 yJ6_bitCount_0f7a4 wsJ6_bitCount_0f7a4) := goodIn_app (goodIn_of _ (by decide +kernel)) ggX1_run_J6_bitCount_0f7a4
set_option maxRecDepth 20000 in
theorem ggX1_run_X1_sendOn : GoodIn wsX1_run wsX1_sendOn := goodIn_r _ [18, 5, 1, 2, 3, 19, 20, 21, 22, 23, 24, 25, 26, 27, 28, 29, 30, 31, 32, 33, 34, 35, 36, 37, 38, 39, 40, 41, 42, 43, 44, 45, 46, 47, 48, 49] (by decide +kernel) (by decide +kernel)
set_option maxRecDepth 20000 in
theorem gX1_run_X1_sendOn : GoodIn wsX1_run (wsV RX1 36 RX1 yX1_sendOn wsX1_sendOn) := goodIn_app (goodIn_of _ (by decide +kernel)) ggX1_run_X1_sendOn
theorem dX1_run_0 : decode cX1_run 0 = .ok (.aload_n 0, 1) := by decide +kernel
theorem dX1_run_1 : decode cX1_run 1 = .ok (.iconst 0, 1) := by decide +kernel
theorem dX1_run_2 : decode cX1_run 2 = .ok (.putfield 9, 3) := by decide +kernel
theorem dX1_run_5 : decode cX1_run 5 = .ok (.aload_n 0, 1) := by decide +kernel
theorem dX1_run_6 : decode cX1_run 6 = .ok (.iconst 0, 1) := by decide +kernel
theorem dX1_run_7 : decode cX1_run 7 = .ok (.putfield 15, 3) := by decide +kernel
theorem dX1_run_10 : decode cX1_run 10 = .ok (.aload_n 0, 1) := by decide +kernel
theorem dX1_run_11 : decode cX1_run 11 = .ok (.iconst 0, 1) := by decide +kernel
theorem dX1_run_12 : decode cX1_run 12 = .ok (.putfield 18, 3) := by decide +kernel
theorem dX1_run_15 : decode cX1_run 15 = .ok (.aload_n 0, 1) := by decide +kernel
theorem dX1_run_16 : decode cX1_run 16 = .ok (.iconst 0, 1) := by decide +kernel
theorem dX1_run_17 : decode cX1_run 17 = .ok (.putfield 21, 3) := by decide +kernel
theorem dX1_run_20 : decode cX1_run 20 = .ok (.aload_n 0, 1) := by decide +kernel
theorem dX1_run_21 : decode cX1_run 21 = .ok (.iconst 1, 1) := by decide +kernel
theorem dX1_run_22 : decode cX1_run 22 = .ok (.iload_n 2, 1) := by decide +kernel
theorem dX1_run_23 : decode cX1_run 23 = .ok (.ishl, 1) := by decide +kernel
theorem dX1_run_24 : decode cX1_run 24 = .ok (.putfield 24, 3) := by decide +kernel
theorem dX1_run_27 : decode cX1_run 27 = .ok (.aload_n 0, 1) := by decide +kernel
theorem dX1_run_28 : decode cX1_run 28 = .ok (.iload 4, 2) := by decide +kernel
theorem dX1_run_30 : decode cX1_run 30 = .ok (.iload_n 3, 1) := by decide +kernel
theorem dX1_run_31 : decode cX1_run 31 = .ok (.iconst (-1), 1) := by decide +kernel
theorem dX1_run_32 : decode cX1_run 32 = .ok (.ixor, 1) := by decide +kernel
theorem dX1_run_33 : decode cX1_run 33 = .ok (.iand, 1) := by decide +kernel
theorem dX1_run_34 : decode cX1_run 34 = .ok (.invokestatic 27, 3) := by decide +kernel
theorem dX1_run_37 : decode cX1_run 37 = .ok (.putfield 33, 3) := by decide +kernel
theorem dX1_run_40 : decode cX1_run 40 = .ok (.aload_n 0, 1) := by decide +kernel
theorem dX1_run_41 : decode cX1_run 41 = .ok (.getfield 24, 3) := by decide +kernel
theorem dX1_run_44 : decode cX1_run 44 = .ok (.istore 5, 2) := by decide +kernel
theorem dX1_run_46 : decode cX1_run 46 = .ok (.iconst 0, 1) := by decide +kernel
theorem dX1_run_47 : decode cX1_run 47 = .ok (.istore 6, 2) := by decide +kernel
theorem dX1_run_49 : decode cX1_run 49 = .ok (.iload 6, 2) := by decide +kernel
theorem dX1_run_51 : decode cX1_run 51 = .ok (.bipush 6, 2) := by decide +kernel
theorem dX1_run_53 : decode cX1_run 53 = .ok (.if_icmp .ge 36, 3) := by decide +kernel
theorem dX1_run_56 : decode cX1_run 56 = .ok (.iload 5, 2) := by decide +kernel
theorem dX1_run_58 : decode cX1_run 58 = .ok (.ifCond .eq 31, 3) := by decide +kernel
theorem dX1_run_61 : decode cX1_run 61 = .ok (.aload_n 0, 1) := by decide +kernel
theorem dX1_run_62 : decode cX1_run 62 = .ok (.aload_n 1, 1) := by decide +kernel
theorem dX1_run_63 : decode cX1_run 63 = .ok (.iload 5, 2) := by decide +kernel
theorem dX1_run_65 : decode cX1_run 65 = .ok (.iload_n 3, 1) := by decide +kernel
theorem dX1_run_66 : decode cX1_run 66 = .ok (.iload 4, 2) := by decide +kernel
theorem dX1_run_68 : decode cX1_run 68 = .ok (.invokevirtual 36, 3) := by decide +kernel
theorem dX1_run_71 : decode cX1_run 71 = .ok (.istore 5, 2) := by decide +kernel
theorem dX1_run_73 : decode cX1_run 73 = .ok (.aload_n 0, 1) := by decide +kernel
theorem dX1_run_74 : decode cX1_run 74 = .ok (.dup, 1) := by decide +kernel
theorem dX1_run_75 : decode cX1_run 75 = .ok (.getfield 21, 3) := by decide +kernel
theorem dX1_run_78 : decode cX1_run 78 = .ok (.iconst 1, 1) := by decide +kernel
theorem dX1_run_79 : decode cX1_run 79 = .ok (.iadd, 1) := by decide +kernel
theorem dX1_run_80 : decode cX1_run 80 = .ok (.putfield 21, 3) := by decide +kernel
theorem dX1_run_83 : decode cX1_run 83 = .ok (.iinc 6 1, 3) := by decide +kernel
theorem dX1_run_86 : decode cX1_run 86 = .ok (.goto (-37), 3) := by decide +kernel
theorem dX1_run_89 : decode cX1_run 89 = .ok (.return_, 1) := by decide +kernel
set_option maxRecDepth 20000 in
theorem ggX1_sendOn_X2_linkCount : GoodIn wsX1_sendOn wsX2_linkCount := goodIn_r _ [9, 10, 28, 29, 30, 31, 32, 33, 34, 35] (by decide +kernel) (by decide +kernel)
set_option maxRecDepth 20000 in
theorem gX1_sendOn_X2_linkCount : GoodIn wsX1_sendOn (wsV RX1 40 RX2 yX2_linkCount wsX2_linkCount) := goodIn_app (goodIn_of _ (by decide +kernel)) ggX1_sendOn_X2_linkCount
set_option maxRecDepth 20000 in
theorem ggX1_sendOn_X2_startOf : GoodIn wsX1_sendOn wsX2_startOf := goodIn_r _ [14, 15, 28, 29, 30, 31, 32, 33, 34, 35] (by decide +kernel) (by decide +kernel)
set_option maxRecDepth 20000 in
theorem gX1_sendOn_X2_startOf : GoodIn wsX1_sendOn (wsV RX1 46 RX2 yX2_startOf wsX2_startOf) := goodIn_app (goodIn_of _ (by decide +kernel)) ggX1_sendOn_X2_startOf
set_option maxRecDepth 20000 in
theorem ggX1_sendOn_X2_endOf : GoodIn wsX1_sendOn wsX2_endOf := goodIn_r _ [19, 20, 28, 29, 30, 31, 32, 33, 34, 35] (by decide +kernel) (by decide +kernel)
set_option maxRecDepth 20000 in
theorem gX1_sendOn_X2_endOf : GoodIn wsX1_sendOn (wsV RX1 49 RX2 yX2_endOf wsX2_endOf) := goodIn_app (goodIn_of _ (by decide +kernel)) ggX1_sendOn_X2_endOf
theorem dX1_sendOn_0 : decode cX1_sendOn 0 = .ok (.aload_n 0, 1) := by decide +kernel
theorem dX1_sendOn_1 : decode cX1_sendOn 1 = .ok (.getfield 24, 3) := by decide +kernel
theorem dX1_sendOn_4 : decode cX1_sendOn 4 = .ok (.istore 5, 2) := by decide +kernel
theorem dX1_sendOn_6 : decode cX1_sendOn 6 = .ok (.iconst 0, 1) := by decide +kernel
theorem dX1_sendOn_7 : decode cX1_sendOn 7 = .ok (.istore 6, 2) := by decide +kernel
theorem dX1_sendOn_9 : decode cX1_sendOn 9 = .ok (.iload 6, 2) := by decide +kernel
theorem dX1_sendOn_11 : decode cX1_sendOn 11 = .ok (.aload_n 1, 1) := by decide +kernel
theorem dX1_sendOn_12 : decode cX1_sendOn 12 = .ok (.invokevirtual 40, 3) := by decide +kernel
theorem dX1_sendOn_15 : decode cX1_sendOn 15 = .ok (.if_icmp .ge 116, 3) := by decide +kernel
theorem dX1_sendOn_18 : decode cX1_sendOn 18 = .ok (.iload 4, 2) := by decide +kernel
theorem dX1_sendOn_20 : decode cX1_sendOn 20 = .ok (.iload 6, 2) := by decide +kernel
theorem dX1_sendOn_22 : decode cX1_sendOn 22 = .ok (.ishr, 1) := by decide +kernel
theorem dX1_sendOn_23 : decode cX1_sendOn 23 = .ok (.iconst 1, 1) := by decide +kernel
theorem dX1_sendOn_24 : decode cX1_sendOn 24 = .ok (.iand, 1) := by decide +kernel
theorem dX1_sendOn_25 : decode cX1_sendOn 25 = .ok (.ifCond .eq 20, 3) := by decide +kernel
theorem dX1_sendOn_28 : decode cX1_sendOn 28 = .ok (.iload_n 2, 1) := by decide +kernel
theorem dX1_sendOn_29 : decode cX1_sendOn 29 = .ok (.aload_n 1, 1) := by decide +kernel
theorem dX1_sendOn_30 : decode cX1_sendOn 30 = .ok (.iload 6, 2) := by decide +kernel
theorem dX1_sendOn_32 : decode cX1_sendOn 32 = .ok (.invokevirtual 46, 3) := by decide +kernel
theorem dX1_sendOn_35 : decode cX1_sendOn 35 = .ok (.ishr, 1) := by decide +kernel
theorem dX1_sendOn_36 : decode cX1_sendOn 36 = .ok (.iconst 1, 1) := by decide +kernel
theorem dX1_sendOn_37 : decode cX1_sendOn 37 = .ok (.iand, 1) := by decide +kernel
theorem dX1_sendOn_38 : decode cX1_sendOn 38 = .ok (.ifCond .eq 7, 3) := by decide +kernel
theorem dX1_sendOn_41 : decode cX1_sendOn 41 = .ok (.iconst 1, 1) := by decide +kernel
theorem dX1_sendOn_42 : decode cX1_sendOn 42 = .ok (.goto 4, 3) := by decide +kernel
theorem dX1_sendOn_45 : decode cX1_sendOn 45 = .ok (.iconst 0, 1) := by decide +kernel
theorem dX1_sendOn_46 : decode cX1_sendOn 46 = .ok (.istore 7, 2) := by decide +kernel
theorem dX1_sendOn_48 : decode cX1_sendOn 48 = .ok (.iload 7, 2) := by decide +kernel
theorem dX1_sendOn_50 : decode cX1_sendOn 50 = .ok (.ifCond .eq 75, 3) := by decide +kernel
theorem dX1_sendOn_53 : decode cX1_sendOn 53 = .ok (.aload_n 0, 1) := by decide +kernel
theorem dX1_sendOn_54 : decode cX1_sendOn 54 = .ok (.dup, 1) := by decide +kernel
theorem dX1_sendOn_55 : decode cX1_sendOn 55 = .ok (.getfield 9, 3) := by decide +kernel
theorem dX1_sendOn_58 : decode cX1_sendOn 58 = .ok (.iconst 1, 1) := by decide +kernel
theorem dX1_sendOn_59 : decode cX1_sendOn 59 = .ok (.iadd, 1) := by decide +kernel
theorem dX1_sendOn_60 : decode cX1_sendOn 60 = .ok (.putfield 9, 3) := by decide +kernel
theorem dX1_sendOn_63 : decode cX1_sendOn 63 = .ok (.aload_n 0, 1) := by decide +kernel
theorem dX1_sendOn_64 : decode cX1_sendOn 64 = .ok (.dup, 1) := by decide +kernel
theorem dX1_sendOn_65 : decode cX1_sendOn 65 = .ok (.getfield 15, 3) := by decide +kernel
theorem dX1_sendOn_68 : decode cX1_sendOn 68 = .ok (.iconst 1, 1) := by decide +kernel
theorem dX1_sendOn_69 : decode cX1_sendOn 69 = .ok (.iload_n 3, 1) := by decide +kernel
theorem dX1_sendOn_70 : decode cX1_sendOn 70 = .ok (.iload 6, 2) := by decide +kernel
theorem dX1_sendOn_72 : decode cX1_sendOn 72 = .ok (.ishr, 1) := by decide +kernel
theorem dX1_sendOn_73 : decode cX1_sendOn 73 = .ok (.iconst 1, 1) := by decide +kernel
theorem dX1_sendOn_74 : decode cX1_sendOn 74 = .ok (.iand, 1) := by decide +kernel
theorem dX1_sendOn_75 : decode cX1_sendOn 75 = .ok (.isub, 1) := by decide +kernel
theorem dX1_sendOn_76 : decode cX1_sendOn 76 = .ok (.iadd, 1) := by decide +kernel
theorem dX1_sendOn_77 : decode cX1_sendOn 77 = .ok (.putfield 15, 3) := by decide +kernel
theorem dX1_sendOn_80 : decode cX1_sendOn 80 = .ok (.iconst 1, 1) := by decide +kernel
theorem dX1_sendOn_81 : decode cX1_sendOn 81 = .ok (.aload_n 1, 1) := by decide +kernel
theorem dX1_sendOn_82 : decode cX1_sendOn 82 = .ok (.iload 6, 2) := by decide +kernel
theorem dX1_sendOn_84 : decode cX1_sendOn 84 = .ok (.invokevirtual 49, 3) := by decide +kernel
theorem dX1_sendOn_87 : decode cX1_sendOn 87 = .ok (.ishl, 1) := by decide +kernel
theorem dX1_sendOn_88 : decode cX1_sendOn 88 = .ok (.istore 8, 2) := by decide +kernel
theorem dX1_sendOn_90 : decode cX1_sendOn 90 = .ok (.aload_n 0, 1) := by decide +kernel
theorem dX1_sendOn_91 : decode cX1_sendOn 91 = .ok (.dup, 1) := by decide +kernel
theorem dX1_sendOn_92 : decode cX1_sendOn 92 = .ok (.getfield 18, 3) := by decide +kernel
theorem dX1_sendOn_95 : decode cX1_sendOn 95 = .ok (.aload_n 0, 1) := by decide +kernel
theorem dX1_sendOn_96 : decode cX1_sendOn 96 = .ok (.getfield 24, 3) := by decide +kernel
theorem dX1_sendOn_99 : decode cX1_sendOn 99 = .ok (.iload 8, 2) := by decide +kernel
theorem dX1_sendOn_101 : decode cX1_sendOn 101 = .ok (.iand, 1) := by decide +kernel
theorem dX1_sendOn_102 : decode cX1_sendOn 102 = .ok (.ifCond .eq 7, 3) := by decide +kernel
theorem dX1_sendOn_105 : decode cX1_sendOn 105 = .ok (.iconst 1, 1) := by decide +kernel
theorem dX1_sendOn_106 : decode cX1_sendOn 106 = .ok (.goto 4, 3) := by decide +kernel
theorem dX1_sendOn_109 : decode cX1_sendOn 109 = .ok (.iconst 0, 1) := by decide +kernel
theorem dX1_sendOn_110 : decode cX1_sendOn 110 = .ok (.iadd, 1) := by decide +kernel
theorem dX1_sendOn_111 : decode cX1_sendOn 111 = .ok (.putfield 18, 3) := by decide +kernel
theorem dX1_sendOn_114 : decode cX1_sendOn 114 = .ok (.aload_n 0, 1) := by decide +kernel
theorem dX1_sendOn_115 : decode cX1_sendOn 115 = .ok (.dup, 1) := by decide +kernel
theorem dX1_sendOn_116 : decode cX1_sendOn 116 = .ok (.getfield 24, 3) := by decide +kernel
theorem dX1_sendOn_119 : decode cX1_sendOn 119 = .ok (.iload 8, 2) := by decide +kernel
theorem dX1_sendOn_121 : decode cX1_sendOn 121 = .ok (.ior, 1) := by decide +kernel
theorem dX1_sendOn_122 : decode cX1_sendOn 122 = .ok (.putfield 24, 3) := by decide +kernel
theorem dX1_sendOn_125 : decode cX1_sendOn 125 = .ok (.iinc 6 1, 3) := by decide +kernel
theorem dX1_sendOn_128 : decode cX1_sendOn 128 = .ok (.goto (-119), 3) := by decide +kernel
theorem dX1_sendOn_131 : decode cX1_sendOn 131 = .ok (.aload_n 0, 1) := by decide +kernel
theorem dX1_sendOn_132 : decode cX1_sendOn 132 = .ok (.getfield 24, 3) := by decide +kernel
theorem dX1_sendOn_135 : decode cX1_sendOn 135 = .ok (.iload 5, 2) := by decide +kernel
theorem dX1_sendOn_137 : decode cX1_sendOn 137 = .ok (.iconst (-1), 1) := by decide +kernel
theorem dX1_sendOn_138 : decode cX1_sendOn 138 = .ok (.ixor, 1) := by decide +kernel
theorem dX1_sendOn_139 : decode cX1_sendOn 139 = .ok (.iand, 1) := by decide +kernel
theorem dX1_sendOn_140 : decode cX1_sendOn 140 = .ok (.ireturn, 1) := by decide +kernel
theorem dX2_init_0 : decode cX2_init 0 = .ok (.aload_n 0, 1) := by decide +kernel
theorem dX2_init_1 : decode cX2_init 1 = .ok (.invokespecial 3, 3) := by decide +kernel
theorem dX2_init_4 : decode cX2_init 4 = .ok (.aload_n 0, 1) := by decide +kernel
theorem dX2_init_5 : decode cX2_init 5 = .ok (.bipush 16, 2) := by decide +kernel
theorem dX2_init_7 : decode cX2_init 7 = .ok (.newarray .int, 2) := by decide +kernel
theorem dX2_init_9 : decode cX2_init 9 = .ok (.putfield 9, 3) := by decide +kernel
theorem dX2_init_12 : decode cX2_init 12 = .ok (.aload_n 0, 1) := by decide +kernel
theorem dX2_init_13 : decode cX2_init 13 = .ok (.bipush 16, 2) := by decide +kernel
theorem dX2_init_15 : decode cX2_init 15 = .ok (.newarray .int, 2) := by decide +kernel
theorem dX2_init_17 : decode cX2_init 17 = .ok (.putfield 15, 3) := by decide +kernel
theorem dX2_init_20 : decode cX2_init 20 = .ok (.aload_n 0, 1) := by decide +kernel
theorem dX2_init_21 : decode cX2_init 21 = .ok (.bipush 36, 2) := by decide +kernel
theorem dX2_init_23 : decode cX2_init 23 = .ok (.newarray .int, 2) := by decide +kernel
theorem dX2_init_25 : decode cX2_init 25 = .ok (.putfield 18, 3) := by decide +kernel
theorem dX2_init_28 : decode cX2_init 28 = .ok (.aload_n 0, 1) := by decide +kernel
theorem dX2_init_29 : decode cX2_init 29 = .ok (.bipush 36, 2) := by decide +kernel
theorem dX2_init_31 : decode cX2_init 31 = .ok (.newarray .int, 2) := by decide +kernel
theorem dX2_init_33 : decode cX2_init 33 = .ok (.putfield 21, 3) := by decide +kernel
theorem dX2_init_36 : decode cX2_init 36 = .ok (.aload_n 0, 1) := by decide +kernel
theorem dX2_init_37 : decode cX2_init 37 = .ok (.bipush 36, 2) := by decide +kernel
theorem dX2_init_39 : decode cX2_init 39 = .ok (.newarray .int, 2) := by decide +kernel
theorem dX2_init_41 : decode cX2_init 41 = .ok (.putfield 24, 3) := by decide +kernel
theorem dX2_init_44 : decode cX2_init 44 = .ok (.aload_n 0, 1) := by decide +kernel
theorem dX2_init_45 : decode cX2_init 45 = .ok (.bipush 36, 2) := by decide +kernel
theorem dX2_init_47 : decode cX2_init 47 = .ok (.newarray .int, 2) := by decide +kernel
theorem dX2_init_49 : decode cX2_init 49 = .ok (.putfield 27, 3) := by decide +kernel
theorem dX2_init_52 : decode cX2_init 52 = .ok (.return_, 1) := by decide +kernel
theorem dX2_nodeCount_0 : decode cX2_nodeCount 0 = .ok (.aload_n 0, 1) := by decide +kernel
theorem dX2_nodeCount_1 : decode cX2_nodeCount 1 = .ok (.getfield 30, 3) := by decide +kernel
theorem dX2_nodeCount_4 : decode cX2_nodeCount 4 = .ok (.ireturn, 1) := by decide +kernel
theorem dX2_linkCount_0 : decode cX2_linkCount 0 = .ok (.aload_n 0, 1) := by decide +kernel
theorem dX2_linkCount_1 : decode cX2_linkCount 1 = .ok (.getfield 34, 3) := by decide +kernel
theorem dX2_linkCount_4 : decode cX2_linkCount 4 = .ok (.ireturn, 1) := by decide +kernel
theorem dX2_hasNode_0 : decode cX2_hasNode 0 = .ok (.iload_n 1, 1) := by decide +kernel
theorem dX2_hasNode_1 : decode cX2_hasNode 1 = .ok (.ifCond .lt 15, 3) := by decide +kernel
theorem dX2_hasNode_4 : decode cX2_hasNode 4 = .ok (.iload_n 1, 1) := by decide +kernel
theorem dX2_hasNode_5 : decode cX2_hasNode 5 = .ok (.aload_n 0, 1) := by decide +kernel
theorem dX2_hasNode_6 : decode cX2_hasNode 6 = .ok (.getfield 30, 3) := by decide +kernel
theorem dX2_hasNode_9 : decode cX2_hasNode 9 = .ok (.if_icmp .ge 7, 3) := by decide +kernel
theorem dX2_hasNode_12 : decode cX2_hasNode 12 = .ok (.iconst 1, 1) := by decide +kernel
theorem dX2_hasNode_13 : decode cX2_hasNode 13 = .ok (.goto 4, 3) := by decide +kernel
theorem dX2_hasNode_16 : decode cX2_hasNode 16 = .ok (.iconst 0, 1) := by decide +kernel
theorem dX2_hasNode_17 : decode cX2_hasNode 17 = .ok (.ireturn, 1) := by decide +kernel
theorem dX2_hasLink_0 : decode cX2_hasLink 0 = .ok (.iload_n 1, 1) := by decide +kernel
theorem dX2_hasLink_1 : decode cX2_hasLink 1 = .ok (.ifCond .lt 15, 3) := by decide +kernel
theorem dX2_hasLink_4 : decode cX2_hasLink 4 = .ok (.iload_n 1, 1) := by decide +kernel
theorem dX2_hasLink_5 : decode cX2_hasLink 5 = .ok (.aload_n 0, 1) := by decide +kernel
theorem dX2_hasLink_6 : decode cX2_hasLink 6 = .ok (.getfield 34, 3) := by decide +kernel
theorem dX2_hasLink_9 : decode cX2_hasLink 9 = .ok (.if_icmp .ge 7, 3) := by decide +kernel
theorem dX2_hasLink_12 : decode cX2_hasLink 12 = .ok (.iconst 1, 1) := by decide +kernel
theorem dX2_hasLink_13 : decode cX2_hasLink 13 = .ok (.goto 4, 3) := by decide +kernel
theorem dX2_hasLink_16 : decode cX2_hasLink 16 = .ok (.iconst 0, 1) := by decide +kernel
theorem dX2_hasLink_17 : decode cX2_hasLink 17 = .ok (.ireturn, 1) := by decide +kernel
theorem dX2_allNodes_0 : decode cX2_allNodes 0 = .ok (.iconst 1, 1) := by decide +kernel
theorem dX2_allNodes_1 : decode cX2_allNodes 1 = .ok (.aload_n 0, 1) := by decide +kernel
theorem dX2_allNodes_2 : decode cX2_allNodes 2 = .ok (.getfield 30, 3) := by decide +kernel
theorem dX2_allNodes_5 : decode cX2_allNodes 5 = .ok (.ishl, 1) := by decide +kernel
theorem dX2_allNodes_6 : decode cX2_allNodes 6 = .ok (.iconst 1, 1) := by decide +kernel
theorem dX2_allNodes_7 : decode cX2_allNodes 7 = .ok (.isub, 1) := by decide +kernel
theorem dX2_allNodes_8 : decode cX2_allNodes 8 = .ok (.ireturn, 1) := by decide +kernel
set_option maxRecDepth 20000 in
theorem ggX2_hasNodes_X2_allNodes : GoodIn wsX2_hasNodes wsX2_allNodes := goodIn_r _ [5, 6, 7, 8, 9, 10, 11, 12, 13, 14] (by decide +kernel) (by decide +kernel)
set_option maxRecDepth 20000 in
theorem gX2_hasNodes_X2_allNodes : GoodIn wsX2_hasNodes (wsV RX2 37 RX2 yX2_allNodes wsX2_allNodes) := goodIn_app (goodIn_of _ (by decide +kernel)) ggX2_hasNodes_X2_allNodes
theorem dX2_hasNodes_0 : decode cX2_hasNodes 0 = .ok (.iload_n 1, 1) := by decide +kernel
theorem dX2_hasNodes_1 : decode cX2_hasNodes 1 = .ok (.aload_n 0, 1) := by decide +kernel
theorem dX2_hasNodes_2 : decode cX2_hasNodes 2 = .ok (.invokevirtual 37, 3) := by decide +kernel
theorem dX2_hasNodes_5 : decode cX2_hasNodes 5 = .ok (.iconst (-1), 1) := by decide +kernel
theorem dX2_hasNodes_6 : decode cX2_hasNodes 6 = .ok (.ixor, 1) := by decide +kernel
theorem dX2_hasNodes_7 : decode cX2_hasNodes 7 = .ok (.iand, 1) := by decide +kernel
theorem dX2_hasNodes_8 : decode cX2_hasNodes 8 = .ok (.ifCond .ne 7, 3) := by decide +kernel
theorem dX2_hasNodes_11 : decode cX2_hasNodes 11 = .ok (.iconst 1, 1) := by decide +kernel
theorem dX2_hasNodes_12 : decode cX2_hasNodes 12 = .ok (.goto 4, 3) := by decide +kernel
theorem dX2_hasNodes_15 : decode cX2_hasNodes 15 = .ok (.iconst 0, 1) := by decide +kernel
theorem dX2_hasNodes_16 : decode cX2_hasNodes 16 = .ok (.ireturn, 1) := by decide +kernel
theorem dX2_startOf_0 : decode cX2_startOf 0 = .ok (.iload_n 1, 1) := by decide +kernel
theorem dX2_startOf_1 : decode cX2_startOf 1 = .ok (.ifCond .lt 18, 3) := by decide +kernel
theorem dX2_startOf_4 : decode cX2_startOf 4 = .ok (.iload_n 1, 1) := by decide +kernel
theorem dX2_startOf_5 : decode cX2_startOf 5 = .ok (.bipush 16, 2) := by decide +kernel
theorem dX2_startOf_7 : decode cX2_startOf 7 = .ok (.if_icmp .ge 12, 3) := by decide +kernel
theorem dX2_startOf_10 : decode cX2_startOf 10 = .ok (.aload_n 0, 1) := by decide +kernel
theorem dX2_startOf_11 : decode cX2_startOf 11 = .ok (.getfield 9, 3) := by decide +kernel
theorem dX2_startOf_14 : decode cX2_startOf 14 = .ok (.iload_n 1, 1) := by decide +kernel
theorem dX2_startOf_15 : decode cX2_startOf 15 = .ok (.iaload, 1) := by decide +kernel
theorem dX2_startOf_16 : decode cX2_startOf 16 = .ok (.goto 4, 3) := by decide +kernel
theorem dX2_startOf_19 : decode cX2_startOf 19 = .ok (.iconst (-1), 1) := by decide +kernel
theorem dX2_startOf_20 : decode cX2_startOf 20 = .ok (.ireturn, 1) := by decide +kernel
theorem dX2_endOf_0 : decode cX2_endOf 0 = .ok (.iload_n 1, 1) := by decide +kernel
theorem dX2_endOf_1 : decode cX2_endOf 1 = .ok (.ifCond .lt 18, 3) := by decide +kernel
theorem dX2_endOf_4 : decode cX2_endOf 4 = .ok (.iload_n 1, 1) := by decide +kernel
theorem dX2_endOf_5 : decode cX2_endOf 5 = .ok (.bipush 16, 2) := by decide +kernel
theorem dX2_endOf_7 : decode cX2_endOf 7 = .ok (.if_icmp .ge 12, 3) := by decide +kernel
theorem dX2_endOf_10 : decode cX2_endOf 10 = .ok (.aload_n 0, 1) := by decide +kernel
theorem dX2_endOf_11 : decode cX2_endOf 11 = .ok (.getfield 15, 3) := by decide +kernel
theorem dX2_endOf_14 : decode cX2_endOf 14 = .ok (.iload_n 1, 1) := by decide +kernel
theorem dX2_endOf_15 : decode cX2_endOf 15 = .ok (.iaload, 1) := by decide +kernel
theorem dX2_endOf_16 : decode cX2_endOf 16 = .ok (.goto 4, 3) := by decide +kernel
theorem dX2_endOf_19 : decode cX2_endOf 19 = .ok (.iconst (-1), 1) := by decide +kernel
theorem dX2_endOf_20 : decode cX2_endOf 20 = .ok (.ireturn, 1) := by decide +kernel
theorem dX2_at_0 : decode cX2_at 0 = .ok (.bipush 6, 2) := by decide +kernel
theorem dX2_at_2 : decode cX2_at 2 = .ok (.iload_n 0, 1) := by decide +kernel
theorem dX2_at_3 : decode cX2_at 3 = .ok (.imul, 1) := by decide +kernel
theorem dX2_at_4 : decode cX2_at 4 = .ok (.iload_n 1, 1) := by decide +kernel
theorem dX2_at_5 : decode cX2_at 5 = .ok (.iadd, 1) := by decide +kernel
theorem dX2_at_6 : decode cX2_at 6 = .ok (.ireturn, 1) := by decide +kernel
set_option maxRecDepth 20000 in
theorem ggX2_read_X2_forget : GoodIn wsX2_read wsX2_forget := goodIn_r _ [10, 5, 11, 12, 13, 14, 15, 16, 17, 9, 18, 61, 62, 63, 64, 65, 66, 67, 68] (by decide +kernel) (by decide +kernel)
set_option maxRecDepth 20000 in
theorem gX2_read_X2_forget : GoodIn wsX2_read (wsV RX2 41 RX2 yX2_forget wsX2_forget) := goodIn_app (goodIn_of _ (by decide +kernel)) ggX2_read_X2_forget
set_option maxRecDepth 20000 in
theorem ggX2_read_X4_digitAt : GoodIn wsX2_read wsX4_digitAt := goodIn_r _ [23, 24, 25, 26, 22, 27, 28, 29, 69, 70] (by decide +kernel) (by decide +kernel)
set_option maxRecDepth 20000 in
theorem gX2_read_X4_digitAt : GoodIn wsX2_read (wsV RX2 44 RX4 yX4_digitAt wsX4_digitAt) := goodIn_app (goodIn_of _ (by decide +kernel)) ggX2_read_X4_digitAt
set_option maxRecDepth 20000 in
theorem ggX2_read_X4_pairCount : GoodIn wsX2_read wsX4_pairCount := goodIn_r _ [33, 28, 69, 70] (by decide +kernel) (by decide +kernel)
set_option maxRecDepth 20000 in
theorem gX2_read_X4_pairCount : GoodIn wsX2_read (wsV RX2 56 RX4 yX4_pairCount wsX4_pairCount) := goodIn_app (goodIn_of _ (by decide +kernel)) ggX2_read_X4_pairCount
set_option maxRecDepth 20000 in
theorem ggX2_read_X4_firstOfPair : GoodIn wsX2_read wsX4_firstOfPair := goodIn_r _ [37, 38, 20, 21, 22, 23, 24, 25, 26, 27, 28, 29, 69, 70] (by decide +kernel) (by decide +kernel)
set_option maxRecDepth 20000 in
theorem gX2_read_X4_firstOfPair : GoodIn wsX2_read (wsV RX2 59 RX4 yX4_firstOfPair wsX4_firstOfPair) := goodIn_app (goodIn_of _ (by decide +kernel)) ggX2_read_X4_firstOfPair
set_option maxRecDepth 20000 in
theorem ggX2_read_X4_secondOfPair : GoodIn wsX2_read wsX4_secondOfPair := goodIn_r _ [42, 38, 20, 21, 22, 23, 24, 25, 26, 27, 28, 29, 69, 70] (by decide +kernel) (by decide +kernel)
set_option maxRecDepth 20000 in
theorem gX2_read_X4_secondOfPair : GoodIn wsX2_read (wsV RX2 62 RX4 yX4_secondOfPair wsX4_secondOfPair) := goodIn_app (goodIn_of _ (by decide +kernel)) ggX2_read_X4_secondOfPair
set_option maxRecDepth 20000 in
theorem ggX2_read_X2_addLink : GoodIn wsX2_read wsX2_addLink := goodIn_r _ [46, 11, 47, 48, 12, 49, 50, 51, 9, 52, 5, 16, 17, 18, 61, 62, 63, 64, 65, 66, 67, 68] (by decide +kernel) (by decide +kernel)
set_option maxRecDepth 20000 in
theorem gX2_read_X2_addLink : GoodIn wsX2_read (wsV RX2 65 RX2 yX2_addLink wsX2_addLink) := goodIn_app (goodIn_of _ (by decide +kernel)) ggX2_read_X2_addLink
set_option maxRecDepth 20000 in
theorem ggX2_read_X2_findWays : GoodIn wsX2_read wsX2_findWays := goodIn_r _ [56, 5, 13, 16, 17, 9, 18, 57, 58, 59, 60, 12, 14, 15, 61, 62, 63, 64, 65, 66, 67, 68] (by decide +kernel) (by decide +kernel)
set_option maxRecDepth 20000 in
theorem gX2_read_X2_findWays : GoodIn wsX2_read (wsV RX2 69 RX2 yX2_findWays wsX2_findWays) := goodIn_app (goodIn_of _ (by decide +kernel)) ggX2_read_X2_findWays
theorem dX2_read_0 : decode cX2_read 0 = .ok (.aload_n 0, 1) := by decide +kernel
theorem dX2_read_1 : decode cX2_read 1 = .ok (.invokevirtual 41, 3) := by decide +kernel
theorem dX2_read_4 : decode cX2_read 4 = .ok (.aload_n 0, 1) := by decide +kernel
theorem dX2_read_5 : decode cX2_read 5 = .ok (.aload_n 1, 1) := by decide +kernel
theorem dX2_read_6 : decode cX2_read 6 = .ok (.iconst 0, 1) := by decide +kernel
theorem dX2_read_7 : decode cX2_read 7 = .ok (.invokevirtual 44, 3) := by decide +kernel
theorem dX2_read_10 : decode cX2_read 10 = .ok (.bipush 6, 2) := by decide +kernel
theorem dX2_read_12 : decode cX2_read 12 = .ok (.invokestatic 50, 3) := by decide +kernel
theorem dX2_read_15 : decode cX2_read 15 = .ok (.putfield 30, 3) := by decide +kernel
theorem dX2_read_18 : decode cX2_read 18 = .ok (.iconst 0, 1) := by decide +kernel
theorem dX2_read_19 : decode cX2_read 19 = .ok (.istore_n 2, 1) := by decide +kernel
theorem dX2_read_20 : decode cX2_read 20 = .ok (.iload_n 2, 1) := by decide +kernel
theorem dX2_read_21 : decode cX2_read 21 = .ok (.aload_n 1, 1) := by decide +kernel
theorem dX2_read_22 : decode cX2_read 22 = .ok (.invokevirtual 56, 3) := by decide +kernel
theorem dX2_read_25 : decode cX2_read 25 = .ok (.if_icmp .ge 36, 3) := by decide +kernel
theorem dX2_read_28 : decode cX2_read 28 = .ok (.aload_n 1, 1) := by decide +kernel
theorem dX2_read_29 : decode cX2_read 29 = .ok (.iload_n 2, 1) := by decide +kernel
theorem dX2_read_30 : decode cX2_read 30 = .ok (.invokevirtual 59, 3) := by decide +kernel
theorem dX2_read_33 : decode cX2_read 33 = .ok (.istore_n 3, 1) := by decide +kernel
theorem dX2_read_34 : decode cX2_read 34 = .ok (.aload_n 1, 1) := by decide +kernel
theorem dX2_read_35 : decode cX2_read 35 = .ok (.iload_n 2, 1) := by decide +kernel
theorem dX2_read_36 : decode cX2_read 36 = .ok (.invokevirtual 62, 3) := by decide +kernel
theorem dX2_read_39 : decode cX2_read 39 = .ok (.istore 4, 2) := by decide +kernel
theorem dX2_read_41 : decode cX2_read 41 = .ok (.aload_n 0, 1) := by decide +kernel
theorem dX2_read_42 : decode cX2_read 42 = .ok (.iload_n 3, 1) := by decide +kernel
theorem dX2_read_43 : decode cX2_read 43 = .ok (.iload 4, 2) := by decide +kernel
theorem dX2_read_45 : decode cX2_read 45 = .ok (.invokevirtual 65, 3) := by decide +kernel
theorem dX2_read_48 : decode cX2_read 48 = .ok (.aload_n 0, 1) := by decide +kernel
theorem dX2_read_49 : decode cX2_read 49 = .ok (.iload 4, 2) := by decide +kernel
theorem dX2_read_51 : decode cX2_read 51 = .ok (.iload_n 3, 1) := by decide +kernel
theorem dX2_read_52 : decode cX2_read 52 = .ok (.invokevirtual 65, 3) := by decide +kernel
theorem dX2_read_55 : decode cX2_read 55 = .ok (.iinc 2 1, 3) := by decide +kernel
theorem dX2_read_58 : decode cX2_read 58 = .ok (.goto (-38), 3) := by decide +kernel
theorem dX2_read_61 : decode cX2_read 61 = .ok (.iconst 1, 1) := by decide +kernel
theorem dX2_read_62 : decode cX2_read 62 = .ok (.istore_n 2, 1) := by decide +kernel
theorem dX2_read_63 : decode cX2_read 63 = .ok (.iload_n 2, 1) := by decide +kernel
theorem dX2_read_64 : decode cX2_read 64 = .ok (.aload_n 0, 1) := by decide +kernel
theorem dX2_read_65 : decode cX2_read 65 = .ok (.getfield 30, 3) := by decide +kernel
theorem dX2_read_68 : decode cX2_read 68 = .ok (.if_icmp .ge 14, 3) := by decide +kernel
theorem dX2_read_71 : decode cX2_read 71 = .ok (.aload_n 0, 1) := by decide +kernel
theorem dX2_read_72 : decode cX2_read 72 = .ok (.iload_n 2, 1) := by decide +kernel
theorem dX2_read_73 : decode cX2_read 73 = .ok (.invokevirtual 69, 3) := by decide +kernel
theorem dX2_read_76 : decode cX2_read 76 = .ok (.iinc 2 1, 3) := by decide +kernel
theorem dX2_read_79 : decode cX2_read 79 = .ok (.goto (-16), 3) := by decide +kernel
theorem dX2_read_82 : decode cX2_read 82 = .ok (.return_, 1) := by decide +kernel
set_option maxRecDepth 20000 in
theorem ggX2_forget_X2_at : GoodIn wsX2_forget wsX2_at := goodIn_r _ [10] (by decide +kernel) (by decide +kernel)
set_option maxRecDepth 20000 in
theorem gX2_forget_X2_at : GoodIn wsX2_forget (va_wsS RX2 73 yX2_at wsX2_at) := goodIn_app (goodIn_of _ (by decide +kernel)) ggX2_forget_X2_at
theorem dX2_forget_0 : decode cX2_forget 0 = .ok (.aload_n 0, 1) := by decide +kernel
theorem dX2_forget_1 : decode cX2_forget 1 = .ok (.iconst 0, 1) := by decide +kernel
theorem dX2_forget_2 : decode cX2_forget 2 = .ok (.putfield 30, 3) := by decide +kernel
theorem dX2_forget_5 : decode cX2_forget 5 = .ok (.aload_n 0, 1) := by decide +kernel
theorem dX2_forget_6 : decode cX2_forget 6 = .ok (.iconst 0, 1) := by decide +kernel
theorem dX2_forget_7 : decode cX2_forget 7 = .ok (.putfield 34, 3) := by decide +kernel
theorem dX2_forget_10 : decode cX2_forget 10 = .ok (.iconst 0, 1) := by decide +kernel
theorem dX2_forget_11 : decode cX2_forget 11 = .ok (.istore_n 1, 1) := by decide +kernel
theorem dX2_forget_12 : decode cX2_forget 12 = .ok (.iload_n 1, 1) := by decide +kernel
theorem dX2_forget_13 : decode cX2_forget 13 = .ok (.bipush 6, 2) := by decide +kernel
theorem dX2_forget_15 : decode cX2_forget 15 = .ok (.if_icmp .ge 76, 3) := by decide +kernel
theorem dX2_forget_18 : decode cX2_forget 18 = .ok (.iconst 0, 1) := by decide +kernel
theorem dX2_forget_19 : decode cX2_forget 19 = .ok (.istore_n 2, 1) := by decide +kernel
theorem dX2_forget_20 : decode cX2_forget 20 = .ok (.iload_n 2, 1) := by decide +kernel
theorem dX2_forget_21 : decode cX2_forget 21 = .ok (.bipush 6, 2) := by decide +kernel
theorem dX2_forget_23 : decode cX2_forget 23 = .ok (.if_icmp .ge 62, 3) := by decide +kernel
theorem dX2_forget_26 : decode cX2_forget 26 = .ok (.aload_n 0, 1) := by decide +kernel
theorem dX2_forget_27 : decode cX2_forget 27 = .ok (.getfield 18, 3) := by decide +kernel
theorem dX2_forget_30 : decode cX2_forget 30 = .ok (.iload_n 1, 1) := by decide +kernel
theorem dX2_forget_31 : decode cX2_forget 31 = .ok (.iload_n 2, 1) := by decide +kernel
theorem dX2_forget_32 : decode cX2_forget 32 = .ok (.invokestatic 73, 3) := by decide +kernel
theorem dX2_forget_35 : decode cX2_forget 35 = .ok (.iconst (-1), 1) := by decide +kernel
theorem dX2_forget_36 : decode cX2_forget 36 = .ok (.iastore, 1) := by decide +kernel
theorem dX2_forget_37 : decode cX2_forget 37 = .ok (.aload_n 0, 1) := by decide +kernel
theorem dX2_forget_38 : decode cX2_forget 38 = .ok (.getfield 21, 3) := by decide +kernel
theorem dX2_forget_41 : decode cX2_forget 41 = .ok (.iload_n 1, 1) := by decide +kernel
theorem dX2_forget_42 : decode cX2_forget 42 = .ok (.iload_n 2, 1) := by decide +kernel
theorem dX2_forget_43 : decode cX2_forget 43 = .ok (.invokestatic 73, 3) := by decide +kernel
theorem dX2_forget_46 : decode cX2_forget 46 = .ok (.iload_n 1, 1) := by decide +kernel
theorem dX2_forget_47 : decode cX2_forget 47 = .ok (.iload_n 2, 1) := by decide +kernel
theorem dX2_forget_48 : decode cX2_forget 48 = .ok (.if_icmp .ne 7, 3) := by decide +kernel
theorem dX2_forget_51 : decode cX2_forget 51 = .ok (.iconst 0, 1) := by decide +kernel
theorem dX2_forget_52 : decode cX2_forget 52 = .ok (.goto 4, 3) := by decide +kernel
theorem dX2_forget_55 : decode cX2_forget 55 = .ok (.iconst (-1), 1) := by decide +kernel
theorem dX2_forget_56 : decode cX2_forget 56 = .ok (.iastore, 1) := by decide +kernel
theorem dX2_forget_57 : decode cX2_forget 57 = .ok (.aload_n 0, 1) := by decide +kernel
theorem dX2_forget_58 : decode cX2_forget 58 = .ok (.getfield 24, 3) := by decide +kernel
theorem dX2_forget_61 : decode cX2_forget 61 = .ok (.iload_n 1, 1) := by decide +kernel
theorem dX2_forget_62 : decode cX2_forget 62 = .ok (.iload_n 2, 1) := by decide +kernel
theorem dX2_forget_63 : decode cX2_forget 63 = .ok (.invokestatic 73, 3) := by decide +kernel
theorem dX2_forget_66 : decode cX2_forget 66 = .ok (.iconst (-1), 1) := by decide +kernel
theorem dX2_forget_67 : decode cX2_forget 67 = .ok (.iastore, 1) := by decide +kernel
theorem dX2_forget_68 : decode cX2_forget 68 = .ok (.aload_n 0, 1) := by decide +kernel
theorem dX2_forget_69 : decode cX2_forget 69 = .ok (.getfield 27, 3) := by decide +kernel
theorem dX2_forget_72 : decode cX2_forget 72 = .ok (.iload_n 1, 1) := by decide +kernel
theorem dX2_forget_73 : decode cX2_forget 73 = .ok (.iload_n 2, 1) := by decide +kernel
theorem dX2_forget_74 : decode cX2_forget 74 = .ok (.invokestatic 73, 3) := by decide +kernel
theorem dX2_forget_77 : decode cX2_forget 77 = .ok (.iconst 0, 1) := by decide +kernel
theorem dX2_forget_78 : decode cX2_forget 78 = .ok (.iastore, 1) := by decide +kernel
theorem dX2_forget_79 : decode cX2_forget 79 = .ok (.iinc 2 1, 3) := by decide +kernel
theorem dX2_forget_82 : decode cX2_forget 82 = .ok (.goto (-62), 3) := by decide +kernel
theorem dX2_forget_85 : decode cX2_forget 85 = .ok (.iinc 1 1, 3) := by decide +kernel
theorem dX2_forget_88 : decode cX2_forget 88 = .ok (.goto (-76), 3) := by decide +kernel
theorem dX2_forget_91 : decode cX2_forget 91 = .ok (.return_, 1) := by decide +kernel
set_option maxRecDepth 20000 in
theorem ggX2_addLink_X2_hasNode : GoodIn wsX2_addLink wsX2_hasNode := goodIn_r _ [9, 10, 14, 15, 16, 17, 18, 19, 20, 21] (by decide +kernel) (by decide +kernel)
set_option maxRecDepth 20000 in
theorem gX2_addLink_X2_hasNode : GoodIn wsX2_addLink (wsV RX2 76 RX2 yX2_hasNode wsX2_hasNode) := goodIn_app (goodIn_of _ (by decide +kernel)) ggX2_addLink_X2_hasNode
set_option maxRecDepth 20000 in
theorem ggX2_addLink_X2_at : GoodIn wsX2_addLink wsX2_at := goodIn_r _ [13] (by decide +kernel) (by decide +kernel)
set_option maxRecDepth 20000 in
theorem gX2_addLink_X2_at : GoodIn wsX2_addLink (va_wsS RX2 73 yX2_at wsX2_at) := goodIn_app (goodIn_of _ (by decide +kernel)) ggX2_addLink_X2_at
theorem dX2_addLink_0 : decode cX2_addLink 0 = .ok (.aload_n 0, 1) := by decide +kernel
theorem dX2_addLink_1 : decode cX2_addLink 1 = .ok (.getfield 34, 3) := by decide +kernel
theorem dX2_addLink_4 : decode cX2_addLink 4 = .ok (.bipush 16, 2) := by decide +kernel
theorem dX2_addLink_6 : decode cX2_addLink 6 = .ok (.if_icmp .ge 63, 3) := by decide +kernel
theorem dX2_addLink_9 : decode cX2_addLink 9 = .ok (.aload_n 0, 1) := by decide +kernel
theorem dX2_addLink_10 : decode cX2_addLink 10 = .ok (.iload_n 1, 1) := by decide +kernel
theorem dX2_addLink_11 : decode cX2_addLink 11 = .ok (.invokevirtual 76, 3) := by decide +kernel
theorem dX2_addLink_14 : decode cX2_addLink 14 = .ok (.ifCond .eq 55, 3) := by decide +kernel
theorem dX2_addLink_17 : decode cX2_addLink 17 = .ok (.aload_n 0, 1) := by decide +kernel
theorem dX2_addLink_18 : decode cX2_addLink 18 = .ok (.iload_n 2, 1) := by decide +kernel
theorem dX2_addLink_19 : decode cX2_addLink 19 = .ok (.invokevirtual 76, 3) := by decide +kernel
theorem dX2_addLink_22 : decode cX2_addLink 22 = .ok (.ifCond .eq 47, 3) := by decide +kernel
theorem dX2_addLink_25 : decode cX2_addLink 25 = .ok (.aload_n 0, 1) := by decide +kernel
theorem dX2_addLink_26 : decode cX2_addLink 26 = .ok (.getfield 9, 3) := by decide +kernel
theorem dX2_addLink_29 : decode cX2_addLink 29 = .ok (.aload_n 0, 1) := by decide +kernel
theorem dX2_addLink_30 : decode cX2_addLink 30 = .ok (.getfield 34, 3) := by decide +kernel
theorem dX2_addLink_33 : decode cX2_addLink 33 = .ok (.iload_n 1, 1) := by decide +kernel
theorem dX2_addLink_34 : decode cX2_addLink 34 = .ok (.iastore, 1) := by decide +kernel
theorem dX2_addLink_35 : decode cX2_addLink 35 = .ok (.aload_n 0, 1) := by decide +kernel
theorem dX2_addLink_36 : decode cX2_addLink 36 = .ok (.getfield 15, 3) := by decide +kernel
theorem dX2_addLink_39 : decode cX2_addLink 39 = .ok (.aload_n 0, 1) := by decide +kernel
theorem dX2_addLink_40 : decode cX2_addLink 40 = .ok (.getfield 34, 3) := by decide +kernel
theorem dX2_addLink_43 : decode cX2_addLink 43 = .ok (.iload_n 2, 1) := by decide +kernel
theorem dX2_addLink_44 : decode cX2_addLink 44 = .ok (.iastore, 1) := by decide +kernel
theorem dX2_addLink_45 : decode cX2_addLink 45 = .ok (.aload_n 0, 1) := by decide +kernel
theorem dX2_addLink_46 : decode cX2_addLink 46 = .ok (.getfield 18, 3) := by decide +kernel
theorem dX2_addLink_49 : decode cX2_addLink 49 = .ok (.iload_n 1, 1) := by decide +kernel
theorem dX2_addLink_50 : decode cX2_addLink 50 = .ok (.iload_n 2, 1) := by decide +kernel
theorem dX2_addLink_51 : decode cX2_addLink 51 = .ok (.invokestatic 73, 3) := by decide +kernel
theorem dX2_addLink_54 : decode cX2_addLink 54 = .ok (.aload_n 0, 1) := by decide +kernel
theorem dX2_addLink_55 : decode cX2_addLink 55 = .ok (.getfield 34, 3) := by decide +kernel
theorem dX2_addLink_58 : decode cX2_addLink 58 = .ok (.iastore, 1) := by decide +kernel
theorem dX2_addLink_59 : decode cX2_addLink 59 = .ok (.aload_n 0, 1) := by decide +kernel
theorem dX2_addLink_60 : decode cX2_addLink 60 = .ok (.dup, 1) := by decide +kernel
theorem dX2_addLink_61 : decode cX2_addLink 61 = .ok (.getfield 34, 3) := by decide +kernel
theorem dX2_addLink_64 : decode cX2_addLink 64 = .ok (.iconst 1, 1) := by decide +kernel
theorem dX2_addLink_65 : decode cX2_addLink 65 = .ok (.iadd, 1) := by decide +kernel
theorem dX2_addLink_66 : decode cX2_addLink 66 = .ok (.putfield 34, 3) := by decide +kernel
theorem dX2_addLink_69 : decode cX2_addLink 69 = .ok (.return_, 1) := by decide +kernel
set_option maxRecDepth 20000 in
theorem ggX2_findWays_X2_at : GoodIn wsX2_findWays wsX2_at := goodIn_r _ [6] (by decide +kernel) (by decide +kernel)
set_option maxRecDepth 20000 in
theorem gX2_findWays_X2_at : GoodIn wsX2_findWays (va_wsS RX2 73 yX2_at wsX2_at) := goodIn_app (goodIn_of _ (by decide +kernel)) ggX2_findWays_X2_at
set_option maxRecDepth 20000 in
theorem ggX2_findWays_X2_findWay : GoodIn wsX2_findWays wsX2_findWay := goodIn_r _ [10, 1, 11, 2, 12, 13, 3, 4, 5, 6, 14, 15, 16, 17, 18, 19, 20, 21] (by decide +kernel) (by decide +kernel)
set_option maxRecDepth 20000 in
theorem gX2_findWays_X2_findWay : GoodIn wsX2_findWays (wsV RX2 80 RX2 yX2_findWay wsX2_findWay) := goodIn_app (goodIn_of _ (by decide +kernel)) ggX2_findWays_X2_findWay
theorem dX2_findWays_0 : decode cX2_findWays 0 = .ok (.iconst 0, 1) := by decide +kernel
theorem dX2_findWays_1 : decode cX2_findWays 1 = .ok (.istore_n 2, 1) := by decide +kernel
theorem dX2_findWays_2 : decode cX2_findWays 2 = .ok (.iload_n 2, 1) := by decide +kernel
theorem dX2_findWays_3 : decode cX2_findWays 3 = .ok (.aload_n 0, 1) := by decide +kernel
theorem dX2_findWays_4 : decode cX2_findWays 4 = .ok (.getfield 30, 3) := by decide +kernel
theorem dX2_findWays_7 : decode cX2_findWays 7 = .ok (.if_icmp .ge 46, 3) := by decide +kernel
theorem dX2_findWays_10 : decode cX2_findWays 10 = .ok (.iconst 0, 1) := by decide +kernel
theorem dX2_findWays_11 : decode cX2_findWays 11 = .ok (.istore_n 3, 1) := by decide +kernel
theorem dX2_findWays_12 : decode cX2_findWays 12 = .ok (.iload_n 3, 1) := by decide +kernel
theorem dX2_findWays_13 : decode cX2_findWays 13 = .ok (.aload_n 0, 1) := by decide +kernel
theorem dX2_findWays_14 : decode cX2_findWays 14 = .ok (.getfield 30, 3) := by decide +kernel
theorem dX2_findWays_17 : decode cX2_findWays 17 = .ok (.if_icmp .ge 30, 3) := by decide +kernel
theorem dX2_findWays_20 : decode cX2_findWays 20 = .ok (.aload_n 0, 1) := by decide +kernel
theorem dX2_findWays_21 : decode cX2_findWays 21 = .ok (.getfield 21, 3) := by decide +kernel
theorem dX2_findWays_24 : decode cX2_findWays 24 = .ok (.iload_n 2, 1) := by decide +kernel
theorem dX2_findWays_25 : decode cX2_findWays 25 = .ok (.iload_n 3, 1) := by decide +kernel
theorem dX2_findWays_26 : decode cX2_findWays 26 = .ok (.invokestatic 73, 3) := by decide +kernel
theorem dX2_findWays_29 : decode cX2_findWays 29 = .ok (.iaload, 1) := by decide +kernel
theorem dX2_findWays_30 : decode cX2_findWays 30 = .ok (.iconst (-1), 1) := by decide +kernel
theorem dX2_findWays_31 : decode cX2_findWays 31 = .ok (.if_icmp .ne 10, 3) := by decide +kernel
theorem dX2_findWays_34 : decode cX2_findWays 34 = .ok (.aload_n 0, 1) := by decide +kernel
theorem dX2_findWays_35 : decode cX2_findWays 35 = .ok (.iload_n 2, 1) := by decide +kernel
theorem dX2_findWays_36 : decode cX2_findWays 36 = .ok (.iload_n 3, 1) := by decide +kernel
theorem dX2_findWays_37 : decode cX2_findWays 37 = .ok (.iload_n 1, 1) := by decide +kernel
theorem dX2_findWays_38 : decode cX2_findWays 38 = .ok (.invokevirtual 80, 3) := by decide +kernel
theorem dX2_findWays_41 : decode cX2_findWays 41 = .ok (.iinc 3 1, 3) := by decide +kernel
theorem dX2_findWays_44 : decode cX2_findWays 44 = .ok (.goto (-32), 3) := by decide +kernel
theorem dX2_findWays_47 : decode cX2_findWays 47 = .ok (.iinc 2 1, 3) := by decide +kernel
theorem dX2_findWays_50 : decode cX2_findWays 50 = .ok (.goto (-48), 3) := by decide +kernel
theorem dX2_findWays_53 : decode cX2_findWays 53 = .ok (.return_, 1) := by decide +kernel
set_option maxRecDepth 20000 in
theorem ggX2_findWay_X2_at : GoodIn wsX2_findWay wsX2_at := goodIn_r _ [9] (by decide +kernel) (by decide +kernel)
set_option maxRecDepth 20000 in
theorem gX2_findWay_X2_at : GoodIn wsX2_findWay (va_wsS RX2 73 yX2_at wsX2_at) := goodIn_app (goodIn_of _ (by decide +kernel)) ggX2_findWay_X2_at
theorem dX2_findWay_0 : decode cX2_findWay 0 = .ok (.iconst 0, 1) := by decide +kernel
theorem dX2_findWay_1 : decode cX2_findWay 1 = .ok (.istore 4, 2) := by decide +kernel
theorem dX2_findWay_3 : decode cX2_findWay 3 = .ok (.iload 4, 2) := by decide +kernel
theorem dX2_findWay_5 : decode cX2_findWay 5 = .ok (.aload_n 0, 1) := by decide +kernel
theorem dX2_findWay_6 : decode cX2_findWay 6 = .ok (.getfield 30, 3) := by decide +kernel
theorem dX2_findWay_9 : decode cX2_findWay 9 = .ok (.if_icmp .ge 95, 3) := by decide +kernel
theorem dX2_findWay_12 : decode cX2_findWay 12 = .ok (.aload_n 0, 1) := by decide +kernel
theorem dX2_findWay_13 : decode cX2_findWay 13 = .ok (.getfield 18, 3) := by decide +kernel
theorem dX2_findWay_16 : decode cX2_findWay 16 = .ok (.iload_n 1, 1) := by decide +kernel
theorem dX2_findWay_17 : decode cX2_findWay 17 = .ok (.iload 4, 2) := by decide +kernel
theorem dX2_findWay_19 : decode cX2_findWay 19 = .ok (.invokestatic 73, 3) := by decide +kernel
theorem dX2_findWay_22 : decode cX2_findWay 22 = .ok (.iaload, 1) := by decide +kernel
theorem dX2_findWay_23 : decode cX2_findWay 23 = .ok (.istore 5, 2) := by decide +kernel
theorem dX2_findWay_25 : decode cX2_findWay 25 = .ok (.iload 5, 2) := by decide +kernel
theorem dX2_findWay_27 : decode cX2_findWay 27 = .ok (.iconst (-1), 1) := by decide +kernel
theorem dX2_findWay_28 : decode cX2_findWay 28 = .ok (.if_icmp .eq 70, 3) := by decide +kernel
theorem dX2_findWay_31 : decode cX2_findWay 31 = .ok (.aload_n 0, 1) := by decide +kernel
theorem dX2_findWay_32 : decode cX2_findWay 32 = .ok (.getfield 21, 3) := by decide +kernel
theorem dX2_findWay_35 : decode cX2_findWay 35 = .ok (.iload 4, 2) := by decide +kernel
theorem dX2_findWay_37 : decode cX2_findWay 37 = .ok (.iload_n 2, 1) := by decide +kernel
theorem dX2_findWay_38 : decode cX2_findWay 38 = .ok (.invokestatic 73, 3) := by decide +kernel
theorem dX2_findWay_41 : decode cX2_findWay 41 = .ok (.iaload, 1) := by decide +kernel
theorem dX2_findWay_42 : decode cX2_findWay 42 = .ok (.iload_n 3, 1) := by decide +kernel
theorem dX2_findWay_43 : decode cX2_findWay 43 = .ok (.iconst 1, 1) := by decide +kernel
theorem dX2_findWay_44 : decode cX2_findWay 44 = .ok (.isub, 1) := by decide +kernel
theorem dX2_findWay_45 : decode cX2_findWay 45 = .ok (.if_icmp .ne 53, 3) := by decide +kernel
theorem dX2_findWay_48 : decode cX2_findWay 48 = .ok (.aload_n 0, 1) := by decide +kernel
theorem dX2_findWay_49 : decode cX2_findWay 49 = .ok (.getfield 21, 3) := by decide +kernel
theorem dX2_findWay_52 : decode cX2_findWay 52 = .ok (.iload_n 1, 1) := by decide +kernel
theorem dX2_findWay_53 : decode cX2_findWay 53 = .ok (.iload_n 2, 1) := by decide +kernel
theorem dX2_findWay_54 : decode cX2_findWay 54 = .ok (.invokestatic 73, 3) := by decide +kernel
theorem dX2_findWay_57 : decode cX2_findWay 57 = .ok (.iload_n 3, 1) := by decide +kernel
theorem dX2_findWay_58 : decode cX2_findWay 58 = .ok (.iastore, 1) := by decide +kernel
theorem dX2_findWay_59 : decode cX2_findWay 59 = .ok (.aload_n 0, 1) := by decide +kernel
theorem dX2_findWay_60 : decode cX2_findWay 60 = .ok (.getfield 24, 3) := by decide +kernel
theorem dX2_findWay_63 : decode cX2_findWay 63 = .ok (.iload_n 1, 1) := by decide +kernel
theorem dX2_findWay_64 : decode cX2_findWay 64 = .ok (.iload_n 2, 1) := by decide +kernel
theorem dX2_findWay_65 : decode cX2_findWay 65 = .ok (.invokestatic 73, 3) := by decide +kernel
theorem dX2_findWay_68 : decode cX2_findWay 68 = .ok (.iload 4, 2) := by decide +kernel
theorem dX2_findWay_70 : decode cX2_findWay 70 = .ok (.iastore, 1) := by decide +kernel
theorem dX2_findWay_71 : decode cX2_findWay 71 = .ok (.aload_n 0, 1) := by decide +kernel
theorem dX2_findWay_72 : decode cX2_findWay 72 = .ok (.getfield 27, 3) := by decide +kernel
theorem dX2_findWay_75 : decode cX2_findWay 75 = .ok (.iload_n 1, 1) := by decide +kernel
theorem dX2_findWay_76 : decode cX2_findWay 76 = .ok (.iload_n 2, 1) := by decide +kernel
theorem dX2_findWay_77 : decode cX2_findWay 77 = .ok (.invokestatic 73, 3) := by decide +kernel
theorem dX2_findWay_80 : decode cX2_findWay 80 = .ok (.aload_n 0, 1) := by decide +kernel
theorem dX2_findWay_81 : decode cX2_findWay 81 = .ok (.getfield 27, 3) := by decide +kernel
theorem dX2_findWay_84 : decode cX2_findWay 84 = .ok (.iload 4, 2) := by decide +kernel
theorem dX2_findWay_86 : decode cX2_findWay 86 = .ok (.iload_n 2, 1) := by decide +kernel
theorem dX2_findWay_87 : decode cX2_findWay 87 = .ok (.invokestatic 73, 3) := by decide +kernel
theorem dX2_findWay_90 : decode cX2_findWay 90 = .ok (.iaload, 1) := by decide +kernel
theorem dX2_findWay_91 : decode cX2_findWay 91 = .ok (.iconst 1, 1) := by decide +kernel
theorem dX2_findWay_92 : decode cX2_findWay 92 = .ok (.iload 5, 2) := by decide +kernel
theorem dX2_findWay_94 : decode cX2_findWay 94 = .ok (.ishl, 1) := by decide +kernel
theorem dX2_findWay_95 : decode cX2_findWay 95 = .ok (.ior, 1) := by decide +kernel
theorem dX2_findWay_96 : decode cX2_findWay 96 = .ok (.iastore, 1) := by decide +kernel
theorem dX2_findWay_97 : decode cX2_findWay 97 = .ok (.return_, 1) := by decide +kernel
theorem dX2_findWay_98 : decode cX2_findWay 98 = .ok (.iinc 4 1, 3) := by decide +kernel
theorem dX2_findWay_101 : decode cX2_findWay 101 = .ok (.goto (-98), 3) := by decide +kernel
theorem dX2_findWay_104 : decode cX2_findWay 104 = .ok (.return_, 1) := by decide +kernel
set_option maxRecDepth 20000 in
theorem ggX2_nodeOnWay_X2_hasNode : GoodIn wsX2_nodeOnWay wsX2_hasNode := goodIn_r _ [7, 8, 12, 13, 14, 15, 16, 17, 18, 19] (by decide +kernel) (by decide +kernel)
set_option maxRecDepth 20000 in
theorem gX2_nodeOnWay_X2_hasNode : GoodIn wsX2_nodeOnWay (wsV RX2 76 RX2 yX2_hasNode wsX2_hasNode) := goodIn_app (goodIn_of _ (by decide +kernel)) ggX2_nodeOnWay_X2_hasNode
set_option maxRecDepth 20000 in
theorem ggX2_nodeOnWay_X2_at : GoodIn wsX2_nodeOnWay wsX2_at := goodIn_r _ [11] (by decide +kernel) (by decide +kernel)
set_option maxRecDepth 20000 in
theorem gX2_nodeOnWay_X2_at : GoodIn wsX2_nodeOnWay (va_wsS RX2 73 yX2_at wsX2_at) := goodIn_app (goodIn_of _ (by decide +kernel)) ggX2_nodeOnWay_X2_at
theorem dX2_nodeOnWay_0 : decode cX2_nodeOnWay 0 = .ok (.aload_n 0, 1) := by decide +kernel
theorem dX2_nodeOnWay_1 : decode cX2_nodeOnWay 1 = .ok (.iload_n 1, 1) := by decide +kernel
theorem dX2_nodeOnWay_2 : decode cX2_nodeOnWay 2 = .ok (.invokevirtual 76, 3) := by decide +kernel
theorem dX2_nodeOnWay_5 : decode cX2_nodeOnWay 5 = .ok (.ifCond .eq 11, 3) := by decide +kernel
theorem dX2_nodeOnWay_8 : decode cX2_nodeOnWay 8 = .ok (.aload_n 0, 1) := by decide +kernel
theorem dX2_nodeOnWay_9 : decode cX2_nodeOnWay 9 = .ok (.iload_n 2, 1) := by decide +kernel
theorem dX2_nodeOnWay_10 : decode cX2_nodeOnWay 10 = .ok (.invokevirtual 76, 3) := by decide +kernel
theorem dX2_nodeOnWay_13 : decode cX2_nodeOnWay 13 = .ok (.ifCond .ne 5, 3) := by decide +kernel
theorem dX2_nodeOnWay_16 : decode cX2_nodeOnWay 16 = .ok (.iconst (-1), 1) := by decide +kernel
theorem dX2_nodeOnWay_17 : decode cX2_nodeOnWay 17 = .ok (.ireturn, 1) := by decide +kernel
theorem dX2_nodeOnWay_18 : decode cX2_nodeOnWay 18 = .ok (.iload_n 3, 1) := by decide +kernel
theorem dX2_nodeOnWay_19 : decode cX2_nodeOnWay 19 = .ok (.ifCond .lt 17, 3) := by decide +kernel
theorem dX2_nodeOnWay_22 : decode cX2_nodeOnWay 22 = .ok (.iload_n 3, 1) := by decide +kernel
theorem dX2_nodeOnWay_23 : decode cX2_nodeOnWay 23 = .ok (.aload_n 0, 1) := by decide +kernel
theorem dX2_nodeOnWay_24 : decode cX2_nodeOnWay 24 = .ok (.getfield 21, 3) := by decide +kernel
theorem dX2_nodeOnWay_27 : decode cX2_nodeOnWay 27 = .ok (.iload_n 1, 1) := by decide +kernel
theorem dX2_nodeOnWay_28 : decode cX2_nodeOnWay 28 = .ok (.iload_n 2, 1) := by decide +kernel
theorem dX2_nodeOnWay_29 : decode cX2_nodeOnWay 29 = .ok (.invokestatic 73, 3) := by decide +kernel
theorem dX2_nodeOnWay_32 : decode cX2_nodeOnWay 32 = .ok (.iaload, 1) := by decide +kernel
theorem dX2_nodeOnWay_33 : decode cX2_nodeOnWay 33 = .ok (.if_icmp .le 5, 3) := by decide +kernel
theorem dX2_nodeOnWay_36 : decode cX2_nodeOnWay 36 = .ok (.iconst (-1), 1) := by decide +kernel
theorem dX2_nodeOnWay_37 : decode cX2_nodeOnWay 37 = .ok (.ireturn, 1) := by decide +kernel
theorem dX2_nodeOnWay_38 : decode cX2_nodeOnWay 38 = .ok (.iload_n 1, 1) := by decide +kernel
theorem dX2_nodeOnWay_39 : decode cX2_nodeOnWay 39 = .ok (.istore 4, 2) := by decide +kernel
theorem dX2_nodeOnWay_41 : decode cX2_nodeOnWay 41 = .ok (.iconst 0, 1) := by decide +kernel
theorem dX2_nodeOnWay_42 : decode cX2_nodeOnWay 42 = .ok (.istore 5, 2) := by decide +kernel
theorem dX2_nodeOnWay_44 : decode cX2_nodeOnWay 44 = .ok (.iload 5, 2) := by decide +kernel
theorem dX2_nodeOnWay_46 : decode cX2_nodeOnWay 46 = .ok (.iload_n 3, 1) := by decide +kernel
theorem dX2_nodeOnWay_47 : decode cX2_nodeOnWay 47 = .ok (.if_icmp .ge 31, 3) := by decide +kernel
theorem dX2_nodeOnWay_50 : decode cX2_nodeOnWay 50 = .ok (.aload_n 0, 1) := by decide +kernel
theorem dX2_nodeOnWay_51 : decode cX2_nodeOnWay 51 = .ok (.iload 4, 2) := by decide +kernel
theorem dX2_nodeOnWay_53 : decode cX2_nodeOnWay 53 = .ok (.invokevirtual 76, 3) := by decide +kernel
theorem dX2_nodeOnWay_56 : decode cX2_nodeOnWay 56 = .ok (.ifCond .eq 22, 3) := by decide +kernel
theorem dX2_nodeOnWay_59 : decode cX2_nodeOnWay 59 = .ok (.aload_n 0, 1) := by decide +kernel
theorem dX2_nodeOnWay_60 : decode cX2_nodeOnWay 60 = .ok (.getfield 24, 3) := by decide +kernel
theorem dX2_nodeOnWay_63 : decode cX2_nodeOnWay 63 = .ok (.iload 4, 2) := by decide +kernel
theorem dX2_nodeOnWay_65 : decode cX2_nodeOnWay 65 = .ok (.iload_n 2, 1) := by decide +kernel
theorem dX2_nodeOnWay_66 : decode cX2_nodeOnWay 66 = .ok (.invokestatic 73, 3) := by decide +kernel
theorem dX2_nodeOnWay_69 : decode cX2_nodeOnWay 69 = .ok (.iaload, 1) := by decide +kernel
theorem dX2_nodeOnWay_70 : decode cX2_nodeOnWay 70 = .ok (.istore 4, 2) := by decide +kernel
theorem dX2_nodeOnWay_72 : decode cX2_nodeOnWay 72 = .ok (.iinc 5 1, 3) := by decide +kernel
theorem dX2_nodeOnWay_75 : decode cX2_nodeOnWay 75 = .ok (.goto (-31), 3) := by decide +kernel
theorem dX2_nodeOnWay_78 : decode cX2_nodeOnWay 78 = .ok (.iload 4, 2) := by decide +kernel
theorem dX2_nodeOnWay_80 : decode cX2_nodeOnWay 80 = .ok (.ireturn, 1) := by decide +kernel
set_option maxRecDepth 20000 in
theorem ggX2_treeLinks_X2_hasNode : GoodIn wsX2_treeLinks wsX2_hasNode := goodIn_r _ [7, 1, 11, 12, 13, 14, 15, 16, 17, 18] (by decide +kernel) (by decide +kernel)
set_option maxRecDepth 20000 in
theorem gX2_treeLinks_X2_hasNode : GoodIn wsX2_treeLinks (wsV RX2 76 RX2 yX2_hasNode wsX2_hasNode) := goodIn_app (goodIn_of _ (by decide +kernel)) ggX2_treeLinks_X2_hasNode
set_option maxRecDepth 20000 in
theorem ggX2_treeLinks_X2_at : GoodIn wsX2_treeLinks wsX2_at := goodIn_r _ [10] (by decide +kernel) (by decide +kernel)
set_option maxRecDepth 20000 in
theorem gX2_treeLinks_X2_at : GoodIn wsX2_treeLinks (va_wsS RX2 73 yX2_at wsX2_at) := goodIn_app (goodIn_of _ (by decide +kernel)) ggX2_treeLinks_X2_at
theorem dX2_treeLinks_0 : decode cX2_treeLinks 0 = .ok (.aload_n 0, 1) := by decide +kernel
theorem dX2_treeLinks_1 : decode cX2_treeLinks 1 = .ok (.iload_n 1, 1) := by decide +kernel
theorem dX2_treeLinks_2 : decode cX2_treeLinks 2 = .ok (.invokevirtual 76, 3) := by decide +kernel
theorem dX2_treeLinks_5 : decode cX2_treeLinks 5 = .ok (.ifCond .ne 5, 3) := by decide +kernel
theorem dX2_treeLinks_8 : decode cX2_treeLinks 8 = .ok (.iconst 0, 1) := by decide +kernel
theorem dX2_treeLinks_9 : decode cX2_treeLinks 9 = .ok (.ireturn, 1) := by decide +kernel
theorem dX2_treeLinks_10 : decode cX2_treeLinks 10 = .ok (.iconst 0, 1) := by decide +kernel
theorem dX2_treeLinks_11 : decode cX2_treeLinks 11 = .ok (.istore_n 3, 1) := by decide +kernel
theorem dX2_treeLinks_12 : decode cX2_treeLinks 12 = .ok (.iconst 0, 1) := by decide +kernel
theorem dX2_treeLinks_13 : decode cX2_treeLinks 13 = .ok (.istore 4, 2) := by decide +kernel
theorem dX2_treeLinks_15 : decode cX2_treeLinks 15 = .ok (.iload 4, 2) := by decide +kernel
theorem dX2_treeLinks_17 : decode cX2_treeLinks 17 = .ok (.aload_n 0, 1) := by decide +kernel
theorem dX2_treeLinks_18 : decode cX2_treeLinks 18 = .ok (.getfield 30, 3) := by decide +kernel
theorem dX2_treeLinks_21 : decode cX2_treeLinks 21 = .ok (.if_icmp .ge 32, 3) := by decide +kernel
theorem dX2_treeLinks_24 : decode cX2_treeLinks 24 = .ok (.iload_n 2, 1) := by decide +kernel
theorem dX2_treeLinks_25 : decode cX2_treeLinks 25 = .ok (.iload 4, 2) := by decide +kernel
theorem dX2_treeLinks_27 : decode cX2_treeLinks 27 = .ok (.ishr, 1) := by decide +kernel
theorem dX2_treeLinks_28 : decode cX2_treeLinks 28 = .ok (.iconst 1, 1) := by decide +kernel
theorem dX2_treeLinks_29 : decode cX2_treeLinks 29 = .ok (.iand, 1) := by decide +kernel
theorem dX2_treeLinks_30 : decode cX2_treeLinks 30 = .ok (.ifCond .eq 17, 3) := by decide +kernel
theorem dX2_treeLinks_33 : decode cX2_treeLinks 33 = .ok (.iload_n 3, 1) := by decide +kernel
theorem dX2_treeLinks_34 : decode cX2_treeLinks 34 = .ok (.aload_n 0, 1) := by decide +kernel
theorem dX2_treeLinks_35 : decode cX2_treeLinks 35 = .ok (.getfield 27, 3) := by decide +kernel
theorem dX2_treeLinks_38 : decode cX2_treeLinks 38 = .ok (.iload_n 1, 1) := by decide +kernel
theorem dX2_treeLinks_39 : decode cX2_treeLinks 39 = .ok (.iload 4, 2) := by decide +kernel
theorem dX2_treeLinks_41 : decode cX2_treeLinks 41 = .ok (.invokestatic 73, 3) := by decide +kernel
theorem dX2_treeLinks_44 : decode cX2_treeLinks 44 = .ok (.iaload, 1) := by decide +kernel
theorem dX2_treeLinks_45 : decode cX2_treeLinks 45 = .ok (.ior, 1) := by decide +kernel
theorem dX2_treeLinks_46 : decode cX2_treeLinks 46 = .ok (.istore_n 3, 1) := by decide +kernel
theorem dX2_treeLinks_47 : decode cX2_treeLinks 47 = .ok (.iinc 4 1, 3) := by decide +kernel
theorem dX2_treeLinks_50 : decode cX2_treeLinks 50 = .ok (.goto (-35), 3) := by decide +kernel
theorem dX2_treeLinks_53 : decode cX2_treeLinks 53 = .ok (.iload_n 3, 1) := by decide +kernel
theorem dX2_treeLinks_54 : decode cX2_treeLinks 54 = .ok (.ireturn, 1) := by decide +kernel
theorem dX3_init_0 : decode cX3_init 0 = .ok (.aload_n 0, 1) := by decide +kernel
theorem dX3_init_1 : decode cX3_init 1 = .ok (.invokespecial 3, 3) := by decide +kernel
theorem dX3_init_4 : decode cX3_init 4 = .ok (.aload_n 0, 1) := by decide +kernel
theorem dX3_init_5 : decode cX3_init 5 = .ok (.bipush 16, 2) := by decide +kernel
theorem dX3_init_7 : decode cX3_init 7 = .ok (.putfield 9, 3) := by decide +kernel
theorem dX3_init_10 : decode cX3_init 10 = .ok (.aload_n 0, 1) := by decide +kernel
theorem dX3_init_11 : decode cX3_init 11 = .ok (.iconst 3, 1) := by decide +kernel
theorem dX3_init_12 : decode cX3_init 12 = .ok (.putfield 15, 3) := by decide +kernel
theorem dX3_init_15 : decode cX3_init 15 = .ok (.aload_n 0, 1) := by decide +kernel
theorem dX3_init_16 : decode cX3_init 16 = .ok (.iconst 1, 1) := by decide +kernel
theorem dX3_init_17 : decode cX3_init 17 = .ok (.putfield 18, 3) := by decide +kernel
theorem dX3_init_20 : decode cX3_init 20 = .ok (.aload_n 0, 1) := by decide +kernel
theorem dX3_init_21 : decode cX3_init 21 = .ok (.bipush 60, 2) := by decide +kernel
theorem dX3_init_23 : decode cX3_init 23 = .ok (.newarray .long, 2) := by decide +kernel
theorem dX3_init_25 : decode cX3_init 25 = .ok (.putfield 21, 3) := by decide +kernel
theorem dX3_init_28 : decode cX3_init 28 = .ok (.return_, 1) := by decide +kernel
theorem dX3_allows_0 : decode cX3_allows 0 = .ok (.iload_n 1, 1) := by decide +kernel
theorem dX3_allows_1 : decode cX3_allows 1 = .ok (.tableswitch 71 0 2 #[27, 45, 61], 27) := by decide +kernel
theorem dX3_allows_28 : decode cX3_allows 28 = .ok (.iload_n 2, 1) := by decide +kernel
theorem dX3_allows_29 : decode cX3_allows 29 = .ok (.bipush 8, 2) := by decide +kernel
theorem dX3_allows_31 : decode cX3_allows 31 = .ok (.if_icmp .lt 13, 3) := by decide +kernel
theorem dX3_allows_34 : decode cX3_allows 34 = .ok (.iload_n 2, 1) := by decide +kernel
theorem dX3_allows_35 : decode cX3_allows 35 = .ok (.bipush 40, 2) := by decide +kernel
theorem dX3_allows_37 : decode cX3_allows 37 = .ok (.if_icmp .gt 7, 3) := by decide +kernel
theorem dX3_allows_40 : decode cX3_allows 40 = .ok (.iconst 1, 1) := by decide +kernel
theorem dX3_allows_41 : decode cX3_allows 41 = .ok (.goto 4, 3) := by decide +kernel
theorem dX3_allows_44 : decode cX3_allows 44 = .ok (.iconst 0, 1) := by decide +kernel
theorem dX3_allows_45 : decode cX3_allows 45 = .ok (.ireturn, 1) := by decide +kernel
theorem dX3_allows_46 : decode cX3_allows 46 = .ok (.iload_n 2, 1) := by decide +kernel
theorem dX3_allows_47 : decode cX3_allows 47 = .ok (.iconst 1, 1) := by decide +kernel
theorem dX3_allows_48 : decode cX3_allows 48 = .ok (.if_icmp .lt 12, 3) := by decide +kernel
theorem dX3_allows_51 : decode cX3_allows 51 = .ok (.iload_n 2, 1) := by decide +kernel
theorem dX3_allows_52 : decode cX3_allows 52 = .ok (.iconst 4, 1) := by decide +kernel
theorem dX3_allows_53 : decode cX3_allows 53 = .ok (.if_icmp .gt 7, 3) := by decide +kernel
theorem dX3_allows_56 : decode cX3_allows 56 = .ok (.iconst 1, 1) := by decide +kernel
theorem dX3_allows_57 : decode cX3_allows 57 = .ok (.goto 4, 3) := by decide +kernel
theorem dX3_allows_60 : decode cX3_allows 60 = .ok (.iconst 0, 1) := by decide +kernel
theorem dX3_allows_61 : decode cX3_allows 61 = .ok (.ireturn, 1) := by decide +kernel
theorem dX3_allows_62 : decode cX3_allows 62 = .ok (.iload_n 2, 1) := by decide +kernel
theorem dX3_allows_63 : decode cX3_allows 63 = .ok (.ifCond .lt 7, 3) := by decide +kernel
theorem dX3_allows_66 : decode cX3_allows 66 = .ok (.iconst 1, 1) := by decide +kernel
theorem dX3_allows_67 : decode cX3_allows 67 = .ok (.goto 4, 3) := by decide +kernel
theorem dX3_allows_70 : decode cX3_allows 70 = .ok (.iconst 0, 1) := by decide +kernel
theorem dX3_allows_71 : decode cX3_allows 71 = .ok (.ireturn, 1) := by decide +kernel
theorem dX3_allows_72 : decode cX3_allows 72 = .ok (.iconst 0, 1) := by decide +kernel
theorem dX3_allows_73 : decode cX3_allows 73 = .ok (.ireturn, 1) := by decide +kernel
theorem dX3_setting_0 : decode cX3_setting 0 = .ok (.iload_n 1, 1) := by decide +kernel
theorem dX3_setting_1 : decode cX3_setting 1 = .ok (.ifCond .ne 10, 3) := by decide +kernel
theorem dX3_setting_4 : decode cX3_setting 4 = .ok (.aload_n 0, 1) := by decide +kernel
theorem dX3_setting_5 : decode cX3_setting 5 = .ok (.getfield 9, 3) := by decide +kernel
theorem dX3_setting_8 : decode cX3_setting 8 = .ok (.goto 19, 3) := by decide +kernel
theorem dX3_setting_11 : decode cX3_setting 11 = .ok (.iload_n 1, 1) := by decide +kernel
theorem dX3_setting_12 : decode cX3_setting 12 = .ok (.iconst 1, 1) := by decide +kernel
theorem dX3_setting_13 : decode cX3_setting 13 = .ok (.if_icmp .ne 10, 3) := by decide +kernel
theorem dX3_setting_16 : decode cX3_setting 16 = .ok (.aload_n 0, 1) := by decide +kernel
theorem dX3_setting_17 : decode cX3_setting 17 = .ok (.getfield 15, 3) := by decide +kernel
theorem dX3_setting_20 : decode cX3_setting 20 = .ok (.goto 7, 3) := by decide +kernel
theorem dX3_setting_23 : decode cX3_setting 23 = .ok (.aload_n 0, 1) := by decide +kernel
theorem dX3_setting_24 : decode cX3_setting 24 = .ok (.getfield 18, 3) := by decide +kernel
theorem dX3_setting_27 : decode cX3_setting 27 = .ok (.ireturn, 1) := by decide +kernel
theorem dX3_change_0 : decode cX3_change 0 = .ok (.iload_n 1, 1) := by decide +kernel
theorem dX3_change_1 : decode cX3_change 1 = .ok (.ifCond .ne 11, 3) := by decide +kernel
theorem dX3_change_4 : decode cX3_change 4 = .ok (.aload_n 0, 1) := by decide +kernel
theorem dX3_change_5 : decode cX3_change 5 = .ok (.iload_n 2, 1) := by decide +kernel
theorem dX3_change_6 : decode cX3_change 6 = .ok (.putfield 9, 3) := by decide +kernel
theorem dX3_change_9 : decode cX3_change 9 = .ok (.goto 21, 3) := by decide +kernel
theorem dX3_change_12 : decode cX3_change 12 = .ok (.iload_n 1, 1) := by decide +kernel
theorem dX3_change_13 : decode cX3_change 13 = .ok (.iconst 1, 1) := by decide +kernel
theorem dX3_change_14 : decode cX3_change 14 = .ok (.if_icmp .ne 11, 3) := by decide +kernel
theorem dX3_change_17 : decode cX3_change 17 = .ok (.aload_n 0, 1) := by decide +kernel
theorem dX3_change_18 : decode cX3_change 18 = .ok (.iload_n 2, 1) := by decide +kernel
theorem dX3_change_19 : decode cX3_change 19 = .ok (.putfield 15, 3) := by decide +kernel
theorem dX3_change_22 : decode cX3_change 22 = .ok (.goto 8, 3) := by decide +kernel
theorem dX3_change_25 : decode cX3_change 25 = .ok (.aload_n 0, 1) := by decide +kernel
theorem dX3_change_26 : decode cX3_change 26 = .ok (.iload_n 2, 1) := by decide +kernel
theorem dX3_change_27 : decode cX3_change 27 = .ok (.putfield 18, 3) := by decide +kernel
theorem dX3_change_30 : decode cX3_change 30 = .ok (.return_, 1) := by decide +kernel
set_option maxRecDepth 20000 in
theorem ggX3_ofLink_X5_isVariant : GoodIn wsX3_ofLink wsX5_isVariant := goodIn_r _ [4] (by decide +kernel) (by decide +kernel)
set_option maxRecDepth 20000 in
theorem gX3_ofLink_X5_isVariant_n25 : GoodIn wsX3_ofLink (wsX5_isVariant) := ggX3_ofLink_X5_isVariant
theorem dX3_ofLink_0 : decode cX3_ofLink 0 = .ok (.iload_n 2, 1) := by decide +kernel
theorem dX3_ofLink_1 : decode cX3_ofLink 1 = .ok (.invokestatic 25, 3) := by decide +kernel
theorem dX3_ofLink_4 : decode cX3_ofLink 4 = .ok (.ifCond .eq 27, 3) := by decide +kernel
theorem dX3_ofLink_7 : decode cX3_ofLink 7 = .ok (.iload_n 1, 1) := by decide +kernel
theorem dX3_ofLink_8 : decode cX3_ofLink 8 = .ok (.ifCond .lt 23, 3) := by decide +kernel
theorem dX3_ofLink_11 : decode cX3_ofLink 11 = .ok (.iload_n 1, 1) := by decide +kernel
theorem dX3_ofLink_12 : decode cX3_ofLink 12 = .ok (.bipush 16, 2) := by decide +kernel
theorem dX3_ofLink_14 : decode cX3_ofLink 14 = .ok (.if_icmp .ge 17, 3) := by decide +kernel
theorem dX3_ofLink_17 : decode cX3_ofLink 17 = .ok (.aload_n 0, 1) := by decide +kernel
theorem dX3_ofLink_18 : decode cX3_ofLink 18 = .ok (.getfield 21, 3) := by decide +kernel
theorem dX3_ofLink_21 : decode cX3_ofLink 21 = .ok (.bipush 20, 2) := by decide +kernel
theorem dX3_ofLink_23 : decode cX3_ofLink 23 = .ok (.iload_n 2, 1) := by decide +kernel
theorem dX3_ofLink_24 : decode cX3_ofLink 24 = .ok (.imul, 1) := by decide +kernel
theorem dX3_ofLink_25 : decode cX3_ofLink 25 = .ok (.iload_n 1, 1) := by decide +kernel
theorem dX3_ofLink_26 : decode cX3_ofLink 26 = .ok (.iadd, 1) := by decide +kernel
theorem dX3_ofLink_27 : decode cX3_ofLink 27 = .ok (.laload, 1) := by decide +kernel
theorem dX3_ofLink_28 : decode cX3_ofLink 28 = .ok (.goto 4, 3) := by decide +kernel
theorem dX3_ofLink_31 : decode cX3_ofLink 31 = .ok (.lconst 0, 1) := by decide +kernel
theorem dX3_ofLink_32 : decode cX3_ofLink 32 = .ok (.lreturn, 1) := by decide +kernel
set_option maxRecDepth 20000 in
theorem ggX3_ofBundle_X5_isVariant : GoodIn wsX3_ofBundle wsX5_isVariant := goodIn_r _ [4] (by decide +kernel) (by decide +kernel)
set_option maxRecDepth 20000 in
theorem gX3_ofBundle_X5_isVariant_n25 : GoodIn wsX3_ofBundle (wsX5_isVariant) := ggX3_ofBundle_X5_isVariant
set_option maxRecDepth 20000 in
theorem ggX3_ofBundle_X5_isPlace : GoodIn wsX3_ofBundle wsX5_isPlace := goodIn_r _ [6] (by decide +kernel) (by decide +kernel)
set_option maxRecDepth 20000 in
theorem gX3_ofBundle_X5_isPlace_n29 : GoodIn wsX3_ofBundle (wsX5_isPlace) := ggX3_ofBundle_X5_isPlace
theorem dX3_ofBundle_0 : decode cX3_ofBundle 0 = .ok (.iload_n 2, 1) := by decide +kernel
theorem dX3_ofBundle_1 : decode cX3_ofBundle 1 = .ok (.invokestatic 25, 3) := by decide +kernel
theorem dX3_ofBundle_4 : decode cX3_ofBundle 4 = .ok (.ifCond .eq 27, 3) := by decide +kernel
theorem dX3_ofBundle_7 : decode cX3_ofBundle 7 = .ok (.iload_n 1, 1) := by decide +kernel
theorem dX3_ofBundle_8 : decode cX3_ofBundle 8 = .ok (.invokestatic 29, 3) := by decide +kernel
theorem dX3_ofBundle_11 : decode cX3_ofBundle 11 = .ok (.ifCond .eq 20, 3) := by decide +kernel
theorem dX3_ofBundle_14 : decode cX3_ofBundle 14 = .ok (.aload_n 0, 1) := by decide +kernel
theorem dX3_ofBundle_15 : decode cX3_ofBundle 15 = .ok (.getfield 21, 3) := by decide +kernel
theorem dX3_ofBundle_18 : decode cX3_ofBundle 18 = .ok (.bipush 20, 2) := by decide +kernel
theorem dX3_ofBundle_20 : decode cX3_ofBundle 20 = .ok (.iload_n 2, 1) := by decide +kernel
theorem dX3_ofBundle_21 : decode cX3_ofBundle 21 = .ok (.imul, 1) := by decide +kernel
theorem dX3_ofBundle_22 : decode cX3_ofBundle 22 = .ok (.bipush 16, 2) := by decide +kernel
theorem dX3_ofBundle_24 : decode cX3_ofBundle 24 = .ok (.iadd, 1) := by decide +kernel
theorem dX3_ofBundle_25 : decode cX3_ofBundle 25 = .ok (.iload_n 1, 1) := by decide +kernel
theorem dX3_ofBundle_26 : decode cX3_ofBundle 26 = .ok (.iadd, 1) := by decide +kernel
theorem dX3_ofBundle_27 : decode cX3_ofBundle 27 = .ok (.laload, 1) := by decide +kernel
theorem dX3_ofBundle_28 : decode cX3_ofBundle 28 = .ok (.goto 4, 3) := by decide +kernel
theorem dX3_ofBundle_31 : decode cX3_ofBundle 31 = .ok (.lconst 0, 1) := by decide +kernel
theorem dX3_ofBundle_32 : decode cX3_ofBundle 32 = .ok (.lreturn, 1) := by decide +kernel
set_option maxRecDepth 20000 in
theorem ggX3_drawAll_X3_drawMark : GoodIn wsX3_drawAll wsX3_drawMark := goodIn_r _ [8, 9, 10, 11, 12, 7, 13, 14, 2, 15, 16, 17, 18, 19, 20, 21, 22, 23] (by decide +kernel) (by decide +kernel)
set_option maxRecDepth 20000 in
theorem gX3_drawAll_X3_drawMark : GoodIn wsX3_drawAll (wsV RX3 36 RX3 yX3_drawMark wsX3_drawMark) := goodIn_app (goodIn_of _ (by decide +kernel)) ggX3_drawAll_X3_drawMark
theorem dX3_drawAll_0 : decode cX3_drawAll 0 = .ok (.aload_n 0, 1) := by decide +kernel
theorem dX3_drawAll_1 : decode cX3_drawAll 1 = .ok (.aload_n 0, 1) := by decide +kernel
theorem dX3_drawAll_2 : decode cX3_drawAll 2 = .ok (.getfield 18, 3) := by decide +kernel
theorem dX3_drawAll_5 : decode cX3_drawAll 5 = .ok (.i2l, 1) := by decide +kernel
theorem dX3_drawAll_6 : decode cX3_drawAll 6 = .ok (.putfield 32, 3) := by decide +kernel
theorem dX3_drawAll_9 : decode cX3_drawAll 9 = .ok (.iconst 0, 1) := by decide +kernel
theorem dX3_drawAll_10 : decode cX3_drawAll 10 = .ok (.istore_n 2, 1) := by decide +kernel
theorem dX3_drawAll_11 : decode cX3_drawAll 11 = .ok (.iload_n 2, 1) := by decide +kernel
theorem dX3_drawAll_12 : decode cX3_drawAll 12 = .ok (.iconst 3, 1) := by decide +kernel
theorem dX3_drawAll_13 : decode cX3_drawAll 13 = .ok (.if_icmp .ge 74, 3) := by decide +kernel
theorem dX3_drawAll_16 : decode cX3_drawAll 16 = .ok (.iconst 0, 1) := by decide +kernel
theorem dX3_drawAll_17 : decode cX3_drawAll 17 = .ok (.istore_n 3, 1) := by decide +kernel
theorem dX3_drawAll_18 : decode cX3_drawAll 18 = .ok (.iload_n 3, 1) := by decide +kernel
theorem dX3_drawAll_19 : decode cX3_drawAll 19 = .ok (.iload_n 1, 1) := by decide +kernel
