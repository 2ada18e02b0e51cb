theorem dX3_drawAll_20 : decode cX3_drawAll 20 = .ok (.if_icmp .ge 30, 3) := by decide +kernel
theorem dX3_drawAll_23 : decode cX3_drawAll 23 = .ok (.iload_n 3, 1) := by decide +kernel
theorem dX3_drawAll_24 : decode cX3_drawAll 24 = .ok (.bipush 16, 2) := by decide +kernel
theorem dX3_drawAll_26 : decode cX3_drawAll 26 = .ok (.if_icmp .ge 24, 3) := by decide +kernel
theorem dX3_drawAll_29 : decode cX3_drawAll 29 = .ok (.aload_n 0, 1) := by decide +kernel
theorem dX3_drawAll_30 : decode cX3_drawAll 30 = .ok (.getfield 21, 3) := by decide +kernel
theorem dX3_drawAll_33 : decode cX3_drawAll 33 = .ok (.bipush 20, 2) := by decide +kernel
theorem dX3_drawAll_35 : decode cX3_drawAll 35 = .ok (.iload_n 2, 1) := by decide +kernel
theorem dX3_drawAll_36 : decode cX3_drawAll 36 = .ok (.imul, 1) := by decide +kernel
theorem dX3_drawAll_37 : decode cX3_drawAll 37 = .ok (.iload_n 3, 1) := by decide +kernel
theorem dX3_drawAll_38 : decode cX3_drawAll 38 = .ok (.iadd, 1) := by decide +kernel
theorem dX3_drawAll_39 : decode cX3_drawAll 39 = .ok (.aload_n 0, 1) := by decide +kernel
theorem dX3_drawAll_40 : decode cX3_drawAll 40 = .ok (.invokevirtual 36, 3) := by decide +kernel
theorem dX3_drawAll_43 : decode cX3_drawAll 43 = .ok (.lastore, 1) := by decide +kernel
theorem dX3_drawAll_44 : decode cX3_drawAll 44 = .ok (.iinc 3 1, 3) := by decide +kernel
theorem dX3_drawAll_47 : decode cX3_drawAll 47 = .ok (.goto (-29), 3) := by decide +kernel
theorem dX3_drawAll_50 : decode cX3_drawAll 50 = .ok (.iconst 0, 1) := by decide +kernel
theorem dX3_drawAll_51 : decode cX3_drawAll 51 = .ok (.istore_n 3, 1) := by decide +kernel
theorem dX3_drawAll_52 : decode cX3_drawAll 52 = .ok (.iload_n 3, 1) := by decide +kernel
theorem dX3_drawAll_53 : decode cX3_drawAll 53 = .ok (.iconst 4, 1) := by decide +kernel
theorem dX3_drawAll_54 : decode cX3_drawAll 54 = .ok (.if_icmp .ge 27, 3) := by decide +kernel
theorem dX3_drawAll_57 : decode cX3_drawAll 57 = .ok (.aload_n 0, 1) := by decide +kernel
theorem dX3_drawAll_58 : decode cX3_drawAll 58 = .ok (.getfield 21, 3) := by decide +kernel
theorem dX3_drawAll_61 : decode cX3_drawAll 61 = .ok (.bipush 20, 2) := by decide +kernel
theorem dX3_drawAll_63 : decode cX3_drawAll 63 = .ok (.iload_n 2, 1) := by decide +kernel
theorem dX3_drawAll_64 : decode cX3_drawAll 64 = .ok (.imul, 1) := by decide +kernel
theorem dX3_drawAll_65 : decode cX3_drawAll 65 = .ok (.bipush 16, 2) := by decide +kernel
theorem dX3_drawAll_67 : decode cX3_drawAll 67 = .ok (.iadd, 1) := by decide +kernel
theorem dX3_drawAll_68 : decode cX3_drawAll 68 = .ok (.iload_n 3, 1) := by decide +kernel
theorem dX3_drawAll_69 : decode cX3_drawAll 69 = .ok (.iadd, 1) := by decide +kernel
theorem dX3_drawAll_70 : decode cX3_drawAll 70 = .ok (.aload_n 0, 1) := by decide +kernel
theorem dX3_drawAll_71 : decode cX3_drawAll 71 = .ok (.invokevirtual 36, 3) := by decide +kernel
theorem dX3_drawAll_74 : decode cX3_drawAll 74 = .ok (.lastore, 1) := by decide +kernel
theorem dX3_drawAll_75 : decode cX3_drawAll 75 = .ok (.iinc 3 1, 3) := by decide +kernel
theorem dX3_drawAll_78 : decode cX3_drawAll 78 = .ok (.goto (-26), 3) := by decide +kernel
theorem dX3_drawAll_81 : decode cX3_drawAll 81 = .ok (.iinc 2 1, 3) := by decide +kernel
theorem dX3_drawAll_84 : decode cX3_drawAll 84 = .ok (.goto (-73), 3) := by decide +kernel
theorem dX3_drawAll_87 : decode cX3_drawAll 87 = .ok (.return_, 1) := by decide +kernel
set_option maxRecDepth 20000 in
theorem ggX3_drawMark_X3_drawBit : GoodIn wsX3_drawMark wsX3_drawBit := goodIn_r _ [6, 7, 8, 9, 10, 11, 12, 13, 14, 15, 16, 17] (by decide +kernel) (by decide +kernel)
set_option maxRecDepth 20000 in
theorem gX3_drawMark_X3_drawBit : GoodIn wsX3_drawMark (wsV RX3 40 RX3 yX3_drawBit wsX3_drawBit) := goodIn_app (goodIn_of _ (by decide +kernel)) ggX3_drawMark_X3_drawBit
theorem dX3_drawMark_0 : decode cX3_drawMark 0 = .ok (.lconst 0, 1) := by decide +kernel
theorem dX3_drawMark_1 : decode cX3_drawMark 1 = .ok (.lstore_n 1, 1) := by decide +kernel
theorem dX3_drawMark_2 : decode cX3_drawMark 2 = .ok (.iconst 0, 1) := by decide +kernel
theorem dX3_drawMark_3 : decode cX3_drawMark 3 = .ok (.istore_n 3, 1) := by decide +kernel
theorem dX3_drawMark_4 : decode cX3_drawMark 4 = .ok (.iload_n 3, 1) := by decide +kernel
theorem dX3_drawMark_5 : decode cX3_drawMark 5 = .ok (.aload_n 0, 1) := by decide +kernel
theorem dX3_drawMark_6 : decode cX3_drawMark 6 = .ok (.getfield 15, 3) := by decide +kernel
theorem dX3_drawMark_9 : decode cX3_drawMark 9 = .ok (.if_icmp .ge 18, 3) := by decide +kernel
theorem dX3_drawMark_12 : decode cX3_drawMark 12 = .ok (.lload_n 1, 1) := by decide +kernel
theorem dX3_drawMark_13 : decode cX3_drawMark 13 = .ok (.lconst 1, 1) := by decide +kernel
theorem dX3_drawMark_14 : decode cX3_drawMark 14 = .ok (.aload_n 0, 1) := by decide +kernel
theorem dX3_drawMark_15 : decode cX3_drawMark 15 = .ok (.invokevirtual 40, 3) := by decide +kernel
theorem dX3_drawMark_18 : decode cX3_drawMark 18 = .ok (.lshl, 1) := by decide +kernel
theorem dX3_drawMark_19 : decode cX3_drawMark 19 = .ok (.lor, 1) := by decide +kernel
theorem dX3_drawMark_20 : decode cX3_drawMark 20 = .ok (.lstore_n 1, 1) := by decide +kernel
theorem dX3_drawMark_21 : decode cX3_drawMark 21 = .ok (.iinc 3 1, 3) := by decide +kernel
theorem dX3_drawMark_24 : decode cX3_drawMark 24 = .ok (.goto (-20), 3) := by decide +kernel
theorem dX3_drawMark_27 : decode cX3_drawMark 27 = .ok (.lload_n 1, 1) := by decide +kernel
theorem dX3_drawMark_28 : decode cX3_drawMark 28 = .ok (.lreturn, 1) := by decide +kernel
theorem dX3_drawBit_0 : decode cX3_drawBit 0 = .ok (.aload_n 0, 1) := by decide +kernel
theorem dX3_drawBit_1 : decode cX3_drawBit 1 = .ok (.ldc2_w 44, 3) := by decide +kernel
theorem dX3_drawBit_4 : decode cX3_drawBit 4 = .ok (.aload_n 0, 1) := by decide +kernel
theorem dX3_drawBit_5 : decode cX3_drawBit 5 = .ok (.getfield 32, 3) := by decide +kernel
theorem dX3_drawBit_8 : decode cX3_drawBit 8 = .ok (.lmul, 1) := by decide +kernel
theorem dX3_drawBit_9 : decode cX3_drawBit 9 = .ok (.ldc2_w 46, 3) := by decide +kernel
theorem dX3_drawBit_12 : decode cX3_drawBit 12 = .ok (.ladd, 1) := by decide +kernel
theorem dX3_drawBit_13 : decode cX3_drawBit 13 = .ok (.ldc2_w 48, 3) := by decide +kernel
theorem dX3_drawBit_16 : decode cX3_drawBit 16 = .ok (.lrem, 1) := by decide +kernel
theorem dX3_drawBit_17 : decode cX3_drawBit 17 = .ok (.putfield 32, 3) := by decide +kernel
theorem dX3_drawBit_20 : decode cX3_drawBit 20 = .ok (.aload_n 0, 1) := by decide +kernel
theorem dX3_drawBit_21 : decode cX3_drawBit 21 = .ok (.getfield 9, 3) := by decide +kernel
theorem dX3_drawBit_24 : decode cX3_drawBit 24 = .ok (.ifCond .le 21, 3) := by decide +kernel
theorem dX3_drawBit_27 : decode cX3_drawBit 27 = .ok (.aload_n 0, 1) := by decide +kernel
theorem dX3_drawBit_28 : decode cX3_drawBit 28 = .ok (.getfield 32, 3) := by decide +kernel
theorem dX3_drawBit_31 : decode cX3_drawBit 31 = .ok (.ldc2_w 50, 3) := by decide +kernel
theorem dX3_drawBit_34 : decode cX3_drawBit 34 = .ok (.ldiv, 1) := by decide +kernel
theorem dX3_drawBit_35 : decode cX3_drawBit 35 = .ok (.aload_n 0, 1) := by decide +kernel
theorem dX3_drawBit_36 : decode cX3_drawBit 36 = .ok (.getfield 9, 3) := by decide +kernel
theorem dX3_drawBit_39 : decode cX3_drawBit 39 = .ok (.i2l, 1) := by decide +kernel
theorem dX3_drawBit_40 : decode cX3_drawBit 40 = .ok (.lrem, 1) := by decide +kernel
theorem dX3_drawBit_41 : decode cX3_drawBit 41 = .ok (.l2i, 1) := by decide +kernel
theorem dX3_drawBit_42 : decode cX3_drawBit 42 = .ok (.goto 4, 3) := by decide +kernel
theorem dX3_drawBit_45 : decode cX3_drawBit 45 = .ok (.iconst 0, 1) := by decide +kernel
theorem dX3_drawBit_46 : decode cX3_drawBit 46 = .ok (.ireturn, 1) := by decide +kernel
set_option maxRecDepth 20000 in
theorem ggX3_oddsAbove_X3_reduced : GoodIn wsX3_oddsAbove wsX3_reduced := goodIn_r _ [5, 6, 12, 13, 14, 15, 16] (by decide +kernel) (by decide +kernel)
set_option maxRecDepth 20000 in
theorem gX3_oddsAbove_X3_reduced : GoodIn wsX3_oddsAbove (wsV RX3 52 RX3 yX3_reduced wsX3_reduced) := goodIn_app (goodIn_of _ (by decide +kernel)) ggX3_oddsAbove_X3_reduced
set_option maxRecDepth 20000 in
theorem ggX3_oddsAbove_X3_power : GoodIn wsX3_oddsAbove wsX3_power := goodIn_r _ [10, 11, 12, 13, 14, 15, 16] (by decide +kernel) (by decide +kernel)
set_option maxRecDepth 20000 in
theorem gX3_oddsAbove_X3_power : GoodIn wsX3_oddsAbove (wsV RX3 56 RX3 yX3_power wsX3_power) := goodIn_app (goodIn_of _ (by decide +kernel)) ggX3_oddsAbove_X3_power
theorem dX3_oddsAbove_0 : decode cX3_oddsAbove 0 = .ok (.aload_n 0, 1) := by decide +kernel
theorem dX3_oddsAbove_1 : decode cX3_oddsAbove 1 = .ok (.aload_n 0, 1) := by decide +kernel
theorem dX3_oddsAbove_2 : decode cX3_oddsAbove 2 = .ok (.iload_n 1, 1) := by decide +kernel
theorem dX3_oddsAbove_3 : decode cX3_oddsAbove 3 = .ok (.iload_n 1, 1) := by decide +kernel
theorem dX3_oddsAbove_4 : decode cX3_oddsAbove 4 = .ok (.invokevirtual 52, 3) := by decide +kernel
theorem dX3_oddsAbove_7 : decode cX3_oddsAbove 7 = .ok (.invokevirtual 56, 3) := by decide +kernel
theorem dX3_oddsAbove_10 : decode cX3_oddsAbove 10 = .ok (.ireturn, 1) := by decide +kernel
set_option maxRecDepth 20000 in
theorem ggX3_oddsBelow_X3_reduced : GoodIn wsX3_oddsBelow wsX3_reduced := goodIn_r _ [6, 1, 12, 13, 14, 15, 16] (by decide +kernel) (by decide +kernel)
set_option maxRecDepth 20000 in
theorem gX3_oddsBelow_X3_reduced : GoodIn wsX3_oddsBelow (wsV RX3 52 RX3 yX3_reduced wsX3_reduced) := goodIn_app (goodIn_of _ (by decide +kernel)) ggX3_oddsBelow_X3_reduced
set_option maxRecDepth 20000 in
theorem ggX3_oddsBelow_X3_power : GoodIn wsX3_oddsBelow wsX3_power := goodIn_r _ [10, 11, 12, 13, 14, 15, 16] (by decide +kernel) (by decide +kernel)
set_option maxRecDepth 20000 in
theorem gX3_oddsBelow_X3_power : GoodIn wsX3_oddsBelow (wsV RX3 56 RX3 yX3_power wsX3_power) := goodIn_app (goodIn_of _ (by decide +kernel)) ggX3_oddsBelow_X3_power
theorem dX3_oddsBelow_0 : decode cX3_oddsBelow 0 = .ok (.aload_n 0, 1) := by decide +kernel
theorem dX3_oddsBelow_1 : decode cX3_oddsBelow 1 = .ok (.aload_n 0, 1) := by decide +kernel
theorem dX3_oddsBelow_2 : decode cX3_oddsBelow 2 = .ok (.aload_n 0, 1) := by decide +kernel
theorem dX3_oddsBelow_3 : decode cX3_oddsBelow 3 = .ok (.getfield 9, 3) := by decide +kernel
theorem dX3_oddsBelow_6 : decode cX3_oddsBelow 6 = .ok (.iload_n 1, 1) := by decide +kernel
theorem dX3_oddsBelow_7 : decode cX3_oddsBelow 7 = .ok (.invokevirtual 52, 3) := by decide +kernel
theorem dX3_oddsBelow_10 : decode cX3_oddsBelow 10 = .ok (.invokevirtual 56, 3) := by decide +kernel
theorem dX3_oddsBelow_13 : decode cX3_oddsBelow 13 = .ok (.ireturn, 1) := by decide +kernel
theorem dX3_reduced_0 : decode cX3_reduced 0 = .ok (.aload_n 0, 1) := by decide +kernel
theorem dX3_reduced_1 : decode cX3_reduced 1 = .ok (.getfield 9, 3) := by decide +kernel
theorem dX3_reduced_4 : decode cX3_reduced 4 = .ok (.istore_n 3, 1) := by decide +kernel
theorem dX3_reduced_5 : decode cX3_reduced 5 = .ok (.iload_n 3, 1) := by decide +kernel
theorem dX3_reduced_6 : decode cX3_reduced 6 = .ok (.iconst 1, 1) := by decide +kernel
theorem dX3_reduced_7 : decode cX3_reduced 7 = .ok (.if_icmp .le 28, 3) := by decide +kernel
theorem dX3_reduced_10 : decode cX3_reduced 10 = .ok (.iload_n 2, 1) := by decide +kernel
theorem dX3_reduced_11 : decode cX3_reduced 11 = .ok (.iload_n 3, 1) := by decide +kernel
theorem dX3_reduced_12 : decode cX3_reduced 12 = .ok (.irem, 1) := by decide +kernel
theorem dX3_reduced_13 : decode cX3_reduced 13 = .ok (.ifCond .ne 16, 3) := by decide +kernel
theorem dX3_reduced_16 : decode cX3_reduced 16 = .ok (.aload_n 0, 1) := by decide +kernel
theorem dX3_reduced_17 : decode cX3_reduced 17 = .ok (.getfield 9, 3) := by decide +kernel
theorem dX3_reduced_20 : decode cX3_reduced 20 = .ok (.iload_n 3, 1) := by decide +kernel
theorem dX3_reduced_21 : decode cX3_reduced 21 = .ok (.irem, 1) := by decide +kernel
theorem dX3_reduced_22 : decode cX3_reduced 22 = .ok (.ifCond .ne 7, 3) := by decide +kernel
theorem dX3_reduced_25 : decode cX3_reduced 25 = .ok (.iload_n 1, 1) := by decide +kernel
theorem dX3_reduced_26 : decode cX3_reduced 26 = .ok (.iload_n 3, 1) := by decide +kernel
theorem dX3_reduced_27 : decode cX3_reduced 27 = .ok (.idiv, 1) := by decide +kernel
theorem dX3_reduced_28 : decode cX3_reduced 28 = .ok (.ireturn, 1) := by decide +kernel
theorem dX3_reduced_29 : decode cX3_reduced 29 = .ok (.iinc 3 (-1), 3) := by decide +kernel
theorem dX3_reduced_32 : decode cX3_reduced 32 = .ok (.goto (-27), 3) := by decide +kernel
theorem dX3_reduced_35 : decode cX3_reduced 35 = .ok (.iload_n 1, 1) := by decide +kernel
theorem dX3_reduced_36 : decode cX3_reduced 36 = .ok (.ireturn, 1) := by decide +kernel
theorem dX3_power_0 : decode cX3_power 0 = .ok (.iconst 1, 1) := by decide +kernel
theorem dX3_power_1 : decode cX3_power 1 = .ok (.istore_n 2, 1) := by decide +kernel
theorem dX3_power_2 : decode cX3_power 2 = .ok (.iconst 0, 1) := by decide +kernel
theorem dX3_power_3 : decode cX3_power 3 = .ok (.istore_n 3, 1) := by decide +kernel
theorem dX3_power_4 : decode cX3_power 4 = .ok (.iload_n 3, 1) := by decide +kernel
theorem dX3_power_5 : decode cX3_power 5 = .ok (.aload_n 0, 1) := by decide +kernel
theorem dX3_power_6 : decode cX3_power 6 = .ok (.getfield 15, 3) := by decide +kernel
theorem dX3_power_9 : decode cX3_power 9 = .ok (.if_icmp .ge 13, 3) := by decide +kernel
theorem dX3_power_12 : decode cX3_power 12 = .ok (.iload_n 2, 1) := by decide +kernel
theorem dX3_power_13 : decode cX3_power 13 = .ok (.iload_n 1, 1) := by decide +kernel
theorem dX3_power_14 : decode cX3_power 14 = .ok (.imul, 1) := by decide +kernel
theorem dX3_power_15 : decode cX3_power 15 = .ok (.istore_n 2, 1) := by decide +kernel
theorem dX3_power_16 : decode cX3_power 16 = .ok (.iinc 3 1, 3) := by decide +kernel
theorem dX3_power_19 : decode cX3_power 19 = .ok (.goto (-15), 3) := by decide +kernel
theorem dX3_power_22 : decode cX3_power 22 = .ok (.iload_n 2, 1) := by decide +kernel
theorem dX3_power_23 : decode cX3_power 23 = .ok (.ireturn, 1) := by decide +kernel
theorem dX4_init_0 : decode cX4_init 0 = .ok (.aload_n 0, 1) := by decide +kernel
theorem dX4_init_1 : decode cX4_init 1 = .ok (.invokespecial 3, 3) := by decide +kernel
theorem dX4_init_4 : decode cX4_init 4 = .ok (.aload_n 0, 1) := by decide +kernel
theorem dX4_init_5 : decode cX4_init 5 = .ok (.bipush 25, 2) := by decide +kernel
theorem dX4_init_7 : decode cX4_init 7 = .ok (.newarray .int, 2) := by decide +kernel
theorem dX4_init_9 : decode cX4_init 9 = .ok (.putfield 11, 3) := by decide +kernel
theorem dX4_init_12 : decode cX4_init 12 = .ok (.return_, 1) := by decide +kernel
theorem dX4_size_0 : decode cX4_size 0 = .ok (.aload_n 0, 1) := by decide +kernel
theorem dX4_size_1 : decode cX4_size 1 = .ok (.getfield 15, 3) := by decide +kernel
theorem dX4_size_4 : decode cX4_size 4 = .ok (.ireturn, 1) := by decide +kernel
theorem dX4_isFull_0 : decode cX4_isFull 0 = .ok (.aload_n 0, 1) := by decide +kernel
theorem dX4_isFull_1 : decode cX4_isFull 1 = .ok (.getfield 15, 3) := by decide +kernel
theorem dX4_isFull_4 : decode cX4_isFull 4 = .ok (.bipush 25, 2) := by decide +kernel
theorem dX4_isFull_6 : decode cX4_isFull 6 = .ok (.if_icmp .lt 7, 3) := by decide +kernel
theorem dX4_isFull_9 : decode cX4_isFull 9 = .ok (.iconst 1, 1) := by decide +kernel
theorem dX4_isFull_10 : decode cX4_isFull 10 = .ok (.goto 4, 3) := by decide +kernel
theorem dX4_isFull_13 : decode cX4_isFull 13 = .ok (.iconst 0, 1) := by decide +kernel
theorem dX4_isFull_14 : decode cX4_isFull 14 = .ok (.ireturn, 1) := by decide +kernel
theorem dX4_append_0 : decode cX4_append 0 = .ok (.aload_n 0, 1) := by decide +kernel
theorem dX4_append_1 : decode cX4_append 1 = .ok (.getfield 15, 3) := by decide +kernel
theorem dX4_append_4 : decode cX4_append 4 = .ok (.bipush 25, 2) := by decide +kernel
theorem dX4_append_6 : decode cX4_append 6 = .ok (.if_icmp .ge 23, 3) := by decide +kernel
theorem dX4_append_9 : decode cX4_append 9 = .ok (.aload_n 0, 1) := by decide +kernel
theorem dX4_append_10 : decode cX4_append 10 = .ok (.getfield 11, 3) := by decide +kernel
theorem dX4_append_13 : decode cX4_append 13 = .ok (.aload_n 0, 1) := by decide +kernel
theorem dX4_append_14 : decode cX4_append 14 = .ok (.getfield 15, 3) := by decide +kernel
theorem dX4_append_17 : decode cX4_append 17 = .ok (.iload_n 1, 1) := by decide +kernel
theorem dX4_append_18 : decode cX4_append 18 = .ok (.iastore, 1) := by decide +kernel
theorem dX4_append_19 : decode cX4_append 19 = .ok (.aload_n 0, 1) := by decide +kernel
theorem dX4_append_20 : decode cX4_append 20 = .ok (.dup, 1) := by decide +kernel
theorem dX4_append_21 : decode cX4_append 21 = .ok (.getfield 15, 3) := by decide +kernel
theorem dX4_append_24 : decode cX4_append 24 = .ok (.iconst 1, 1) := by decide +kernel
theorem dX4_append_25 : decode cX4_append 25 = .ok (.iadd, 1) := by decide +kernel
theorem dX4_append_26 : decode cX4_append 26 = .ok (.putfield 15, 3) := by decide +kernel
theorem dX4_append_29 : decode cX4_append 29 = .ok (.return_, 1) := by decide +kernel
theorem dX4_clear_0 : decode cX4_clear 0 = .ok (.aload_n 0, 1) := by decide +kernel
theorem dX4_clear_1 : decode cX4_clear 1 = .ok (.iconst 0, 1) := by decide +kernel
theorem dX4_clear_2 : decode cX4_clear 2 = .ok (.putfield 15, 3) := by decide +kernel
theorem dX4_clear_5 : decode cX4_clear 5 = .ok (.return_, 1) := by decide +kernel
theorem dX4_codeAt_0 : decode cX4_codeAt 0 = .ok (.iload_n 1, 1) := by decide +kernel
theorem dX4_codeAt_1 : decode cX4_codeAt 1 = .ok (.ifCond .lt 20, 3) := by decide +kernel
theorem dX4_codeAt_4 : decode cX4_codeAt 4 = .ok (.iload_n 1, 1) := by decide +kernel
theorem dX4_codeAt_5 : decode cX4_codeAt 5 = .ok (.aload_n 0, 1) := by decide +kernel
theorem dX4_codeAt_6 : decode cX4_codeAt 6 = .ok (.getfield 15, 3) := by decide +kernel
theorem dX4_codeAt_9 : decode cX4_codeAt 9 = .ok (.if_icmp .ge 12, 3) := by decide +kernel
theorem dX4_codeAt_12 : decode cX4_codeAt 12 = .ok (.aload_n 0, 1) := by decide +kernel
theorem dX4_codeAt_13 : decode cX4_codeAt 13 = .ok (.getfield 11, 3) := by decide +kernel
theorem dX4_codeAt_16 : decode cX4_codeAt 16 = .ok (.iload_n 1, 1) := by decide +kernel
theorem dX4_codeAt_17 : decode cX4_codeAt 17 = .ok (.iaload, 1) := by decide +kernel
theorem dX4_codeAt_18 : decode cX4_codeAt 18 = .ok (.goto 4, 3) := by decide +kernel
theorem dX4_codeAt_21 : decode cX4_codeAt 21 = .ok (.iconst 0, 1) := by decide +kernel
theorem dX4_codeAt_22 : decode cX4_codeAt 22 = .ok (.ireturn, 1) := by decide +kernel
set_option maxRecDepth 20000 in
theorem ggX4_digitAt_X4_codeAt : GoodIn wsX4_digitAt wsX4_codeAt := goodIn_r _ [5, 6, 7, 8, 9] (by decide +kernel) (by decide +kernel)
set_option maxRecDepth 20000 in
theorem gX4_digitAt_X4_codeAt : GoodIn wsX4_digitAt (wsV RX4 19 RX4 yX4_codeAt wsX4_codeAt) := goodIn_app (goodIn_of _ (by decide +kernel)) ggX4_digitAt_X4_codeAt
theorem dX4_digitAt_0 : decode cX4_digitAt 0 = .ok (.aload_n 0, 1) := by decide +kernel
theorem dX4_digitAt_1 : decode cX4_digitAt 1 = .ok (.iload_n 1, 1) := by decide +kernel
theorem dX4_digitAt_2 : decode cX4_digitAt 2 = .ok (.invokevirtual 19, 3) := by decide +kernel
theorem dX4_digitAt_5 : decode cX4_digitAt 5 = .ok (.bipush 48, 2) := by decide +kernel
theorem dX4_digitAt_7 : decode cX4_digitAt 7 = .ok (.isub, 1) := by decide +kernel
theorem dX4_digitAt_8 : decode cX4_digitAt 8 = .ok (.ireturn, 1) := by decide +kernel
theorem dX4_pairCount_0 : decode cX4_pairCount 0 = .ok (.aload_n 0, 1) := by decide +kernel
theorem dX4_pairCount_1 : decode cX4_pairCount 1 = .ok (.getfield 15, 3) := by decide +kernel
theorem dX4_pairCount_4 : decode cX4_pairCount 4 = .ok (.iconst 1, 1) := by decide +kernel
theorem dX4_pairCount_5 : decode cX4_pairCount 5 = .ok (.isub, 1) := by decide +kernel
theorem dX4_pairCount_6 : decode cX4_pairCount 6 = .ok (.iconst 3, 1) := by decide +kernel
theorem dX4_pairCount_7 : decode cX4_pairCount 7 = .ok (.idiv, 1) := by decide +kernel
theorem dX4_pairCount_8 : decode cX4_pairCount 8 = .ok (.ireturn, 1) := by decide +kernel
set_option maxRecDepth 20000 in
theorem ggX4_firstOfPair_X4_digitAt : GoodIn wsX4_firstOfPair wsX4_digitAt := goodIn_r _ [5, 6, 7, 8, 4, 9, 10, 11, 12, 13] (by decide +kernel) (by decide +kernel)
set_option maxRecDepth 20000 in
theorem gX4_firstOfPair_X4_digitAt : GoodIn wsX4_firstOfPair (wsV RX4 23 RX4 yX4_digitAt wsX4_digitAt) := goodIn_app (goodIn_of _ (by decide +kernel)) ggX4_firstOfPair_X4_digitAt
theorem dX4_firstOfPair_0 : decode cX4_firstOfPair 0 = .ok (.aload_n 0, 1) := by decide +kernel
theorem dX4_firstOfPair_1 : decode cX4_firstOfPair 1 = .ok (.iconst 3, 1) := by decide +kernel
theorem dX4_firstOfPair_2 : decode cX4_firstOfPair 2 = .ok (.iload_n 1, 1) := by decide +kernel
theorem dX4_firstOfPair_3 : decode cX4_firstOfPair 3 = .ok (.imul, 1) := by decide +kernel
theorem dX4_firstOfPair_4 : decode cX4_firstOfPair 4 = .ok (.iconst 2, 1) := by decide +kernel
theorem dX4_firstOfPair_5 : decode cX4_firstOfPair 5 = .ok (.iadd, 1) := by decide +kernel
theorem dX4_firstOfPair_6 : decode cX4_firstOfPair 6 = .ok (.invokevirtual 23, 3) := by decide +kernel
theorem dX4_firstOfPair_9 : decode cX4_firstOfPair 9 = .ok (.ireturn, 1) := by decide +kernel
set_option maxRecDepth 20000 in
theorem ggX4_secondOfPair_X4_digitAt : GoodIn wsX4_secondOfPair wsX4_digitAt := goodIn_r _ [5, 6, 7, 8, 4, 9, 10, 11, 12, 13] (by decide +kernel) (by decide +kernel)
set_option maxRecDepth 20000 in
theorem gX4_secondOfPair_X4_digitAt : GoodIn wsX4_secondOfPair (wsV RX4 23 RX4 yX4_digitAt wsX4_digitAt) := goodIn_app (goodIn_of _ (by decide +kernel)) ggX4_secondOfPair_X4_digitAt
theorem dX4_secondOfPair_0 : decode cX4_secondOfPair 0 = .ok (.aload_n 0, 1) := by decide +kernel
theorem dX4_secondOfPair_1 : decode cX4_secondOfPair 1 = .ok (.iconst 3, 1) := by decide +kernel
theorem dX4_secondOfPair_2 : decode cX4_secondOfPair 2 = .ok (.iload_n 1, 1) := by decide +kernel
theorem dX4_secondOfPair_3 : decode cX4_secondOfPair 3 = .ok (.imul, 1) := by decide +kernel
theorem dX4_secondOfPair_4 : decode cX4_secondOfPair 4 = .ok (.iconst 3, 1) := by decide +kernel
theorem dX4_secondOfPair_5 : decode cX4_secondOfPair 5 = .ok (.iadd, 1) := by decide +kernel
theorem dX4_secondOfPair_6 : decode cX4_secondOfPair 6 = .ok (.invokevirtual 23, 3) := by decide +kernel
theorem dX4_secondOfPair_9 : decode cX4_secondOfPair 9 = .ok (.ireturn, 1) := by decide +kernel
set_option maxRecDepth 20000 in
theorem ggX4_isWhole_X4_firstWrong : GoodIn wsX4_isWhole wsX4_firstWrong := goodIn_r _ [6, 1, 7, 8, 9, 5, 10, 11, 12, 13, 14, 15, 16, 17, 18, 19, 20, 21, 22, 23, 24, 25, 26, 27, 28, 29, 30, 31, 32, 33, 34, 35, 36, 37] (by decide +kernel) (by decide +kernel)
set_option maxRecDepth 20000 in
theorem gX4_isWhole_X4_firstWrong : GoodIn wsX4_isWhole (wsV RX4 26 RX4 yX4_firstWrong wsX4_firstWrong) := goodIn_app (goodIn_of _ (by decide +kernel)) ggX4_isWhole_X4_firstWrong
theorem dX4_isWhole_0 : decode cX4_isWhole 0 = .ok (.aload_n 0, 1) := by decide +kernel
theorem dX4_isWhole_1 : decode cX4_isWhole 1 = .ok (.getfield 15, 3) := by decide +kernel
theorem dX4_isWhole_4 : decode cX4_isWhole 4 = .ok (.iconst 3, 1) := by decide +kernel
theorem dX4_isWhole_5 : decode cX4_isWhole 5 = .ok (.if_icmp .le 28, 3) := by decide +kernel
theorem dX4_isWhole_8 : decode cX4_isWhole 8 = .ok (.aload_n 0, 1) := by decide +kernel
theorem dX4_isWhole_9 : decode cX4_isWhole 9 = .ok (.getfield 15, 3) := by decide +kernel
theorem dX4_isWhole_12 : decode cX4_isWhole 12 = .ok (.iconst 3, 1) := by decide +kernel
theorem dX4_isWhole_13 : decode cX4_isWhole 13 = .ok (.irem, 1) := by decide +kernel
theorem dX4_isWhole_14 : decode cX4_isWhole 14 = .ok (.iconst 1, 1) := by decide +kernel
theorem dX4_isWhole_15 : decode cX4_isWhole 15 = .ok (.if_icmp .ne 18, 3) := by decide +kernel
theorem dX4_isWhole_18 : decode cX4_isWhole 18 = .ok (.aload_n 0, 1) := by decide +kernel
theorem dX4_isWhole_19 : decode cX4_isWhole 19 = .ok (.invokevirtual 26, 3) := by decide +kernel
theorem dX4_isWhole_22 : decode cX4_isWhole 22 = .ok (.aload_n 0, 1) := by decide +kernel
theorem dX4_isWhole_23 : decode cX4_isWhole 23 = .ok (.getfield 15, 3) := by decide +kernel
theorem dX4_isWhole_26 : decode cX4_isWhole 26 = .ok (.if_icmp .ne 7, 3) := by decide +kernel
theorem dX4_isWhole_29 : decode cX4_isWhole 29 = .ok (.iconst 1, 1) := by decide +kernel
theorem dX4_isWhole_30 : decode cX4_isWhole 30 = .ok (.goto 4, 3) := by decide +kernel
theorem dX4_isWhole_33 : decode cX4_isWhole 33 = .ok (.iconst 0, 1) := by decide +kernel
theorem dX4_isWhole_34 : decode cX4_isWhole 34 = .ok (.ireturn, 1) := by decide +kernel
set_option maxRecDepth 20000 in
theorem ggX4_firstWrong_X4_fits : GoodIn wsX4_firstWrong wsX4_fits := goodIn_r _ [6, 7, 8, 9, 5, 10, 11, 12, 13, 14, 1, 15, 16, 17, 18, 19, 20, 21, 22, 23, 24, 25, 26, 27, 28, 29, 30, 31, 32, 33] (by decide +kernel) (by decide +kernel)
set_option maxRecDepth 20000 in
theorem gX4_firstWrong_X4_fits : GoodIn wsX4_firstWrong (wsV RX4 30 RX4 yX4_fits wsX4_fits) := goodIn_app (goodIn_of _ (by decide +kernel)) ggX4_firstWrong_X4_fits
theorem dX4_firstWrong_0 : decode cX4_firstWrong 0 = .ok (.iconst 0, 1) := by decide +kernel
theorem dX4_firstWrong_1 : decode cX4_firstWrong 1 = .ok (.istore_n 1, 1) := by decide +kernel
theorem dX4_firstWrong_2 : decode cX4_firstWrong 2 = .ok (.iload_n 1, 1) := by decide +kernel
theorem dX4_firstWrong_3 : decode cX4_firstWrong 3 = .ok (.aload_n 0, 1) := by decide +kernel
theorem dX4_firstWrong_4 : decode cX4_firstWrong 4 = .ok (.getfield 15, 3) := by decide +kernel
theorem dX4_firstWrong_7 : decode cX4_firstWrong 7 = .ok (.if_icmp .ge 19, 3) := by decide +kernel
theorem dX4_firstWrong_10 : decode cX4_firstWrong 10 = .ok (.aload_n 0, 1) := by decide +kernel
theorem dX4_firstWrong_11 : decode cX4_firstWrong 11 = .ok (.iload_n 1, 1) := by decide +kernel
theorem dX4_firstWrong_12 : decode cX4_firstWrong 12 = .ok (.invokevirtual 30, 3) := by decide +kernel
theorem dX4_firstWrong_15 : decode cX4_firstWrong 15 = .ok (.ifCond .ne 5, 3) := by decide +kernel
theorem dX4_firstWrong_18 : decode cX4_firstWrong 18 = .ok (.iload_n 1, 1) := by decide +kernel
theorem dX4_firstWrong_19 : decode cX4_firstWrong 19 = .ok (.ireturn, 1) := by decide +kernel
theorem dX4_firstWrong_20 : decode cX4_firstWrong 20 = .ok (.iinc 1 1, 3) := by decide +kernel
theorem dX4_firstWrong_23 : decode cX4_firstWrong 23 = .ok (.goto (-21), 3) := by decide +kernel
theorem dX4_firstWrong_26 : decode cX4_firstWrong 26 = .ok (.aload_n 0, 1) := by decide +kernel
theorem dX4_firstWrong_27 : decode cX4_firstWrong 27 = .ok (.getfield 15, 3) := by decide +kernel
theorem dX4_firstWrong_30 : decode cX4_firstWrong 30 = .ok (.ireturn, 1) := by decide +kernel
set_option maxRecDepth 20000 in
theorem ggX4_fits_X4_digitAt : GoodIn wsX4_fits wsX4_digitAt := goodIn_r _ [5, 6, 7, 8, 4, 9, 10, 11, 28, 29] (by decide +kernel) (by decide +kernel)
set_option maxRecDepth 20000 in
theorem gX4_fits_X4_digitAt : GoodIn wsX4_fits (wsV RX4 23 RX4 yX4_digitAt wsX4_digitAt) := goodIn_app (goodIn_of _ (by decide +kernel)) ggX4_fits_X4_digitAt
set_option maxRecDepth 20000 in
theorem ggX4_fits_X4_codeAt : GoodIn wsX4_fits wsX4_codeAt := goodIn_r _ [9, 10, 11, 28, 29] (by decide +kernel) (by decide +kernel)
set_option maxRecDepth 20000 in
theorem gX4_fits_X4_codeAt : GoodIn wsX4_fits (wsV RX4 19 RX4 yX4_codeAt wsX4_codeAt) := goodIn_app (goodIn_of _ (by decide +kernel)) ggX4_fits_X4_codeAt
set_option maxRecDepth 20000 in
theorem ggX4_fits_X4_isNodeAt : GoodIn wsX4_fits wsX4_isNodeAt := goodIn_r _ [15, 1, 2, 3, 4, 5, 6, 7, 8, 9, 10, 11, 28, 29] (by decide +kernel) (by decide +kernel)
set_option maxRecDepth 20000 in
theorem gX4_fits_X4_isNodeAt : GoodIn wsX4_fits (wsV RX4 34 RX4 yX4_isNodeAt wsX4_isNodeAt) := goodIn_app (goodIn_of _ (by decide +kernel)) ggX4_fits_X4_isNodeAt
set_option maxRecDepth 20000 in
theorem ggX4_fits_X4_endsNewPair : GoodIn wsX4_fits wsX4_endsNewPair := goodIn_r _ [19, 1, 2, 3, 4, 5, 6, 7, 8, 9, 10, 11, 20, 21, 22, 23, 24, 25, 26, 27, 28, 29] (by decide +kernel) (by decide +kernel)
set_option maxRecDepth 20000 in
theorem gX4_fits_X4_endsNewPair : GoodIn wsX4_fits (wsV RX4 37 RX4 yX4_endsNewPair wsX4_endsNewPair) := goodIn_app (goodIn_of _ (by decide +kernel)) ggX4_fits_X4_endsNewPair
theorem dX4_fits_0 : decode cX4_fits 0 = .ok (.iload_n 1, 1) := by decide +kernel
theorem dX4_fits_1 : decode cX4_fits 1 = .ok (.ifCond .ne 28, 3) := by decide +kernel
theorem dX4_fits_4 : decode cX4_fits 4 = .ok (.aload_n 0, 1) := by decide +kernel
theorem dX4_fits_5 : decode cX4_fits 5 = .ok (.iconst 0, 1) := by decide +kernel
theorem dX4_fits_6 : decode cX4_fits 6 = .ok (.invokevirtual 23, 3) := by decide +kernel
theorem dX4_fits_9 : decode cX4_fits 9 = .ok (.iconst 2, 1) := by decide +kernel
theorem dX4_fits_10 : decode cX4_fits 10 = .ok (.if_icmp .lt 17, 3) := by decide +kernel
theorem dX4_fits_13 : decode cX4_fits 13 = .ok (.aload_n 0, 1) := by decide +kernel
theorem dX4_fits_14 : decode cX4_fits 14 = .ok (.iconst 0, 1) := by decide +kernel
theorem dX4_fits_15 : decode cX4_fits 15 = .ok (.invokevirtual 23, 3) := by decide +kernel
theorem dX4_fits_18 : decode cX4_fits 18 = .ok (.bipush 6, 2) := by decide +kernel
theorem dX4_fits_20 : decode cX4_fits 20 = .ok (.if_icmp .gt 7, 3) := by decide +kernel
theorem dX4_fits_23 : decode cX4_fits 23 = .ok (.iconst 1, 1) := by decide +kernel
theorem dX4_fits_24 : decode cX4_fits 24 = .ok (.goto 4, 3) := by decide +kernel
theorem dX4_fits_27 : decode cX4_fits 27 = .ok (.iconst 0, 1) := by decide +kernel
theorem dX4_fits_28 : decode cX4_fits 28 = .ok (.ireturn, 1) := by decide +kernel
theorem dX4_fits_29 : decode cX4_fits 29 = .ok (.iload_n 1, 1) := by decide +kernel
theorem dX4_fits_30 : decode cX4_fits 30 = .ok (.iconst 3, 1) := by decide +kernel
theorem dX4_fits_31 : decode cX4_fits 31 = .ok (.irem, 1) := by decide +kernel
theorem dX4_fits_32 : decode cX4_fits 32 = .ok (.lookupswitch 50 #[(1, 28), (2, 44)], 28) := by decide +kernel
theorem dX4_fits_60 : decode cX4_fits 60 = .ok (.aload_n 0, 1) := by decide +kernel
theorem dX4_fits_61 : decode cX4_fits 61 = .ok (.iload_n 1, 1) := by decide +kernel
theorem dX4_fits_62 : decode cX4_fits 62 = .ok (.invokevirtual 19, 3) := by decide +kernel
theorem dX4_fits_65 : decode cX4_fits 65 = .ok (.bipush 44, 2) := by decide +kernel
theorem dX4_fits_67 : decode cX4_fits 67 = .ok (.if_icmp .ne 7, 3) := by decide +kernel
theorem dX4_fits_70 : decode cX4_fits 70 = .ok (.iconst 1, 1) := by decide +kernel
theorem dX4_fits_71 : decode cX4_fits 71 = .ok (.goto 4, 3) := by decide +kernel
theorem dX4_fits_74 : decode cX4_fits 74 = .ok (.iconst 0, 1) := by decide +kernel
theorem dX4_fits_75 : decode cX4_fits 75 = .ok (.ireturn, 1) := by decide +kernel
theorem dX4_fits_76 : decode cX4_fits 76 = .ok (.aload_n 0, 1) := by decide +kernel
theorem dX4_fits_77 : decode cX4_fits 77 = .ok (.iload_n 1, 1) := by decide +kernel
theorem dX4_fits_78 : decode cX4_fits 78 = .ok (.invokevirtual 34, 3) := by decide +kernel
theorem dX4_fits_81 : decode cX4_fits 81 = .ok (.ireturn, 1) := by decide +kernel
theorem dX4_fits_82 : decode cX4_fits 82 = .ok (.aload_n 0, 1) := by decide +kernel
theorem dX4_fits_83 : decode cX4_fits 83 = .ok (.iload_n 1, 1) := by decide +kernel
theorem dX4_fits_84 : decode cX4_fits 84 = .ok (.invokevirtual 34, 3) := by decide +kernel
theorem dX4_fits_87 : decode cX4_fits 87 = .ok (.ifCond .eq 15, 3) := by decide +kernel
theorem dX4_fits_90 : decode cX4_fits 90 = .ok (.aload_n 0, 1) := by decide +kernel
theorem dX4_fits_91 : decode cX4_fits 91 = .ok (.iload_n 1, 1) := by decide +kernel
theorem dX4_fits_92 : decode cX4_fits 92 = .ok (.invokevirtual 37, 3) := by decide +kernel
theorem dX4_fits_95 : decode cX4_fits 95 = .ok (.ifCond .eq 7, 3) := by decide +kernel
theorem dX4_fits_98 : decode cX4_fits 98 = .ok (.iconst 1, 1) := by decide +kernel
theorem dX4_fits_99 : decode cX4_fits 99 = .ok (.goto 4, 3) := by decide +kernel
theorem dX4_fits_102 : decode cX4_fits 102 = .ok (.iconst 0, 1) := by decide +kernel
theorem dX4_fits_103 : decode cX4_fits 103 = .ok (.ireturn, 1) := by decide +kernel
set_option maxRecDepth 20000 in
theorem ggX4_isNodeAt_X4_digitAt : GoodIn wsX4_isNodeAt wsX4_digitAt := goodIn_r _ [5, 6, 7, 8, 4, 9, 10, 11, 12, 13] (by decide +kernel) (by decide +kernel)
set_option maxRecDepth 20000 in
theorem gX4_isNodeAt_X4_digitAt : GoodIn wsX4_isNodeAt (wsV RX4 23 RX4 yX4_digitAt wsX4_digitAt) := goodIn_app (goodIn_of _ (by decide +kernel)) ggX4_isNodeAt_X4_digitAt
theorem dX4_isNodeAt_0 : decode cX4_isNodeAt 0 = .ok (.aload_n 0, 1) := by decide +kernel
theorem dX4_isNodeAt_1 : decode cX4_isNodeAt 1 = .ok (.iload_n 1, 1) := by decide +kernel
theorem dX4_isNodeAt_2 : decode cX4_isNodeAt 2 = .ok (.invokevirtual 23, 3) := by decide +kernel
theorem dX4_isNodeAt_5 : decode cX4_isNodeAt 5 = .ok (.ifCond .lt 20, 3) := by decide +kernel
theorem dX4_isNodeAt_8 : decode cX4_isNodeAt 8 = .ok (.aload_n 0, 1) := by decide +kernel
theorem dX4_isNodeAt_9 : decode cX4_isNodeAt 9 = .ok (.iload_n 1, 1) := by decide +kernel
theorem dX4_isNodeAt_10 : decode cX4_isNodeAt 10 = .ok (.invokevirtual 23, 3) := by decide +kernel
theorem dX4_isNodeAt_13 : decode cX4_isNodeAt 13 = .ok (.aload_n 0, 1) := by decide +kernel
theorem dX4_isNodeAt_14 : decode cX4_isNodeAt 14 = .ok (.iconst 0, 1) := by decide +kernel
theorem dX4_isNodeAt_15 : decode cX4_isNodeAt 15 = .ok (.invokevirtual 23, 3) := by decide +kernel
theorem dX4_isNodeAt_18 : decode cX4_isNodeAt 18 = .ok (.if_icmp .ge 7, 3) := by decide +kernel
theorem dX4_isNodeAt_21 : decode cX4_isNodeAt 21 = .ok (.iconst 1, 1) := by decide +kernel
theorem dX4_isNodeAt_22 : decode cX4_isNodeAt 22 = .ok (.goto 4, 3) := by decide +kernel
theorem dX4_isNodeAt_25 : decode cX4_isNodeAt 25 = .ok (.iconst 0, 1) := by decide +kernel
theorem dX4_isNodeAt_26 : decode cX4_isNodeAt 26 = .ok (.ireturn, 1) := by decide +kernel
set_option maxRecDepth 20000 in
theorem ggX4_endsNewPair_X4_digitAt : GoodIn wsX4_endsNewPair wsX4_digitAt := goodIn_r _ [5, 6, 7, 8, 4, 9, 10, 11, 20, 21] (by decide +kernel) (by decide +kernel)
set_option maxRecDepth 20000 in
theorem gX4_endsNewPair_X4_digitAt : GoodIn wsX4_endsNewPair (wsV RX4 23 RX4 yX4_digitAt wsX4_digitAt) := goodIn_app (goodIn_of _ (by decide +kernel)) ggX4_endsNewPair_X4_digitAt
set_option maxRecDepth 20000 in
theorem ggX4_endsNewPair_X4_firstOfPair : GoodIn wsX4_endsNewPair wsX4_firstOfPair := goodIn_r _ [15, 1, 2, 3, 4, 5, 6, 7, 8, 9, 10, 11, 20, 21] (by decide +kernel) (by decide +kernel)
set_option maxRecDepth 20000 in
theorem gX4_endsNewPair_X4_firstOfPair : GoodIn wsX4_endsNewPair (wsV RX4 40 RX4 yX4_firstOfPair wsX4_firstOfPair) := goodIn_app (goodIn_of _ (by decide +kernel)) ggX4_endsNewPair_X4_firstOfPair
set_option maxRecDepth 20000 in
theorem ggX4_endsNewPair_X4_secondOfPair : GoodIn wsX4_endsNewPair wsX4_secondOfPair := goodIn_r _ [19, 1, 2, 3, 4, 5, 6, 7, 8, 9, 10, 11, 20, 21] (by decide +kernel) (by decide +kernel)
set_option maxRecDepth 20000 in
theorem gX4_endsNewPair_X4_secondOfPair : GoodIn wsX4_endsNewPair (wsV RX4 43 RX4 yX4_secondOfPair wsX4_secondOfPair) := goodIn_app (goodIn_of _ (by decide +kernel)) ggX4_endsNewPair_X4_secondOfPair
theorem dX4_endsNewPair_0 : decode cX4_endsNewPair 0 = .ok (.aload_n 0, 1) := by decide +kernel
theorem dX4_endsNewPair_1 : decode cX4_endsNewPair 1 = .ok (.iload_n 1, 1) := by decide +kernel
theorem dX4_endsNewPair_2 : decode cX4_endsNewPair 2 = .ok (.iconst 1, 1) := by decide +kernel
theorem dX4_endsNewPair_3 : decode cX4_endsNewPair 3 = .ok (.isub, 1) := by decide +kernel
theorem dX4_endsNewPair_4 : decode cX4_endsNewPair 4 = .ok (.invokevirtual 23, 3) := by decide +kernel
theorem dX4_endsNewPair_7 : decode cX4_endsNewPair 7 = .ok (.istore_n 2, 1) := by decide +kernel
theorem dX4_endsNewPair_8 : decode cX4_endsNewPair 8 = .ok (.aload_n 0, 1) := by decide +kernel
theorem dX4_endsNewPair_9 : decode cX4_endsNewPair 9 = .ok (.iload_n 1, 1) := by decide +kernel
theorem dX4_endsNewPair_10 : decode cX4_endsNewPair 10 = .ok (.invokevirtual 23, 3) := by decide +kernel
theorem dX4_endsNewPair_13 : decode cX4_endsNewPair 13 = .ok (.istore_n 3, 1) := by decide +kernel
theorem dX4_endsNewPair_14 : decode cX4_endsNewPair 14 = .ok (.iload_n 2, 1) := by decide +kernel
theorem dX4_endsNewPair_15 : decode cX4_endsNewPair 15 = .ok (.iload_n 3, 1) := by decide +kernel
theorem dX4_endsNewPair_16 : decode cX4_endsNewPair 16 = .ok (.if_icmp .ne 5, 3) := by decide +kernel
theorem dX4_endsNewPair_19 : decode cX4_endsNewPair 19 = .ok (.iconst 0, 1) := by decide +kernel
theorem dX4_endsNewPair_20 : decode cX4_endsNewPair 20 = .ok (.ireturn, 1) := by decide +kernel
theorem dX4_endsNewPair_21 : decode cX4_endsNewPair 21 = .ok (.iload_n 1, 1) := by decide +kernel
theorem dX4_endsNewPair_22 : decode cX4_endsNewPair 22 = .ok (.iconst 3, 1) := by decide +kernel
theorem dX4_endsNewPair_23 : decode cX4_endsNewPair 23 = .ok (.idiv, 1) := by decide +kernel
theorem dX4_endsNewPair_24 : decode cX4_endsNewPair 24 = .ok (.iconst 1, 1) := by decide +kernel
theorem dX4_endsNewPair_25 : decode cX4_endsNewPair 25 = .ok (.isub, 1) := by decide +kernel
theorem dX4_endsNewPair_26 : decode cX4_endsNewPair 26 = .ok (.istore 4, 2) := by decide +kernel
theorem dX4_endsNewPair_28 : decode cX4_endsNewPair 28 = .ok (.iconst 0, 1) := by decide +kernel
theorem dX4_endsNewPair_29 : decode cX4_endsNewPair 29 = .ok (.istore 5, 2) := by decide +kernel
theorem dX4_endsNewPair_31 : decode cX4_endsNewPair 31 = .ok (.iload 5, 2) := by decide +kernel
theorem dX4_endsNewPair_33 : decode cX4_endsNewPair 33 = .ok (.iload 4, 2) := by decide +kernel
theorem dX4_endsNewPair_35 : decode cX4_endsNewPair 35 = .ok (.if_icmp .ge 51, 3) := by decide +kernel
theorem dX4_endsNewPair_38 : decode cX4_endsNewPair 38 = .ok (.aload_n 0, 1) := by decide +kernel
theorem dX4_endsNewPair_39 : decode cX4_endsNewPair 39 = .ok (.iload 5, 2) := by decide +kernel
theorem dX4_endsNewPair_41 : decode cX4_endsNewPair 41 = .ok (.invokevirtual 40, 3) := by decide +kernel
theorem dX4_endsNewPair_44 : decode cX4_endsNewPair 44 = .ok (.istore 6, 2) := by decide +kernel
theorem dX4_endsNewPair_46 : decode cX4_endsNewPair 46 = .ok (.aload_n 0, 1) := by decide +kernel
theorem dX4_endsNewPair_47 : decode cX4_endsNewPair 47 = .ok (.iload 5, 2) := by decide +kernel
theorem dX4_endsNewPair_49 : decode cX4_endsNewPair 49 = .ok (.invokevirtual 43, 3) := by decide +kernel
theorem dX4_endsNewPair_52 : decode cX4_endsNewPair 52 = .ok (.istore 7, 2) := by decide +kernel
theorem dX4_endsNewPair_54 : decode cX4_endsNewPair 54 = .ok (.iload 6, 2) := by decide +kernel
theorem dX4_endsNewPair_56 : decode cX4_endsNewPair 56 = .ok (.iload_n 2, 1) := by decide +kernel
theorem dX4_endsNewPair_57 : decode cX4_endsNewPair 57 = .ok (.if_icmp .ne 9, 3) := by decide +kernel
theorem dX4_endsNewPair_60 : decode cX4_endsNewPair 60 = .ok (.iload 7, 2) := by decide +kernel
theorem dX4_endsNewPair_62 : decode cX4_endsNewPair 62 = .ok (.iload_n 3, 1) := by decide +kernel
theorem dX4_endsNewPair_63 : decode cX4_endsNewPair 63 = .ok (.if_icmp .eq 15, 3) := by decide +kernel
theorem dX4_endsNewPair_66 : decode cX4_endsNewPair 66 = .ok (.iload 6, 2) := by decide +kernel
theorem dX4_endsNewPair_68 : decode cX4_endsNewPair 68 = .ok (.iload_n 3, 1) := by decide +kernel
theorem dX4_endsNewPair_69 : decode cX4_endsNewPair 69 = .ok (.if_icmp .ne 11, 3) := by decide +kernel
theorem dX4_endsNewPair_72 : decode cX4_endsNewPair 72 = .ok (.iload 7, 2) := by decide +kernel
theorem dX4_endsNewPair_74 : decode cX4_endsNewPair 74 = .ok (.iload_n 2, 1) := by decide +kernel
theorem dX4_endsNewPair_75 : decode cX4_endsNewPair 75 = .ok (.if_icmp .ne 5, 3) := by decide +kernel
theorem dX4_endsNewPair_78 : decode cX4_endsNewPair 78 = .ok (.iconst 0, 1) := by decide +kernel
theorem dX4_endsNewPair_79 : decode cX4_endsNewPair 79 = .ok (.ireturn, 1) := by decide +kernel
theorem dX4_endsNewPair_80 : decode cX4_endsNewPair 80 = .ok (.iinc 5 1, 3) := by decide +kernel
theorem dX4_endsNewPair_83 : decode cX4_endsNewPair 83 = .ok (.goto (-52), 3) := by decide +kernel
theorem dX4_endsNewPair_86 : decode cX4_endsNewPair 86 = .ok (.iconst 1, 1) := by decide +kernel
theorem dX4_endsNewPair_87 : decode cX4_endsNewPair 87 = .ok (.ireturn, 1) := by decide +kernel
set_option maxRecDepth 20000 in
theorem ggX5_init_X4_init : GoodIn wsX5_init wsX4_init := goodIn_r _ [26, 27, 2, 3, 28, 29, 57, 58] (by decide +kernel) (by decide +kernel)
set_option maxRecDepth 20000 in
theorem gX5_init_X4_init : GoodIn wsX5_init (wsX4_init) := ggX5_init_X4_init
set_option maxRecDepth 20000 in
theorem ggX5_init_X2_init : GoodIn wsX5_init wsX2_init := goodIn_r _ [32, 33, 2, 3, 28, 34, 35, 36, 37, 38, 39, 69, 70, 71, 72, 73, 74, 75, 76] (by decide +kernel) (by decide +kernel)
set_option maxRecDepth 20000 in
theorem gX5_init_X2_init : GoodIn wsX5_init (wsX2_init) := ggX5_init_X2_init
set_option maxRecDepth 20000 in
theorem ggX5_init_X3_init : GoodIn wsX5_init wsX3_init := goodIn_r _ [42, 43, 2, 3, 44, 45, 46, 47, 48, 77, 78, 79, 80, 81] (by decide +kernel) (by decide +kernel)
set_option maxRecDepth 20000 in
theorem gX5_init_X3_init : GoodIn wsX5_init (wsX3_init) := ggX5_init_X3_init
set_option maxRecDepth 20000 in
theorem ggX5_init_X0_init : GoodIn wsX5_init wsX0_init := goodIn_r _ [51, 52, 2, 3, 28, 53, 82] (by decide +kernel) (by decide +kernel)
set_option maxRecDepth 20000 in
theorem gX5_init_X0_init : GoodIn wsX5_init (wsX0_init) := ggX5_init_X0_init
set_option maxRecDepth 20000 in
theorem ggX5_init_X1_init : GoodIn wsX5_init wsX1_init := goodIn_r _ [55, 56, 2, 3] (by decide +kernel) (by decide +kernel)
set_option maxRecDepth 20000 in
theorem gX5_init_X1_init_n39 : GoodIn wsX5_init (wsX1_init) := ggX5_init_X1_init
theorem dX5_init_0 : decode cX5_init 0 = .ok (.aload_n 0, 1) := by decide +kernel
theorem dX5_init_1 : decode cX5_init 1 = .ok (.invokespecial 1, 3) := by decide +kernel
theorem dX5_init_4 : decode cX5_init 4 = .ok (.aload_n 0, 1) := by decide +kernel
theorem dX5_init_5 : decode cX5_init 5 = .ok (.new 7, 3) := by decide +kernel
theorem dX5_init_8 : decode cX5_init 8 = .ok (.dup, 1) := by decide +kernel
theorem dX5_init_9 : decode cX5_init 9 = .ok (.invokespecial 9, 3) := by decide +kernel
theorem dX5_init_12 : decode cX5_init 12 = .ok (.putfield 10, 3) := by decide +kernel
theorem dX5_init_15 : decode cX5_init 15 = .ok (.aload_n 0, 1) := by decide +kernel
theorem dX5_init_16 : decode cX5_init 16 = .ok (.new 16, 3) := by decide +kernel
theorem dX5_init_19 : decode cX5_init 19 = .ok (.dup, 1) := by decide +kernel
theorem dX5_init_20 : decode cX5_init 20 = .ok (.invokespecial 18, 3) := by decide +kernel
theorem dX5_init_23 : decode cX5_init 23 = .ok (.putfield 19, 3) := by decide +kernel
theorem dX5_init_26 : decode cX5_init 26 = .ok (.aload_n 0, 1) := by decide +kernel
theorem dX5_init_27 : decode cX5_init 27 = .ok (.new 23, 3) := by decide +kernel
theorem dX5_init_30 : decode cX5_init 30 = .ok (.dup, 1) := by decide +kernel
theorem dX5_init_31 : decode cX5_init 31 = .ok (.invokespecial 25, 3) := by decide +kernel
theorem dX5_init_34 : decode cX5_init 34 = .ok (.putfield 26, 3) := by decide +kernel
theorem dX5_init_37 : decode cX5_init 37 = .ok (.aload_n 0, 1) := by decide +kernel
theorem dX5_init_38 : decode cX5_init 38 = .ok (.new 30, 3) := by decide +kernel
theorem dX5_init_41 : decode cX5_init 41 = .ok (.dup, 1) := by decide +kernel
theorem dX5_init_42 : decode cX5_init 42 = .ok (.invokespecial 32, 3) := by decide +kernel
theorem dX5_init_45 : decode cX5_init 45 = .ok (.putfield 33, 3) := by decide +kernel
theorem dX5_init_48 : decode cX5_init 48 = .ok (.aload_n 0, 1) := by decide +kernel
theorem dX5_init_49 : decode cX5_init 49 = .ok (.new 37, 3) := by decide +kernel
theorem dX5_init_52 : decode cX5_init 52 = .ok (.dup, 1) := by decide +kernel
theorem dX5_init_53 : decode cX5_init 53 = .ok (.invokespecial 39, 3) := by decide +kernel
theorem dX5_init_56 : decode cX5_init 56 = .ok (.putfield 40, 3) := by decide +kernel
theorem dX5_init_59 : decode cX5_init 59 = .ok (.return_, 1) := by decide +kernel
set_option maxRecDepth 20000 in
theorem ggX5_letter_X4_isFull : GoodIn wsX5_letter wsX4_isFull := goodIn_r _ [6, 7, 27, 28] (by decide +kernel) (by decide +kernel)
set_option maxRecDepth 20000 in
theorem gX5_letter_X4_isFull : GoodIn wsX5_letter (wsV RX5 44 RX4 yX4_isFull wsX4_isFull) := goodIn_app (goodIn_of _ (by decide +kernel)) ggX5_letter_X4_isFull
set_option maxRecDepth 20000 in
theorem ggX5_letter_X4_append : GoodIn wsX5_letter wsX4_append := goodIn_r _ [11, 7, 12, 27, 28] (by decide +kernel) (by decide +kernel)
set_option maxRecDepth 20000 in
theorem gX5_letter_X4_append : GoodIn wsX5_letter (wsV RX5 48 RX4 yX4_append wsX4_append) := goodIn_app (goodIn_of _ (by decide +kernel)) ggX5_letter_X4_append
set_option maxRecDepth 20000 in
theorem ggX5_letter_X4_size : GoodIn wsX5_letter wsX4_size := goodIn_r _ [16, 7, 27, 28] (by decide +kernel) (by decide +kernel)
set_option maxRecDepth 20000 in
theorem gX5_letter_X4_size : GoodIn wsX5_letter (wsV RX5 52 RX4 yX4_size wsX4_size) := goodIn_app (goodIn_of _ (by decide +kernel)) ggX5_letter_X4_size
theorem dX5_letter_0 : decode cX5_letter 0 = .ok (.iload_n 1, 1) := by decide +kernel
theorem dX5_letter_1 : decode cX5_letter 1 = .ok (.bipush 32, 2) := by decide +kernel
theorem dX5_letter_3 : decode cX5_letter 3 = .ok (.if_icmp .lt 9, 3) := by decide +kernel
theorem dX5_letter_6 : decode cX5_letter 6 = .ok (.iload_n 1, 1) := by decide +kernel
theorem dX5_letter_7 : decode cX5_letter 7 = .ok (.bipush 126, 2) := by decide +kernel
theorem dX5_letter_9 : decode cX5_letter 9 = .ok (.if_icmp .le 7, 3) := by decide +kernel
theorem dX5_letter_12 : decode cX5_letter 12 = .ok (.sipush (-1002), 3) := by decide +kernel
theorem dX5_letter_15 : decode cX5_letter 15 = .ok (.ireturn, 1) := by decide +kernel
theorem dX5_letter_16 : decode cX5_letter 16 = .ok (.aload_n 0, 1) := by decide +kernel
theorem dX5_letter_17 : decode cX5_letter 17 = .ok (.getfield 10, 3) := by decide +kernel
theorem dX5_letter_20 : decode cX5_letter 20 = .ok (.invokevirtual 44, 3) := by decide +kernel
theorem dX5_letter_23 : decode cX5_letter 23 = .ok (.ifCond .eq 7, 3) := by decide +kernel
theorem dX5_letter_26 : decode cX5_letter 26 = .ok (.sipush (-1004), 3) := by decide +kernel
theorem dX5_letter_29 : decode cX5_letter 29 = .ok (.ireturn, 1) := by decide +kernel
theorem dX5_letter_30 : decode cX5_letter 30 = .ok (.aload_n 0, 1) := by decide +kernel
theorem dX5_letter_31 : decode cX5_letter 31 = .ok (.getfield 10, 3) := by decide +kernel
theorem dX5_letter_34 : decode cX5_letter 34 = .ok (.iload_n 1, 1) := by decide +kernel
theorem dX5_letter_35 : decode cX5_letter 35 = .ok (.invokevirtual 48, 3) := by decide +kernel
theorem dX5_letter_38 : decode cX5_letter 38 = .ok (.aload_n 0, 1) := by decide +kernel
theorem dX5_letter_39 : decode cX5_letter 39 = .ok (.getfield 10, 3) := by decide +kernel
theorem dX5_letter_42 : decode cX5_letter 42 = .ok (.invokevirtual 52, 3) := by decide +kernel
theorem dX5_letter_45 : decode cX5_letter 45 = .ok (.ireturn, 1) := by decide +kernel
set_option maxRecDepth 20000 in
theorem ggX5_blank_X4_size : GoodIn wsX5_blank wsX4_size := goodIn_r _ [6, 7, 22, 23] (by decide +kernel) (by decide +kernel)
set_option maxRecDepth 20000 in
theorem gX5_blank_X4_size : GoodIn wsX5_blank (wsV RX5 52 RX4 yX4_size wsX4_size) := goodIn_app (goodIn_of _ (by decide +kernel)) ggX5_blank_X4_size
set_option maxRecDepth 20000 in
theorem ggX5_blank_X4_clear : GoodIn wsX5_blank wsX4_clear := goodIn_r _ [11, 7, 22, 23] (by decide +kernel) (by decide +kernel)
set_option maxRecDepth 20000 in
theorem gX5_blank_X4_clear : GoodIn wsX5_blank (wsV RX5 56 RX4 yX4_clear wsX4_clear) := goodIn_app (goodIn_of _ (by decide +kernel)) ggX5_blank_X4_clear
theorem dX5_blank_0 : decode cX5_blank 0 = .ok (.aload_n 0, 1) := by decide +kernel
theorem dX5_blank_1 : decode cX5_blank 1 = .ok (.getfield 10, 3) := by decide +kernel
theorem dX5_blank_4 : decode cX5_blank 4 = .ok (.invokevirtual 52, 3) := by decide +kernel
theorem dX5_blank_7 : decode cX5_blank 7 = .ok (.istore_n 1, 1) := by decide +kernel
theorem dX5_blank_8 : decode cX5_blank 8 = .ok (.aload_n 0, 1) := by decide +kernel
theorem dX5_blank_9 : decode cX5_blank 9 = .ok (.getfield 10, 3) := by decide +kernel
theorem dX5_blank_12 : decode cX5_blank 12 = .ok (.invokevirtual 56, 3) := by decide +kernel
theorem dX5_blank_15 : decode cX5_blank 15 = .ok (.iload_n 1, 1) := by decide +kernel
theorem dX5_blank_16 : decode cX5_blank 16 = .ok (.ireturn, 1) := by decide +kernel
set_option maxRecDepth 20000 in
theorem ggX5_fault_X4_firstWrong : GoodIn wsX5_fault wsX4_firstWrong := goodIn_r _ [6, 7, 8, 9, 10, 5, 11, 12, 13, 14, 15, 16, 17, 18, 19, 20, 21, 22, 23, 24, 25, 26, 27, 28, 29, 30, 31, 32, 33, 34, 35, 36, 47, 48] (by decide +kernel) (by decide +kernel)
set_option maxRecDepth 20000 in
theorem gX5_fault_X4_firstWrong : GoodIn wsX5_fault (wsV RX5 59 RX4 yX4_firstWrong wsX4_firstWrong) := goodIn_app (goodIn_of _ (by decide +kernel)) ggX5_fault_X4_firstWrong
theorem dX5_fault_0 : decode cX5_fault 0 = .ok (.aload_n 0, 1) := by decide +kernel
theorem dX5_fault_1 : decode cX5_fault 1 = .ok (.getfield 10, 3) := by decide +kernel
theorem dX5_fault_4 : decode cX5_fault 4 = .ok (.invokevirtual 59, 3) := by decide +kernel
theorem dX5_fault_7 : decode cX5_fault 7 = .ok (.ireturn, 1) := by decide +kernel
set_option maxRecDepth 20000 in
theorem ggX5_net_X4_isWhole : GoodIn wsX5_net wsX4_isWhole := goodIn_r _ [10, 11, 12, 13, 14, 9, 15, 16, 17, 18, 19, 20, 21, 22, 23, 24, 25, 26, 27, 28, 29, 30, 31, 32, 33, 34, 35, 36, 37, 38, 39, 40, 41, 42, 43, 44, 138, 139] (by decide +kernel) (by decide +kernel)
set_option maxRecDepth 20000 in
theorem gX5_net_X4_isWhole : GoodIn wsX5_net (wsV RX5 62 RX4 yX4_isWhole wsX4_isWhole) := goodIn_app (goodIn_of _ (by decide +kernel)) ggX5_net_X4_isWhole
set_option maxRecDepth 20000 in
theorem ggX5_net_X2_read : GoodIn wsX5_net wsX2_read := goodIn_r _ [49, 50, 51, 52, 53, 54, 55, 56, 57, 48, 58, 59, 60, 61, 62, 63, 64, 65, 66, 67, 21, 22, 9, 23, 24, 25, 26, 27, 11, 28, 68, 69, 70, 71, 72, 38, 39, 40, 20, 73, 42, 43, 44, 74, 75, 76, 77, 78, 79, 80, 81, 82, 83, 84, 85, 86, 87, 88, 89, 90, 91, 140, 141, 142, 143, 144, 145, 146, 147, 138, 139] (by decide +kernel) (by decide +kernel)
set_option maxRecDepth 20000 in
theorem gX5_net_X2_read : GoodIn wsX5_net (wsV RX5 65 RX2 yX2_read wsX2_read) := goodIn_app (goodIn_of _ (by decide +kernel)) ggX5_net_X2_read
set_option maxRecDepth 20000 in
theorem ggX5_net_X4_clear : GoodIn wsX5_net wsX4_clear := goodIn_r _ [95, 11, 138, 139] (by decide +kernel) (by decide +kernel)
set_option maxRecDepth 20000 in
theorem gX5_net_X4_clear : GoodIn wsX5_net (wsV RX5 56 RX4 yX4_clear wsX4_clear) := goodIn_app (goodIn_of _ (by decide +kernel)) ggX5_net_X4_clear
set_option maxRecDepth 20000 in
theorem ggX5_net_X0_clear : GoodIn wsX5_net wsX0_clear := goodIn_r _ [100, 101, 148] (by decide +kernel) (by decide +kernel)
set_option maxRecDepth 20000 in
theorem gX5_net_X0_clear : GoodIn wsX5_net (wsV RX5 69 RX0 yX0_clear wsX0_clear) := goodIn_app (goodIn_of _ (by decide +kernel)) ggX5_net_X0_clear
set_option maxRecDepth 20000 in
theorem ggX5_net_X2_linkCount : GoodIn wsX5_net wsX2_linkCount := goodIn_r _ [105, 59, 140, 141, 142, 143, 144, 145, 146, 147] (by decide +kernel) (by decide +kernel)
set_option maxRecDepth 20000 in
theorem gX5_net_X2_linkCount : GoodIn wsX5_net (wsV RX5 70 RX2 yX2_linkCount wsX2_linkCount) := goodIn_app (goodIn_of _ (by decide +kernel)) ggX5_net_X2_linkCount
set_option maxRecDepth 20000 in
theorem ggX5_net_X3_drawAll : GoodIn wsX5_net wsX3_drawAll := goodIn_r _ [110, 111, 112, 113, 114, 115, 116, 109, 117, 118, 119, 120, 121, 122, 123, 124, 125, 126, 127, 149, 150, 151, 152, 153] (by decide +kernel) (by decide +kernel)
set_option maxRecDepth 20000 in
theorem gX5_net_X3_drawAll : GoodIn wsX5_net (wsV RX5 73 RX3 yX3_drawAll wsX3_drawAll) := goodIn_app (goodIn_of _ (by decide +kernel)) ggX5_net_X3_drawAll
theorem dX5_net_0 : decode cX5_net 0 = .ok (.aload_n 0, 1) := by decide +kernel
theorem dX5_net_1 : decode cX5_net 1 = .ok (.getfield 10, 3) := by decide +kernel
theorem dX5_net_4 : decode cX5_net 4 = .ok (.invokevirtual 62, 3) := by decide +kernel
theorem dX5_net_7 : decode cX5_net 7 = .ok (.ifCond .ne 7, 3) := by decide +kernel
theorem dX5_net_10 : decode cX5_net 10 = .ok (.sipush (-1003), 3) := by decide +kernel
theorem dX5_net_13 : decode cX5_net 13 = .ok (.ireturn, 1) := by decide +kernel
theorem dX5_net_14 : decode cX5_net 14 = .ok (.aload_n 0, 1) := by decide +kernel
theorem dX5_net_15 : decode cX5_net 15 = .ok (.getfield 19, 3) := by decide +kernel
theorem dX5_net_18 : decode cX5_net 18 = .ok (.aload_n 0, 1) := by decide +kernel
theorem dX5_net_19 : decode cX5_net 19 = .ok (.getfield 10, 3) := by decide +kernel
theorem dX5_net_22 : decode cX5_net 22 = .ok (.invokevirtual 65, 3) := by decide +kernel
theorem dX5_net_25 : decode cX5_net 25 = .ok (.aload_n 0, 1) := by decide +kernel
theorem dX5_net_26 : decode cX5_net 26 = .ok (.getfield 10, 3) := by decide +kernel
theorem dX5_net_29 : decode cX5_net 29 = .ok (.invokevirtual 56, 3) := by decide +kernel
theorem dX5_net_32 : decode cX5_net 32 = .ok (.aload_n 0, 1) := by decide +kernel
theorem dX5_net_33 : decode cX5_net 33 = .ok (.getfield 33, 3) := by decide +kernel
theorem dX5_net_36 : decode cX5_net 36 = .ok (.invokevirtual 69, 3) := by decide +kernel
theorem dX5_net_39 : decode cX5_net 39 = .ok (.aload_n 0, 1) := by decide +kernel
theorem dX5_net_40 : decode cX5_net 40 = .ok (.getfield 26, 3) := by decide +kernel
theorem dX5_net_43 : decode cX5_net 43 = .ok (.aload_n 0, 1) := by decide +kernel
theorem dX5_net_44 : decode cX5_net 44 = .ok (.getfield 19, 3) := by decide +kernel
theorem dX5_net_47 : decode cX5_net 47 = .ok (.invokevirtual 70, 3) := by decide +kernel
theorem dX5_net_50 : decode cX5_net 50 = .ok (.invokevirtual 73, 3) := by decide +kernel
theorem dX5_net_53 : decode cX5_net 53 = .ok (.aload_n 0, 1) := by decide +kernel
theorem dX5_net_54 : decode cX5_net 54 = .ok (.dup, 1) := by decide +kernel
theorem dX5_net_55 : decode cX5_net 55 = .ok (.getfield 76, 3) := by decide +kernel
theorem dX5_net_58 : decode cX5_net 58 = .ok (.iconst 1, 1) := by decide +kernel
theorem dX5_net_59 : decode cX5_net 59 = .ok (.iadd, 1) := by decide +kernel
theorem dX5_net_60 : decode cX5_net 60 = .ok (.putfield 76, 3) := by decide +kernel
theorem dX5_net_63 : decode cX5_net 63 = .ok (.aload_n 0, 1) := by decide +kernel
theorem dX5_net_64 : decode cX5_net 64 = .ok (.getfield 19, 3) := by decide +kernel
theorem dX5_net_67 : decode cX5_net 67 = .ok (.invokevirtual 70, 3) := by decide +kernel
theorem dX5_net_70 : decode cX5_net 70 = .ok (.ireturn, 1) := by decide +kernel
set_option maxRecDepth 20000 in
theorem ggX5_set_X3_allows : GoodIn wsX5_set wsX3_allows := goodIn_r _ [7] (by decide +kernel) (by decide +kernel)
set_option maxRecDepth 20000 in
theorem gX5_set_X3_allows : GoodIn wsX5_set (wsV RX5 80 RX3 yX3_allows wsX3_allows) := goodIn_app (goodIn_of _ (by decide +kernel)) ggX5_set_X3_allows
set_option maxRecDepth 20000 in
theorem ggX5_set_X3_setting : GoodIn wsX5_set wsX3_setting := goodIn_r _ [11, 12, 13, 14, 53, 54, 55, 56, 57] (by decide +kernel) (by decide +kernel)
set_option maxRecDepth 20000 in
theorem gX5_set_X3_setting : GoodIn wsX5_set (wsV RX5 84 RX3 yX3_setting wsX3_setting) := goodIn_app (goodIn_of _ (by decide +kernel)) ggX5_set_X3_setting
set_option maxRecDepth 20000 in
theorem ggX5_set_X3_change : GoodIn wsX5_set wsX3_change := goodIn_r _ [18, 12, 13, 14, 53, 54, 55, 56, 57] (by decide +kernel) (by decide +kernel)
set_option maxRecDepth 20000 in
theorem gX5_set_X3_change : GoodIn wsX5_set (wsV RX5 88 RX3 yX3_change wsX3_change) := goodIn_app (goodIn_of _ (by decide +kernel)) ggX5_set_X3_change
set_option maxRecDepth 20000 in
theorem ggX5_set_X2_linkCount : GoodIn wsX5_set wsX2_linkCount := goodIn_r _ [23, 24, 58, 59, 60, 61, 62, 63, 64, 65] (by decide +kernel) (by decide +kernel)
set_option maxRecDepth 20000 in
theorem gX5_set_X2_linkCount : GoodIn wsX5_set (wsV RX5 70 RX2 yX2_linkCount wsX2_linkCount) := goodIn_app (goodIn_of _ (by decide +kernel)) ggX5_set_X2_linkCount
set_option maxRecDepth 20000 in
theorem ggX5_set_X3_drawAll : GoodIn wsX5_set wsX3_drawAll := goodIn_r _ [28, 14, 29, 30, 31, 32, 33, 6, 34, 13, 35, 36, 37, 38, 39, 40, 41, 12, 42, 53, 54, 55, 56, 57] (by decide +kernel) (by decide +kernel)
set_option maxRecDepth 20000 in
theorem gX5_set_X3_drawAll : GoodIn wsX5_set (wsV RX5 73 RX3 yX3_drawAll wsX3_drawAll) := goodIn_app (goodIn_of _ (by decide +kernel)) ggX5_set_X3_drawAll
theorem dX5_set_0 : decode cX5_set 0 = .ok (.aload_n 0, 1) := by decide +kernel
theorem dX5_set_1 : decode cX5_set 1 = .ok (.getfield 26, 3) := by decide +kernel
theorem dX5_set_4 : decode cX5_set 4 = .ok (.iload_n 1, 1) := by decide +kernel
theorem dX5_set_5 : decode cX5_set 5 = .ok (.iload_n 2, 1) := by decide +kernel
theorem dX5_set_6 : decode cX5_set 6 = .ok (.invokevirtual 80, 3) := by decide +kernel
theorem dX5_set_9 : decode cX5_set 9 = .ok (.ifCond .ne 7, 3) := by decide +kernel
theorem dX5_set_12 : decode cX5_set 12 = .ok (.sipush (-1002), 3) := by decide +kernel
theorem dX5_set_15 : decode cX5_set 15 = .ok (.ireturn, 1) := by decide +kernel
theorem dX5_set_16 : decode cX5_set 16 = .ok (.aload_n 0, 1) := by decide +kernel
theorem dX5_set_17 : decode cX5_set 17 = .ok (.getfield 26, 3) := by decide +kernel
theorem dX5_set_20 : decode cX5_set 20 = .ok (.iload_n 1, 1) := by decide +kernel
theorem dX5_set_21 : decode cX5_set 21 = .ok (.invokevirtual 84, 3) := by decide +kernel
theorem dX5_set_24 : decode cX5_set 24 = .ok (.istore_n 3, 1) := by decide +kernel
theorem dX5_set_25 : decode cX5_set 25 = .ok (.aload_n 0, 1) := by decide +kernel
theorem dX5_set_26 : decode cX5_set 26 = .ok (.getfield 26, 3) := by decide +kernel
theorem dX5_set_29 : decode cX5_set 29 = .ok (.iload_n 1, 1) := by decide +kernel
theorem dX5_set_30 : decode cX5_set 30 = .ok (.iload_n 2, 1) := by decide +kernel
theorem dX5_set_31 : decode cX5_set 31 = .ok (.invokevirtual 88, 3) := by decide +kernel
theorem dX5_set_34 : decode cX5_set 34 = .ok (.aload_n 0, 1) := by decide +kernel
theorem dX5_set_35 : decode cX5_set 35 = .ok (.getfield 26, 3) := by decide +kernel
theorem dX5_set_38 : decode cX5_set 38 = .ok (.aload_n 0, 1) := by decide +kernel
theorem dX5_set_39 : decode cX5_set 39 = .ok (.getfield 19, 3) := by decide +kernel
theorem dX5_set_42 : decode cX5_set 42 = .ok (.invokevirtual 70, 3) := by decide +kernel
theorem dX5_set_45 : decode cX5_set 45 = .ok (.invokevirtual 73, 3) := by decide +kernel
theorem dX5_set_48 : decode cX5_set 48 = .ok (.iload_n 3, 1) := by decide +kernel
theorem dX5_set_49 : decode cX5_set 49 = .ok (.ireturn, 1) := by decide +kernel
set_option maxRecDepth 20000 in
theorem ggX5_mark_X2_hasLink : GoodIn wsX5_mark wsX2_hasLink := goodIn_r _ [9, 10, 31, 32, 33, 34, 35, 36, 37, 38] (by decide +kernel) (by decide +kernel)
set_option maxRecDepth 20000 in
theorem gX5_mark_X2_hasLink : GoodIn wsX5_mark (wsV RX5 92 RX2 yX2_hasLink wsX2_hasLink) := goodIn_app (goodIn_of _ (by decide +kernel)) ggX5_mark_X2_hasLink
set_option maxRecDepth 20000 in
theorem ggX5_mark_X5_isVariant : GoodIn wsX5_mark wsX5_isVariant := goodIn_r _ [14] (by decide +kernel) (by decide +kernel)
set_option maxRecDepth 20000 in
theorem gX5_mark_X5_isVariant : GoodIn wsX5_mark (va_wsS RX5 98 yX5_isVariant wsX5_isVariant) := goodIn_app (goodIn_of _ (by decide +kernel)) ggX5_mark_X5_isVariant
set_option maxRecDepth 20000 in
theorem ggX5_mark_X3_ofLink : GoodIn wsX5_mark wsX3_ofLink := goodIn_r _ [19, 20, 12, 13, 14, 39, 40, 41, 42, 43] (by decide +kernel) (by decide +kernel)
set_option maxRecDepth 20000 in
theorem gX5_mark_X3_ofLink : GoodIn wsX5_mark (wsV RX5 103 RX3 yX3_ofLink wsX3_ofLink) := goodIn_app (goodIn_of _ (by decide +kernel)) ggX5_mark_X3_ofLink
theorem dX5_mark_0 : decode cX5_mark 0 = .ok (.aload_n 0, 1) := by decide +kernel
theorem dX5_mark_1 : decode cX5_mark 1 = .ok (.getfield 19, 3) := by decide +kernel
theorem dX5_mark_4 : decode cX5_mark 4 = .ok (.iload_n 1, 1) := by decide +kernel
theorem dX5_mark_5 : decode cX5_mark 5 = .ok (.invokevirtual 92, 3) := by decide +kernel
theorem dX5_mark_8 : decode cX5_mark 8 = .ok (.ifCond .ne 7, 3) := by decide +kernel
theorem dX5_mark_11 : decode cX5_mark 11 = .ok (.ldc2_w 96, 3) := by decide +kernel
theorem dX5_mark_14 : decode cX5_mark 14 = .ok (.lreturn, 1) := by decide +kernel
theorem dX5_mark_15 : decode cX5_mark 15 = .ok (.iload_n 2, 1) := by decide +kernel
theorem dX5_mark_16 : decode cX5_mark 16 = .ok (.invokestatic 98, 3) := by decide +kernel
theorem dX5_mark_19 : decode cX5_mark 19 = .ok (.ifCond .ne 7, 3) := by decide +kernel
theorem dX5_mark_22 : decode cX5_mark 22 = .ok (.ldc2_w 101, 3) := by decide +kernel
theorem dX5_mark_25 : decode cX5_mark 25 = .ok (.lreturn, 1) := by decide +kernel
theorem dX5_mark_26 : decode cX5_mark 26 = .ok (.aload_n 0, 1) := by decide +kernel
theorem dX5_mark_27 : decode cX5_mark 27 = .ok (.getfield 26, 3) := by decide +kernel
theorem dX5_mark_30 : decode cX5_mark 30 = .ok (.iload_n 1, 1) := by decide +kernel
theorem dX5_mark_31 : decode cX5_mark 31 = .ok (.iload_n 2, 1) := by decide +kernel
theorem dX5_mark_32 : decode cX5_mark 32 = .ok (.invokevirtual 103, 3) := by decide +kernel
theorem dX5_mark_35 : decode cX5_mark 35 = .ok (.lreturn, 1) := by decide +kernel
set_option maxRecDepth 20000 in
theorem ggX5_link_X2_hasLink : GoodIn wsX5_link wsX2_hasLink := goodIn_r _ [7, 8, 35, 36, 37, 38, 39, 40, 41, 42] (by decide +kernel) (by decide +kernel)
set_option maxRecDepth 20000 in
theorem gX5_link_X2_hasLink : GoodIn wsX5_link (wsV RX5 92 RX2 yX2_hasLink wsX2_hasLink) := goodIn_app (goodIn_of _ (by decide +kernel)) ggX5_link_X2_hasLink
set_option maxRecDepth 20000 in
theorem ggX5_link_X2_startOf : GoodIn wsX5_link wsX2_startOf := goodIn_r _ [12, 13, 35, 36, 37, 38, 39, 40, 41, 42] (by decide +kernel) (by decide +kernel)
set_option maxRecDepth 20000 in
theorem gX5_link_X2_startOf : GoodIn wsX5_link (wsV RX5 107 RX2 yX2_startOf wsX2_startOf) := goodIn_app (goodIn_of _ (by decide +kernel)) ggX5_link_X2_startOf
set_option maxRecDepth 20000 in
theorem ggX5_link_X2_endOf : GoodIn wsX5_link wsX2_endOf := goodIn_r _ [17, 18, 35, 36, 37, 38, 39, 40, 41, 42] (by decide +kernel) (by decide +kernel)
set_option maxRecDepth 20000 in
theorem gX5_link_X2_endOf : GoodIn wsX5_link (wsV RX5 110 RX2 yX2_endOf wsX2_endOf) := goodIn_app (goodIn_of _ (by decide +kernel)) ggX5_link_X2_endOf
set_option maxRecDepth 20000 in
theorem ggX5_link_X0_placesWith : GoodIn wsX5_link wsX0_placesWith := goodIn_r _ [23, 24, 43] (by decide +kernel) (by decide +kernel)
set_option maxRecDepth 20000 in
theorem gX5_link_X0_placesWith : GoodIn wsX5_link (wsV RX5 113 RX0 yX0_placesWith wsX0_placesWith) := goodIn_app (goodIn_of _ (by decide +kernel)) ggX5_link_X0_placesWith
theorem dX5_link_0 : decode cX5_link 0 = .ok (.aload_n 0, 1) := by decide +kernel
theorem dX5_link_1 : decode cX5_link 1 = .ok (.getfield 19, 3) := by decide +kernel
theorem dX5_link_4 : decode cX5_link 4 = .ok (.iload_n 1, 1) := by decide +kernel
theorem dX5_link_5 : decode cX5_link 5 = .ok (.invokevirtual 92, 3) := by decide +kernel
theorem dX5_link_8 : decode cX5_link 8 = .ok (.ifCond .ne 7, 3) := by decide +kernel
theorem dX5_link_11 : decode cX5_link 11 = .ok (.sipush (-1001), 3) := by decide +kernel
theorem dX5_link_14 : decode cX5_link 14 = .ok (.ireturn, 1) := by decide +kernel
theorem dX5_link_15 : decode cX5_link 15 = .ok (.iload_n 2, 1) := by decide +kernel
theorem dX5_link_16 : decode cX5_link 16 = .ok (.tableswitch 55 0 2 #[28, 37, 46], 28) := by decide +kernel
theorem dX5_link_44 : decode cX5_link 44 = .ok (.aload_n 0, 1) := by decide +kernel
theorem dX5_link_45 : decode cX5_link 45 = .ok (.getfield 19, 3) := by decide +kernel
theorem dX5_link_48 : decode cX5_link 48 = .ok (.iload_n 1, 1) := by decide +kernel
theorem dX5_link_49 : decode cX5_link 49 = .ok (.invokevirtual 107, 3) := by decide +kernel
theorem dX5_link_52 : decode cX5_link 52 = .ok (.ireturn, 1) := by decide +kernel
theorem dX5_link_53 : decode cX5_link 53 = .ok (.aload_n 0, 1) := by decide +kernel
theorem dX5_link_54 : decode cX5_link 54 = .ok (.getfield 19, 3) := by decide +kernel
theorem dX5_link_57 : decode cX5_link 57 = .ok (.iload_n 1, 1) := by decide +kernel
theorem dX5_link_58 : decode cX5_link 58 = .ok (.invokevirtual 110, 3) := by decide +kernel
theorem dX5_link_61 : decode cX5_link 61 = .ok (.ireturn, 1) := by decide +kernel
theorem dX5_link_62 : decode cX5_link 62 = .ok (.aload_n 0, 1) := by decide +kernel
theorem dX5_link_63 : decode cX5_link 63 = .ok (.getfield 33, 3) := by decide +kernel
theorem dX5_link_66 : decode cX5_link 66 = .ok (.iload_n 1, 1) := by decide +kernel
theorem dX5_link_67 : decode cX5_link 67 = .ok (.invokevirtual 113, 3) := by decide +kernel
theorem dX5_link_70 : decode cX5_link 70 = .ok (.ireturn, 1) := by decide +kernel
theorem dX5_link_71 : decode cX5_link 71 = .ok (.sipush (-1002), 3) := by decide +kernel
theorem dX5_link_74 : decode cX5_link 74 = .ok (.ireturn, 1) := by decide +kernel
set_option maxRecDepth 20000 in
theorem ggX5_way_X2_hasNode : GoodIn wsX5_way wsX2_hasNode := goodIn_r _ [6, 7, 28, 29, 30, 31, 32, 33, 34, 35] (by decide +kernel) (by decide +kernel)
set_option maxRecDepth 20000 in
theorem gX5_way_X2_hasNode : GoodIn wsX5_way (wsV RX5 116 RX2 yX2_hasNode wsX2_hasNode) := goodIn_app (goodIn_of _ (by decide +kernel)) ggX5_way_X2_hasNode
set_option maxRecDepth 20000 in
theorem ggX5_way_X2_nodeOnWay : GoodIn wsX5_way wsX2_nodeOnWay := goodIn_r _ [11, 12, 13, 14, 3, 4, 5, 6, 7, 15, 16, 17, 28, 29, 30, 31, 32, 33, 34, 35] (by decide +kernel) (by decide +kernel)
set_option maxRecDepth 20000 in
theorem gX5_way_X2_nodeOnWay : GoodIn wsX5_way (wsV RX5 119 RX2 yX2_nodeOnWay wsX2_nodeOnWay) := goodIn_app (goodIn_of _ (by decide +kernel)) ggX5_way_X2_nodeOnWay
theorem dX5_way_0 : decode cX5_way 0 = .ok (.aload_n 0, 1) := by decide +kernel
theorem dX5_way_1 : decode cX5_way 1 = .ok (.getfield 19, 3) := by decide +kernel
theorem dX5_way_4 : decode cX5_way 4 = .ok (.iload_n 1, 1) := by decide +kernel
theorem dX5_way_5 : decode cX5_way 5 = .ok (.invokevirtual 116, 3) := by decide +kernel
theorem dX5_way_8 : decode cX5_way 8 = .ok (.ifCond .eq 14, 3) := by decide +kernel
theorem dX5_way_11 : decode cX5_way 11 = .ok (.aload_n 0, 1) := by decide +kernel
theorem dX5_way_12 : decode cX5_way 12 = .ok (.getfield 19, 3) := by decide +kernel
theorem dX5_way_15 : decode cX5_way 15 = .ok (.iload_n 2, 1) := by decide +kernel
theorem dX5_way_16 : decode cX5_way 16 = .ok (.invokevirtual 116, 3) := by decide +kernel
theorem dX5_way_19 : decode cX5_way 19 = .ok (.ifCond .ne 7, 3) := by decide +kernel
theorem dX5_way_22 : decode cX5_way 22 = .ok (.sipush (-1001), 3) := by decide +kernel
theorem dX5_way_25 : decode cX5_way 25 = .ok (.ireturn, 1) := by decide +kernel
theorem dX5_way_26 : decode cX5_way 26 = .ok (.aload_n 0, 1) := by decide +kernel
theorem dX5_way_27 : decode cX5_way 27 = .ok (.getfield 19, 3) := by decide +kernel
theorem dX5_way_30 : decode cX5_way 30 = .ok (.iload_n 1, 1) := by decide +kernel
theorem dX5_way_31 : decode cX5_way 31 = .ok (.iload_n 2, 1) := by decide +kernel
theorem dX5_way_32 : decode cX5_way 32 = .ok (.iload_n 3, 1) := by decide +kernel
theorem dX5_way_33 : decode cX5_way 33 = .ok (.invokevirtual 119, 3) := by decide +kernel
theorem dX5_way_36 : decode cX5_way 36 = .ok (.ireturn, 1) := by decide +kernel
set_option maxRecDepth 20000 in
theorem ggX5_tree_X2_hasNode : GoodIn wsX5_tree wsX2_hasNode := goodIn_r _ [6, 7, 35, 36, 37, 38, 39, 40, 41, 42] (by decide +kernel) (by decide +kernel)
set_option maxRecDepth 20000 in
theorem gX5_tree_X2_hasNode : GoodIn wsX5_tree (wsV RX5 116 RX2 yX2_hasNode wsX2_hasNode) := goodIn_app (goodIn_of _ (by decide +kernel)) ggX5_tree_X2_hasNode
set_option maxRecDepth 20000 in
theorem ggX5_tree_X2_hasNodes : GoodIn wsX5_tree wsX2_hasNodes := goodIn_r _ [11, 12, 13, 14, 5, 15, 7, 35, 36, 37, 38, 39, 40, 41, 42] (by decide +kernel) (by decide +kernel)
set_option maxRecDepth 20000 in
theorem gX5_tree_X2_hasNodes : GoodIn wsX5_tree (wsV RX5 123 RX2 yX2_hasNodes wsX2_hasNodes) := goodIn_app (goodIn_of _ (by decide +kernel)) ggX5_tree_X2_hasNodes
set_option maxRecDepth 20000 in
theorem ggX5_tree_X2_treeLinks : GoodIn wsX5_tree wsX2_treeLinks := goodIn_r _ [19, 7, 20, 21, 3, 4, 5, 6, 22, 23, 24, 35, 36, 37, 38, 39, 40, 41, 42] (by decide +kernel) (by decide +kernel)
set_option maxRecDepth 20000 in
theorem gX5_tree_X2_treeLinks : GoodIn wsX5_tree (wsV RX5 126 RX2 yX2_treeLinks wsX2_treeLinks) := goodIn_app (goodIn_of _ (by decide +kernel)) ggX5_tree_X2_treeLinks
theorem dX5_tree_0 : decode cX5_tree 0 = .ok (.aload_n 0, 1) := by decide +kernel
theorem dX5_tree_1 : decode cX5_tree 1 = .ok (.getfield 19, 3) := by decide +kernel
theorem dX5_tree_4 : decode cX5_tree 4 = .ok (.iload_n 1, 1) := by decide +kernel
theorem dX5_tree_5 : decode cX5_tree 5 = .ok (.invokevirtual 116, 3) := by decide +kernel
theorem dX5_tree_8 : decode cX5_tree 8 = .ok (.ifCond .ne 7, 3) := by decide +kernel
theorem dX5_tree_11 : decode cX5_tree 11 = .ok (.sipush (-1001), 3) := by decide +kernel
theorem dX5_tree_14 : decode cX5_tree 14 = .ok (.ireturn, 1) := by decide +kernel
theorem dX5_tree_15 : decode cX5_tree 15 = .ok (.aload_n 0, 1) := by decide +kernel
theorem dX5_tree_16 : decode cX5_tree 16 = .ok (.getfield 19, 3) := by decide +kernel
theorem dX5_tree_19 : decode cX5_tree 19 = .ok (.iload_n 2, 1) := by decide +kernel
theorem dX5_tree_20 : decode cX5_tree 20 = .ok (.invokevirtual 123, 3) := by decide +kernel
theorem dX5_tree_23 : decode cX5_tree 23 = .ok (.ifCond .ne 7, 3) := by decide +kernel
theorem dX5_tree_26 : decode cX5_tree 26 = .ok (.sipush (-1002), 3) := by decide +kernel
theorem dX5_tree_29 : decode cX5_tree 29 = .ok (.ireturn, 1) := by decide +kernel
theorem dX5_tree_30 : decode cX5_tree 30 = .ok (.aload_n 0, 1) := by decide +kernel
theorem dX5_tree_31 : decode cX5_tree 31 = .ok (.getfield 19, 3) := by decide +kernel
theorem dX5_tree_34 : decode cX5_tree 34 = .ok (.iload_n 1, 1) := by decide +kernel
theorem dX5_tree_35 : decode cX5_tree 35 = .ok (.iload_n 2, 1) := by decide +kernel
theorem dX5_tree_36 : decode cX5_tree 36 = .ok (.invokevirtual 126, 3) := by decide +kernel
theorem dX5_tree_39 : decode cX5_tree 39 = .ok (.ireturn, 1) := by decide +kernel
set_option maxRecDepth 20000 in
theorem ggX5_bind_X5_isPlace : GoodIn wsX5_bind wsX5_isPlace := goodIn_r _ [6] (by decide +kernel) (by decide +kernel)
set_option maxRecDepth 20000 in
theorem gX5_bind_X5_isPlace : GoodIn wsX5_bind (va_wsS RX5 130 yX5_isPlace wsX5_isPlace) := goodIn_app (goodIn_of _ (by decide +kernel)) ggX5_bind_X5_isPlace
set_option maxRecDepth 20000 in
theorem ggX5_bind_X2_hasNode : GoodIn wsX5_bind wsX2_hasNode := goodIn_r _ [11, 12, 61, 62, 63, 64, 65, 66, 67, 68] (by decide +kernel) (by decide +kernel)
set_option maxRecDepth 20000 in
theorem gX5_bind_X2_hasNode : GoodIn wsX5_bind (wsV RX5 116 RX2 yX2_hasNode wsX2_hasNode) := goodIn_app (goodIn_of _ (by decide +kernel)) ggX5_bind_X2_hasNode
set_option maxRecDepth 20000 in
theorem ggX5_bind_X2_hasNodes : GoodIn wsX5_bind wsX2_hasNodes := goodIn_r _ [16, 17, 18, 19, 10, 20, 12, 61, 62, 63, 64, 65, 66, 67, 68] (by decide +kernel) (by decide +kernel)
set_option maxRecDepth 20000 in
theorem gX5_bind_X2_hasNodes : GoodIn wsX5_bind (wsV RX5 123 RX2 yX2_hasNodes wsX2_hasNodes) := goodIn_app (goodIn_of _ (by decide +kernel)) ggX5_bind_X2_hasNodes
set_option maxRecDepth 20000 in
theorem ggX5_bind_X2_treeLinks : GoodIn wsX5_bind wsX2_treeLinks := goodIn_r _ [24, 12, 25, 26, 8, 9, 10, 11, 27, 28, 29, 61, 62, 63, 64, 65, 66, 67, 68] (by decide +kernel) (by decide +kernel)
set_option maxRecDepth 20000 in
theorem gX5_bind_X2_treeLinks : GoodIn wsX5_bind (wsV RX5 126 RX2 yX2_treeLinks wsX2_treeLinks) := goodIn_app (goodIn_of _ (by decide +kernel)) ggX5_bind_X2_treeLinks
set_option maxRecDepth 20000 in
theorem ggX5_bind_X0_isThere : GoodIn wsX5_bind wsX0_isThere := goodIn_r _ [34, 35, 36, 37, 33, 38, 39, 4, 5, 6, 69] (by decide +kernel) (by decide +kernel)
set_option maxRecDepth 20000 in
theorem gX5_bind_X0_isThere : GoodIn wsX5_bind (wsV RX5 133 RX0 yX0_isThere wsX0_isThere) := goodIn_app (goodIn_of _ (by decide +kernel)) ggX5_bind_X0_isThere
set_option maxRecDepth 20000 in
theorem ggX5_bind_X0_put : GoodIn wsX5_bind wsX0_put := goodIn_r _ [43, 39, 4, 5, 6, 69] (by decide +kernel) (by decide +kernel)
set_option maxRecDepth 20000 in
theorem gX5_bind_X0_put : GoodIn wsX5_bind (wsV RX5 136 RX0 yX0_put wsX0_put) := goodIn_app (goodIn_of _ (by decide +kernel)) ggX5_bind_X0_put
set_option maxRecDepth 20000 in
theorem ggX5_bind_J6_bitCount_0f7a4 : GoodIn wsX5_bind wsJ6_bitCount_0f7a4 := goodIn_r _ [47, 48, 49, 50] (by decide +kernel) (by decide +kernel)
set_option maxRecDepth 20000 in
theorem gX5_bind_J6_bitCount_0f7a4 : GoodIn wsX5_bind (va_wsS RX5 139 yJ6_bitCount_0f7a4 wsJ6_bitCount_0f7a4) := goodIn_app (goodIn_of _ (by decide +kernel)) ggX5_bind_J6_bitCount_0f7a4
theorem dX5_bind_0 : decode cX5_bind 0 = .ok (.iload_n 1, 1) := by decide +kernel
theorem dX5_bind_1 : decode cX5_bind 1 = .ok (.invokestatic 130, 3) := by decide +kernel
theorem dX5_bind_4 : decode cX5_bind 4 = .ok (.ifCond .eq 14, 3) := by decide +kernel
theorem dX5_bind_7 : decode cX5_bind 7 = .ok (.aload_n 0, 1) := by decide +kernel
theorem dX5_bind_8 : decode cX5_bind 8 = .ok (.getfield 19, 3) := by decide +kernel
theorem dX5_bind_11 : decode cX5_bind 11 = .ok (.iload_n 2, 1) := by decide +kernel
theorem dX5_bind_12 : decode cX5_bind 12 = .ok (.invokevirtual 116, 3) := by decide +kernel
theorem dX5_bind_15 : decode cX5_bind 15 = .ok (.ifCond .ne 7, 3) := by decide +kernel
theorem dX5_bind_18 : decode cX5_bind 18 = .ok (.sipush (-1001), 3) := by decide +kernel
theorem dX5_bind_21 : decode cX5_bind 21 = .ok (.ireturn, 1) := by decide +kernel
theorem dX5_bind_22 : decode cX5_bind 22 = .ok (.aload_n 0, 1) := by decide +kernel
theorem dX5_bind_23 : decode cX5_bind 23 = .ok (.getfield 19, 3) := by decide +kernel
theorem dX5_bind_26 : decode cX5_bind 26 = .ok (.iload_n 3, 1) := by decide +kernel
theorem dX5_bind_27 : decode cX5_bind 27 = .ok (.invokevirtual 123, 3) := by decide +kernel
theorem dX5_bind_30 : decode cX5_bind 30 = .ok (.ifCond .ne 7, 3) := by decide +kernel
theorem dX5_bind_33 : decode cX5_bind 33 = .ok (.sipush (-1002), 3) := by decide +kernel
theorem dX5_bind_36 : decode cX5_bind 36 = .ok (.ireturn, 1) := by decide +kernel
theorem dX5_bind_37 : decode cX5_bind 37 = .ok (.aload_n 0, 1) := by decide +kernel
theorem dX5_bind_38 : decode cX5_bind 38 = .ok (.getfield 19, 3) := by decide +kernel
theorem dX5_bind_41 : decode cX5_bind 41 = .ok (.iload_n 2, 1) := by decide +kernel
theorem dX5_bind_42 : decode cX5_bind 42 = .ok (.iload_n 3, 1) := by decide +kernel
theorem dX5_bind_43 : decode cX5_bind 43 = .ok (.invokevirtual 126, 3) := by decide +kernel
theorem dX5_bind_46 : decode cX5_bind 46 = .ok (.istore 4, 2) := by decide +kernel
theorem dX5_bind_48 : decode cX5_bind 48 = .ok (.iload 4, 2) := by decide +kernel
theorem dX5_bind_50 : decode cX5_bind 50 = .ok (.ifCond .ne 7, 3) := by decide +kernel
theorem dX5_bind_53 : decode cX5_bind 53 = .ok (.sipush (-1003), 3) := by decide +kernel
theorem dX5_bind_56 : decode cX5_bind 56 = .ok (.ireturn, 1) := by decide +kernel
theorem dX5_bind_57 : decode cX5_bind 57 = .ok (.aload_n 0, 1) := by decide +kernel
theorem dX5_bind_58 : decode cX5_bind 58 = .ok (.getfield 33, 3) := by decide +kernel
theorem dX5_bind_61 : decode cX5_bind 61 = .ok (.iload_n 1, 1) := by decide +kernel
theorem dX5_bind_62 : decode cX5_bind 62 = .ok (.invokevirtual 133, 3) := by decide +kernel
theorem dX5_bind_65 : decode cX5_bind 65 = .ok (.ifCond .eq 7, 3) := by decide +kernel
theorem dX5_bind_68 : decode cX5_bind 68 = .ok (.sipush (-1004), 3) := by decide +kernel
theorem dX5_bind_71 : decode cX5_bind 71 = .ok (.ireturn, 1) := by decide +kernel
theorem dX5_bind_72 : decode cX5_bind 72 = .ok (.aload_n 0, 1) := by decide +kernel
theorem dX5_bind_73 : decode cX5_bind 73 = .ok (.getfield 33, 3) := by decide +kernel
theorem dX5_bind_76 : decode cX5_bind 76 = .ok (.iload_n 1, 1) := by decide +kernel
theorem dX5_bind_77 : decode cX5_bind 77 = .ok (.iload 4, 2) := by decide +kernel
theorem dX5_bind_79 : decode cX5_bind 79 = .ok (.invokevirtual 136, 3) := by decide +kernel
theorem dX5_bind_82 : decode cX5_bind 82 = .ok (.iload 4, 2) := by decide +kernel
theorem dX5_bind_84 : decode cX5_bind 84 = .ok (.invokestatic 139, 3) := by decide +kernel
theorem dX5_bind_87 : decode cX5_bind 87 = .ok (.ireturn, 1) := by decide +kernel
set_option maxRecDepth 20000 in
theorem ggX5_loosen_X5_isPlace : GoodIn wsX5_loosen wsX5_isPlace := goodIn_r _ [5] (by decide +kernel) (by decide +kernel)
set_option maxRecDepth 20000 in
theorem gX5_loosen_X5_isPlace : GoodIn wsX5_loosen (va_wsS RX5 130 yX5_isPlace wsX5_isPlace) := goodIn_app (goodIn_of _ (by decide +kernel)) ggX5_loosen_X5_isPlace
set_option maxRecDepth 20000 in
theorem ggX5_loosen_X0_isThere : GoodIn wsX5_loosen wsX0_isThere := goodIn_r _ [10, 11, 12, 13, 9, 14, 15, 3, 4, 5, 31] (by decide +kernel) (by decide +kernel)
set_option maxRecDepth 20000 in
theorem gX5_loosen_X0_isThere : GoodIn wsX5_loosen (wsV RX5 133 RX0 yX0_isThere wsX0_isThere) := goodIn_app (goodIn_of _ (by decide +kernel)) ggX5_loosen_X0_isThere
set_option maxRecDepth 20000 in
theorem ggX5_loosen_X0_linksAt : GoodIn wsX5_loosen wsX0_linksAt := goodIn_r _ [14, 15, 3, 4, 5, 31] (by decide +kernel) (by decide +kernel)
set_option maxRecDepth 20000 in
theorem gX5_loosen_X0_linksAt : GoodIn wsX5_loosen (wsV RX5 144 RX0 yX0_linksAt wsX0_linksAt) := goodIn_app (goodIn_of _ (by decide +kernel)) ggX5_loosen_X0_linksAt
set_option maxRecDepth 20000 in
theorem ggX5_loosen_X0_put : GoodIn wsX5_loosen wsX0_put := goodIn_r _ [20, 15, 3, 4, 5, 31] (by decide +kernel) (by decide +kernel)
set_option maxRecDepth 20000 in
theorem gX5_loosen_X0_put : GoodIn wsX5_loosen (wsV RX5 136 RX0 yX0_put wsX0_put) := goodIn_app (goodIn_of _ (by decide +kernel)) ggX5_loosen_X0_put
theorem dX5_loosen_0 : decode cX5_loosen 0 = .ok (.iload_n 1, 1) := by decide +kernel
theorem dX5_loosen_1 : decode cX5_loosen 1 = .ok (.invokestatic 130, 3) := by decide +kernel
theorem dX5_loosen_4 : decode cX5_loosen 4 = .ok (.ifCond .ne 7, 3) := by decide +kernel
theorem dX5_loosen_7 : decode cX5_loosen 7 = .ok (.sipush (-1001), 3) := by decide +kernel
theorem dX5_loosen_10 : decode cX5_loosen 10 = .ok (.ireturn, 1) := by decide +kernel
theorem dX5_loosen_11 : decode cX5_loosen 11 = .ok (.aload_n 0, 1) := by decide +kernel
theorem dX5_loosen_12 : decode cX5_loosen 12 = .ok (.getfield 33, 3) := by decide +kernel
theorem dX5_loosen_15 : decode cX5_loosen 15 = .ok (.iload_n 1, 1) := by decide +kernel
theorem dX5_loosen_16 : decode cX5_loosen 16 = .ok (.invokevirtual 133, 3) := by decide +kernel
theorem dX5_loosen_19 : decode cX5_loosen 19 = .ok (.ifCond .ne 7, 3) := by decide +kernel
theorem dX5_loosen_22 : decode cX5_loosen 22 = .ok (.sipush (-1003), 3) := by decide +kernel
theorem dX5_loosen_25 : decode cX5_loosen 25 = .ok (.ireturn, 1) := by decide +kernel
theorem dX5_loosen_26 : decode cX5_loosen 26 = .ok (.aload_n 0, 1) := by decide +kernel
theorem dX5_loosen_27 : decode cX5_loosen 27 = .ok (.getfield 33, 3) := by decide +kernel
theorem dX5_loosen_30 : decode cX5_loosen 30 = .ok (.iload_n 1, 1) := by decide +kernel
theorem dX5_loosen_31 : decode cX5_loosen 31 = .ok (.invokevirtual 144, 3) := by decide +kernel
theorem dX5_loosen_34 : decode cX5_loosen 34 = .ok (.istore_n 2, 1) := by decide +kernel
theorem dX5_loosen_35 : decode cX5_loosen 35 = .ok (.aload_n 0, 1) := by decide +kernel
theorem dX5_loosen_36 : decode cX5_loosen 36 = .ok (.getfield 33, 3) := by decide +kernel
theorem dX5_loosen_39 : decode cX5_loosen 39 = .ok (.iload_n 1, 1) := by decide +kernel
theorem dX5_loosen_40 : decode cX5_loosen 40 = .ok (.iconst 0, 1) := by decide +kernel
theorem dX5_loosen_41 : decode cX5_loosen 41 = .ok (.invokevirtual 136, 3) := by decide +kernel
theorem dX5_loosen_44 : decode cX5_loosen 44 = .ok (.iload_n 2, 1) := by decide +kernel
theorem dX5_loosen_45 : decode cX5_loosen 45 = .ok (.ireturn, 1) := by decide +kernel
set_option maxRecDepth 20000 in
theorem ggX5_bound_X5_isPlace : GoodIn wsX5_bound wsX5_isPlace := goodIn_r _ [8] (by decide +kernel) (by decide +kernel)
set_option maxRecDepth 20000 in
theorem gX5_bound_X5_isPlace : GoodIn wsX5_bound (va_wsS RX5 130 yX5_isPlace wsX5_isPlace) := goodIn_app (goodIn_of _ (by decide +kernel)) ggX5_bound_X5_isPlace
set_option maxRecDepth 20000 in
theorem ggX5_bound_X0_isThere : GoodIn wsX5_bound wsX0_isThere := goodIn_r _ [13, 14, 15, 16, 12, 17, 18, 6, 7, 8, 38] (by decide +kernel) (by decide +kernel)
set_option maxRecDepth 20000 in
theorem gX5_bound_X0_isThere : GoodIn wsX5_bound (wsV RX5 133 RX0 yX0_isThere wsX0_isThere) := goodIn_app (goodIn_of _ (by decide +kernel)) ggX5_bound_X0_isThere
set_option maxRecDepth 20000 in
theorem ggX5_bound_X5_isVariant : GoodIn wsX5_bound wsX5_isVariant := goodIn_r _ [21] (by decide +kernel) (by decide +kernel)
set_option maxRecDepth 20000 in
theorem gX5_bound_X5_isVariant : GoodIn wsX5_bound (va_wsS RX5 98 yX5_isVariant wsX5_isVariant) := goodIn_app (goodIn_of _ (by decide +kernel)) ggX5_bound_X5_isVariant
