set_option maxRecDepth 20000 in
theorem gX5_withPage_X4_size : GoodIn wsX5_withPage (wsV RX5 52 RX4 yX4_size wsX4_size) := goodIn_app (goodIn_of _ (by decide +kernel)) ggX5_withPage_X4_size
set_option maxRecDepth 20000 in
theorem ggX5_withPage_X4_codeAt : GoodIn wsX5_withPage wsX4_codeAt := goodIn_r _ [11, 7, 12, 28, 29] (by decide +kernel) (by decide +kernel)
set_option maxRecDepth 20000 in
theorem gX5_withPage_X4_codeAt : GoodIn wsX5_withPage (wsV RX5 252 RX4 yX4_codeAt wsX4_codeAt) := goodIn_app (goodIn_of _ (by decide +kernel)) ggX5_withPage_X4_codeAt
set_option maxRecDepth 20000 in
theorem ggX5_withPage_X5_with : GoodIn wsX5_withPage wsX5_with := goodIn_r _ [16, 17] (by decide +kernel) (by decide +kernel)
set_option maxRecDepth 20000 in
theorem gX5_withPage_X5_with : GoodIn wsX5_withPage (va_wsS RX5 245 yX5_with wsX5_with) := goodIn_app (goodIn_of _ (by decide +kernel)) ggX5_withPage_X5_with
theorem dX5_withPage_0 : decode cX5_withPage 0 = .ok (.lload_n 1, 1) := by decide +kernel
theorem dX5_withPage_1 : decode cX5_withPage 1 = .ok (.lstore_n 3, 1) := by decide +kernel
theorem dX5_withPage_2 : decode cX5_withPage 2 = .ok (.iconst 0, 1) := by decide +kernel
theorem dX5_withPage_3 : decode cX5_withPage 3 = .ok (.istore 5, 2) := by decide +kernel
theorem dX5_withPage_5 : decode cX5_withPage 5 = .ok (.iload 5, 2) := by decide +kernel
theorem dX5_withPage_7 : decode cX5_withPage 7 = .ok (.aload_n 0, 1) := by decide +kernel
theorem dX5_withPage_8 : decode cX5_withPage 8 = .ok (.getfield 10, 3) := by decide +kernel
theorem dX5_withPage_11 : decode cX5_withPage 11 = .ok (.invokevirtual 52, 3) := by decide +kernel
theorem dX5_withPage_14 : decode cX5_withPage 14 = .ok (.if_icmp .ge 24, 3) := by decide +kernel
theorem dX5_withPage_17 : decode cX5_withPage 17 = .ok (.lload_n 3, 1) := by decide +kernel
theorem dX5_withPage_18 : decode cX5_withPage 18 = .ok (.aload_n 0, 1) := by decide +kernel
theorem dX5_withPage_19 : decode cX5_withPage 19 = .ok (.getfield 10, 3) := by decide +kernel
theorem dX5_withPage_22 : decode cX5_withPage 22 = .ok (.iload 5, 2) := by decide +kernel
theorem dX5_withPage_24 : decode cX5_withPage 24 = .ok (.invokevirtual 252, 3) := by decide +kernel
theorem dX5_withPage_27 : decode cX5_withPage 27 = .ok (.i2l, 1) := by decide +kernel
theorem dX5_withPage_28 : decode cX5_withPage 28 = .ok (.invokestatic 245, 3) := by decide +kernel
theorem dX5_withPage_31 : decode cX5_withPage 31 = .ok (.lstore_n 3, 1) := by decide +kernel
theorem dX5_withPage_32 : decode cX5_withPage 32 = .ok (.iinc 5 1, 3) := by decide +kernel
theorem dX5_withPage_35 : decode cX5_withPage 35 = .ok (.goto (-30), 3) := by decide +kernel
theorem dX5_withPage_38 : decode cX5_withPage 38 = .ok (.lload_n 3, 1) := by decide +kernel
theorem dX5_withPage_39 : decode cX5_withPage 39 = .ok (.lreturn, 1) := by decide +kernel
set_option maxRecDepth 20000 in
theorem ggX5_withCounts_X5_count : GoodIn wsX5_withCounts wsX5_count := goodIn_r _ [5, 6, 7, 8, 9, 10, 11, 12, 13, 14, 15, 16, 17, 18, 19, 20, 21, 22, 23, 24, 25, 26, 27, 28, 29, 30, 31, 32, 33, 34, 35, 36, 37, 38, 39, 40, 41, 42, 43, 44, 45, 46, 47, 48, 49, 50, 51, 52, 53, 54, 4, 55, 60, 61, 62, 63, 64, 65, 66, 67, 68, 69, 70, 71, 72, 73, 74, 75, 76, 77, 78, 79, 80, 81, 82, 83, 84, 85] (by decide +kernel) (by decide +kernel)
set_option maxRecDepth 20000 in
theorem gX5_withCounts_X5_count : GoodIn wsX5_withCounts (wsV RX5 255 RX5 yX5_count wsX5_count) := goodIn_app (goodIn_of _ (by decide +kernel)) ggX5_withCounts_X5_count
set_option maxRecDepth 20000 in
theorem ggX5_withCounts_X5_with : GoodIn wsX5_withCounts wsX5_with := goodIn_r _ [58, 59] (by decide +kernel) (by decide +kernel)
set_option maxRecDepth 20000 in
theorem gX5_withCounts_X5_with : GoodIn wsX5_withCounts (va_wsS RX5 245 yX5_with wsX5_with) := goodIn_app (goodIn_of _ (by decide +kernel)) ggX5_withCounts_X5_with
theorem dX5_withCounts_0 : decode cX5_withCounts 0 = .ok (.lload_n 1, 1) := by decide +kernel
theorem dX5_withCounts_1 : decode cX5_withCounts 1 = .ok (.lstore_n 3, 1) := by decide +kernel
theorem dX5_withCounts_2 : decode cX5_withCounts 2 = .ok (.iconst 0, 1) := by decide +kernel
theorem dX5_withCounts_3 : decode cX5_withCounts 3 = .ok (.istore 5, 2) := by decide +kernel
theorem dX5_withCounts_5 : decode cX5_withCounts 5 = .ok (.iload 5, 2) := by decide +kernel
theorem dX5_withCounts_7 : decode cX5_withCounts 7 = .ok (.bipush 12, 2) := by decide +kernel
theorem dX5_withCounts_9 : decode cX5_withCounts 9 = .ok (.if_icmp .ge 21, 3) := by decide +kernel
theorem dX5_withCounts_12 : decode cX5_withCounts 12 = .ok (.lload_n 3, 1) := by decide +kernel
theorem dX5_withCounts_13 : decode cX5_withCounts 13 = .ok (.aload_n 0, 1) := by decide +kernel
theorem dX5_withCounts_14 : decode cX5_withCounts 14 = .ok (.iload 5, 2) := by decide +kernel
theorem dX5_withCounts_16 : decode cX5_withCounts 16 = .ok (.invokevirtual 255, 3) := by decide +kernel
theorem dX5_withCounts_19 : decode cX5_withCounts 19 = .ok (.i2l, 1) := by decide +kernel
theorem dX5_withCounts_20 : decode cX5_withCounts 20 = .ok (.invokestatic 245, 3) := by decide +kernel
theorem dX5_withCounts_23 : decode cX5_withCounts 23 = .ok (.lstore_n 3, 1) := by decide +kernel
theorem dX5_withCounts_24 : decode cX5_withCounts 24 = .ok (.iinc 5 1, 3) := by decide +kernel
theorem dX5_withCounts_27 : decode cX5_withCounts 27 = .ok (.goto (-22), 3) := by decide +kernel
theorem dX5_withCounts_30 : decode cX5_withCounts 30 = .ok (.lload_n 3, 1) := by decide +kernel
theorem dX5_withCounts_31 : decode cX5_withCounts 31 = .ok (.lreturn, 1) := by decide +kernel
theorem dX6_init_0 : decode cX6_init 0 = .ok (.aload_n 0, 1) := by decide +kernel
theorem dX6_init_1 : decode cX6_init 1 = .ok (.invokespecial 1, 3) := by decide +kernel
theorem dX6_init_4 : decode cX6_init 4 = .ok (.aload_n 0, 1) := by decide +kernel
theorem dX6_init_5 : decode cX6_init 5 = .ok (.bipush 25, 2) := by decide +kernel
theorem dX6_init_7 : decode cX6_init 7 = .ok (.newarray .int, 2) := by decide +kernel
theorem dX6_init_9 : decode cX6_init 9 = .ok (.putfield 7, 3) := by decide +kernel
theorem dX6_init_12 : decode cX6_init 12 = .ok (.aload_n 0, 1) := by decide +kernel
theorem dX6_init_13 : decode cX6_init 13 = .ok (.bipush 16, 2) := by decide +kernel
theorem dX6_init_15 : decode cX6_init 15 = .ok (.newarray .int, 2) := by decide +kernel
theorem dX6_init_17 : decode cX6_init 17 = .ok (.putfield 13, 3) := by decide +kernel
theorem dX6_init_20 : decode cX6_init 20 = .ok (.aload_n 0, 1) := by decide +kernel
theorem dX6_init_21 : decode cX6_init 21 = .ok (.bipush 16, 2) := by decide +kernel
theorem dX6_init_23 : decode cX6_init 23 = .ok (.newarray .int, 2) := by decide +kernel
theorem dX6_init_25 : decode cX6_init 25 = .ok (.putfield 16, 3) := by decide +kernel
theorem dX6_init_28 : decode cX6_init 28 = .ok (.aload_n 0, 1) := by decide +kernel
theorem dX6_init_29 : decode cX6_init 29 = .ok (.bipush 16, 2) := by decide +kernel
theorem dX6_init_31 : decode cX6_init 31 = .ok (.putfield 19, 3) := by decide +kernel
theorem dX6_init_34 : decode cX6_init 34 = .ok (.aload_n 0, 1) := by decide +kernel
theorem dX6_init_35 : decode cX6_init 35 = .ok (.iconst 3, 1) := by decide +kernel
theorem dX6_init_36 : decode cX6_init 36 = .ok (.putfield 23, 3) := by decide +kernel
theorem dX6_init_39 : decode cX6_init 39 = .ok (.aload_n 0, 1) := by decide +kernel
theorem dX6_init_40 : decode cX6_init 40 = .ok (.iconst 1, 1) := by decide +kernel
theorem dX6_init_41 : decode cX6_init 41 = .ok (.putfield 26, 3) := by decide +kernel
theorem dX6_init_44 : decode cX6_init 44 = .ok (.aload_n 0, 1) := by decide +kernel
theorem dX6_init_45 : decode cX6_init 45 = .ok (.iconst 4, 1) := by decide +kernel
theorem dX6_init_46 : decode cX6_init 46 = .ok (.newarray .int, 2) := by decide +kernel
theorem dX6_init_48 : decode cX6_init 48 = .ok (.putfield 29, 3) := by decide +kernel
theorem dX6_init_51 : decode cX6_init 51 = .ok (.aload_n 0, 1) := by decide +kernel
theorem dX6_init_52 : decode cX6_init 52 = .ok (.bipush 8, 2) := by decide +kernel
theorem dX6_init_54 : decode cX6_init 54 = .ok (.newarray .int, 2) := by decide +kernel
theorem dX6_init_56 : decode cX6_init 56 = .ok (.putfield 32, 3) := by decide +kernel
theorem dX6_init_59 : decode cX6_init 59 = .ok (.aload_n 0, 1) := by decide +kernel
theorem dX6_init_60 : decode cX6_init 60 = .ok (.bipush 8, 2) := by decide +kernel
theorem dX6_init_62 : decode cX6_init 62 = .ok (.newarray .int, 2) := by decide +kernel
theorem dX6_init_64 : decode cX6_init 64 = .ok (.putfield 35, 3) := by decide +kernel
theorem dX6_init_67 : decode cX6_init 67 = .ok (.aload_n 0, 1) := by decide +kernel
theorem dX6_init_68 : decode cX6_init 68 = .ok (.bipush 60, 2) := by decide +kernel
theorem dX6_init_70 : decode cX6_init 70 = .ok (.newarray .long, 2) := by decide +kernel
theorem dX6_init_72 : decode cX6_init 72 = .ok (.putfield 38, 3) := by decide +kernel
theorem dX6_init_75 : decode cX6_init 75 = .ok (.aload_n 0, 1) := by decide +kernel
theorem dX6_init_76 : decode cX6_init 76 = .ok (.bipush 6, 2) := by decide +kernel
theorem dX6_init_78 : decode cX6_init 78 = .ok (.newarray .int, 2) := by decide +kernel
theorem dX6_init_80 : decode cX6_init 80 = .ok (.putfield 42, 3) := by decide +kernel
theorem dX6_init_83 : decode cX6_init 83 = .ok (.aload_n 0, 1) := by decide +kernel
theorem dX6_init_84 : decode cX6_init 84 = .ok (.bipush 6, 2) := by decide +kernel
theorem dX6_init_86 : decode cX6_init 86 = .ok (.newarray .int, 2) := by decide +kernel
theorem dX6_init_88 : decode cX6_init 88 = .ok (.putfield 45, 3) := by decide +kernel
theorem dX6_init_91 : decode cX6_init 91 = .ok (.return_, 1) := by decide +kernel
theorem dX6_within_0 : decode cX6_within 0 = .ok (.iload_n 0, 1) := by decide +kernel
theorem dX6_within_1 : decode cX6_within 1 = .ok (.iload_n 1, 1) := by decide +kernel
theorem dX6_within_2 : decode cX6_within 2 = .ok (.if_icmp .lt 12, 3) := by decide +kernel
theorem dX6_within_5 : decode cX6_within 5 = .ok (.iload_n 0, 1) := by decide +kernel
theorem dX6_within_6 : decode cX6_within 6 = .ok (.iload_n 2, 1) := by decide +kernel
theorem dX6_within_7 : decode cX6_within 7 = .ok (.if_icmp .gt 7, 3) := by decide +kernel
theorem dX6_within_10 : decode cX6_within 10 = .ok (.iconst 1, 1) := by decide +kernel
theorem dX6_within_11 : decode cX6_within 11 = .ok (.goto 4, 3) := by decide +kernel
theorem dX6_within_14 : decode cX6_within 14 = .ok (.iconst 0, 1) := by decide +kernel
theorem dX6_within_15 : decode cX6_within 15 = .ok (.ireturn, 1) := by decide +kernel
theorem dX6_has_0 : decode cX6_has 0 = .ok (.iload_n 0, 1) := by decide +kernel
theorem dX6_has_1 : decode cX6_has 1 = .ok (.iload_n 1, 1) := by decide +kernel
theorem dX6_has_2 : decode cX6_has 2 = .ok (.ishr, 1) := by decide +kernel
theorem dX6_has_3 : decode cX6_has 3 = .ok (.iconst 1, 1) := by decide +kernel
theorem dX6_has_4 : decode cX6_has 4 = .ok (.iand, 1) := by decide +kernel
theorem dX6_has_5 : decode cX6_has 5 = .ok (.iconst 1, 1) := by decide +kernel
theorem dX6_has_6 : decode cX6_has 6 = .ok (.if_icmp .ne 7, 3) := by decide +kernel
theorem dX6_has_9 : decode cX6_has 9 = .ok (.iconst 1, 1) := by decide +kernel
theorem dX6_has_10 : decode cX6_has 10 = .ok (.goto 4, 3) := by decide +kernel
theorem dX6_has_13 : decode cX6_has 13 = .ok (.iconst 0, 1) := by decide +kernel
theorem dX6_has_14 : decode cX6_has 14 = .ok (.ireturn, 1) := by decide +kernel
set_option maxRecDepth 20000 in
theorem ggX6_letter_X6_within : GoodIn wsX6_letter wsX6_within := goodIn_r _ [6] (by decide +kernel) (by decide +kernel)
set_option maxRecDepth 20000 in
theorem gX6_letter_X6_within : GoodIn wsX6_letter (va_wsS RX6 48 yX6_within wsX6_within) := goodIn_app (goodIn_of _ (by decide +kernel)) ggX6_letter_X6_within
theorem dX6_letter_0 : decode cX6_letter 0 = .ok (.iload_n 1, 1) := by decide +kernel
theorem dX6_letter_1 : decode cX6_letter 1 = .ok (.bipush 32, 2) := by decide +kernel
theorem dX6_letter_3 : decode cX6_letter 3 = .ok (.bipush 126, 2) := by decide +kernel
theorem dX6_letter_5 : decode cX6_letter 5 = .ok (.invokestatic 48, 3) := by decide +kernel
theorem dX6_letter_8 : decode cX6_letter 8 = .ok (.ifCond .ne 7, 3) := by decide +kernel
theorem dX6_letter_11 : decode cX6_letter 11 = .ok (.sipush (-1002), 3) := by decide +kernel
theorem dX6_letter_14 : decode cX6_letter 14 = .ok (.ireturn, 1) := by decide +kernel
theorem dX6_letter_15 : decode cX6_letter 15 = .ok (.aload_n 0, 1) := by decide +kernel
theorem dX6_letter_16 : decode cX6_letter 16 = .ok (.getfield 52, 3) := by decide +kernel
theorem dX6_letter_19 : decode cX6_letter 19 = .ok (.bipush 25, 2) := by decide +kernel
theorem dX6_letter_21 : decode cX6_letter 21 = .ok (.if_icmp .ne 7, 3) := by decide +kernel
theorem dX6_letter_24 : decode cX6_letter 24 = .ok (.sipush (-1004), 3) := by decide +kernel
theorem dX6_letter_27 : decode cX6_letter 27 = .ok (.ireturn, 1) := by decide +kernel
theorem dX6_letter_28 : decode cX6_letter 28 = .ok (.aload_n 0, 1) := by decide +kernel
theorem dX6_letter_29 : decode cX6_letter 29 = .ok (.getfield 7, 3) := by decide +kernel
theorem dX6_letter_32 : decode cX6_letter 32 = .ok (.aload_n 0, 1) := by decide +kernel
theorem dX6_letter_33 : decode cX6_letter 33 = .ok (.getfield 52, 3) := by decide +kernel
theorem dX6_letter_36 : decode cX6_letter 36 = .ok (.iload_n 1, 1) := by decide +kernel
theorem dX6_letter_37 : decode cX6_letter 37 = .ok (.iastore, 1) := by decide +kernel
theorem dX6_letter_38 : decode cX6_letter 38 = .ok (.aload_n 0, 1) := by decide +kernel
theorem dX6_letter_39 : decode cX6_letter 39 = .ok (.dup, 1) := by decide +kernel
theorem dX6_letter_40 : decode cX6_letter 40 = .ok (.getfield 52, 3) := by decide +kernel
theorem dX6_letter_43 : decode cX6_letter 43 = .ok (.iconst 1, 1) := by decide +kernel
theorem dX6_letter_44 : decode cX6_letter 44 = .ok (.iadd, 1) := by decide +kernel
theorem dX6_letter_45 : decode cX6_letter 45 = .ok (.putfield 52, 3) := by decide +kernel
theorem dX6_letter_48 : decode cX6_letter 48 = .ok (.aload_n 0, 1) := by decide +kernel
theorem dX6_letter_49 : decode cX6_letter 49 = .ok (.getfield 52, 3) := by decide +kernel
theorem dX6_letter_52 : decode cX6_letter 52 = .ok (.ireturn, 1) := by decide +kernel
theorem dX6_blank_0 : decode cX6_blank 0 = .ok (.aload_n 0, 1) := by decide +kernel
theorem dX6_blank_1 : decode cX6_blank 1 = .ok (.getfield 52, 3) := by decide +kernel
theorem dX6_blank_4 : decode cX6_blank 4 = .ok (.istore_n 1, 1) := by decide +kernel
theorem dX6_blank_5 : decode cX6_blank 5 = .ok (.aload_n 0, 1) := by decide +kernel
theorem dX6_blank_6 : decode cX6_blank 6 = .ok (.iconst 0, 1) := by decide +kernel
theorem dX6_blank_7 : decode cX6_blank 7 = .ok (.putfield 52, 3) := by decide +kernel
theorem dX6_blank_10 : decode cX6_blank 10 = .ok (.iload_n 1, 1) := by decide +kernel
theorem dX6_blank_11 : decode cX6_blank 11 = .ok (.ireturn, 1) := by decide +kernel
theorem dX6_isTold_0 : decode cX6_isTold 0 = .ok (.iconst 0, 1) := by decide +kernel
theorem dX6_isTold_1 : decode cX6_isTold 1 = .ok (.istore_n 3, 1) := by decide +kernel
theorem dX6_isTold_2 : decode cX6_isTold 2 = .ok (.iconst 0, 1) := by decide +kernel
theorem dX6_isTold_3 : decode cX6_isTold 3 = .ok (.istore 4, 2) := by decide +kernel
theorem dX6_isTold_5 : decode cX6_isTold 5 = .ok (.iload 4, 2) := by decide +kernel
theorem dX6_isTold_7 : decode cX6_isTold 7 = .ok (.aload_n 0, 1) := by decide +kernel
theorem dX6_isTold_8 : decode cX6_isTold 8 = .ok (.getfield 55, 3) := by decide +kernel
theorem dX6_isTold_11 : decode cX6_isTold 11 = .ok (.if_icmp .ge 63, 3) := by decide +kernel
theorem dX6_isTold_14 : decode cX6_isTold 14 = .ok (.iload_n 3, 1) := by decide +kernel
theorem dX6_isTold_15 : decode cX6_isTold 15 = .ok (.ifCond .ne 47, 3) := by decide +kernel
theorem dX6_isTold_18 : decode cX6_isTold 18 = .ok (.aload_n 0, 1) := by decide +kernel
theorem dX6_isTold_19 : decode cX6_isTold 19 = .ok (.getfield 32, 3) := by decide +kernel
theorem dX6_isTold_22 : decode cX6_isTold 22 = .ok (.iload 4, 2) := by decide +kernel
theorem dX6_isTold_24 : decode cX6_isTold 24 = .ok (.iaload, 1) := by decide +kernel
theorem dX6_isTold_25 : decode cX6_isTold 25 = .ok (.iload_n 1, 1) := by decide +kernel
theorem dX6_isTold_26 : decode cX6_isTold 26 = .ok (.if_icmp .ne 14, 3) := by decide +kernel
theorem dX6_isTold_29 : decode cX6_isTold 29 = .ok (.aload_n 0, 1) := by decide +kernel
theorem dX6_isTold_30 : decode cX6_isTold 30 = .ok (.getfield 35, 3) := by decide +kernel
theorem dX6_isTold_33 : decode cX6_isTold 33 = .ok (.iload 4, 2) := by decide +kernel
theorem dX6_isTold_35 : decode cX6_isTold 35 = .ok (.iaload, 1) := by decide +kernel
theorem dX6_isTold_36 : decode cX6_isTold 36 = .ok (.iload_n 2, 1) := by decide +kernel
theorem dX6_isTold_37 : decode cX6_isTold 37 = .ok (.if_icmp .eq 25, 3) := by decide +kernel
theorem dX6_isTold_40 : decode cX6_isTold 40 = .ok (.aload_n 0, 1) := by decide +kernel
theorem dX6_isTold_41 : decode cX6_isTold 41 = .ok (.getfield 32, 3) := by decide +kernel
theorem dX6_isTold_44 : decode cX6_isTold 44 = .ok (.iload 4, 2) := by decide +kernel
theorem dX6_isTold_46 : decode cX6_isTold 46 = .ok (.iaload, 1) := by decide +kernel
theorem dX6_isTold_47 : decode cX6_isTold 47 = .ok (.iload_n 2, 1) := by decide +kernel
theorem dX6_isTold_48 : decode cX6_isTold 48 = .ok (.if_icmp .ne 18, 3) := by decide +kernel
theorem dX6_isTold_51 : decode cX6_isTold 51 = .ok (.aload_n 0, 1) := by decide +kernel
theorem dX6_isTold_52 : decode cX6_isTold 52 = .ok (.getfield 35, 3) := by decide +kernel
theorem dX6_isTold_55 : decode cX6_isTold 55 = .ok (.iload 4, 2) := by decide +kernel
theorem dX6_isTold_57 : decode cX6_isTold 57 = .ok (.iaload, 1) := by decide +kernel
theorem dX6_isTold_58 : decode cX6_isTold 58 = .ok (.iload_n 1, 1) := by decide +kernel
theorem dX6_isTold_59 : decode cX6_isTold 59 = .ok (.if_icmp .ne 7, 3) := by decide +kernel
theorem dX6_isTold_62 : decode cX6_isTold 62 = .ok (.iconst 1, 1) := by decide +kernel
theorem dX6_isTold_63 : decode cX6_isTold 63 = .ok (.goto 4, 3) := by decide +kernel
theorem dX6_isTold_66 : decode cX6_isTold 66 = .ok (.iconst 0, 1) := by decide +kernel
theorem dX6_isTold_67 : decode cX6_isTold 67 = .ok (.istore_n 3, 1) := by decide +kernel
theorem dX6_isTold_68 : decode cX6_isTold 68 = .ok (.iinc 4 1, 3) := by decide +kernel
theorem dX6_isTold_71 : decode cX6_isTold 71 = .ok (.goto (-66), 3) := by decide +kernel
theorem dX6_isTold_74 : decode cX6_isTold 74 = .ok (.iload_n 3, 1) := by decide +kernel
theorem dX6_isTold_75 : decode cX6_isTold 75 = .ok (.ireturn, 1) := by decide +kernel
set_option maxRecDepth 20000 in
theorem ggX6_takesNode_X6_within : GoodIn wsX6_takesNode wsX6_within := goodIn_r _ [10] (by decide +kernel) (by decide +kernel)
set_option maxRecDepth 20000 in
theorem gX6_takesNode_X6_within : GoodIn wsX6_takesNode (va_wsS RX6 48 yX6_within wsX6_within) := goodIn_app (goodIn_of _ (by decide +kernel)) ggX6_takesNode_X6_within
set_option maxRecDepth 20000 in
theorem ggX6_takesNode_X6_isTold : GoodIn wsX6_takesNode wsX6_isTold := goodIn_r _ [14, 5, 4, 6, 15, 16, 17, 18, 19, 20, 21, 22, 23, 24, 25, 26, 27, 28, 29, 30, 31, 32, 33, 34, 35, 36, 37, 38, 39, 40, 41, 42, 43, 44, 45, 46, 47, 48] (by decide +kernel) (by decide +kernel)
set_option maxRecDepth 20000 in
theorem gX6_takesNode_X6_isTold : GoodIn wsX6_takesNode (wsV RX6 67 RX6 yX6_isTold wsX6_isTold) := goodIn_app (goodIn_of _ (by decide +kernel)) ggX6_takesNode_X6_isTold
theorem dX6_takesNode_0 : decode cX6_takesNode 0 = .ok (.iload_n 1, 1) := by decide +kernel
theorem dX6_takesNode_1 : decode cX6_takesNode 1 = .ok (.iconst 0, 1) := by decide +kernel
theorem dX6_takesNode_2 : decode cX6_takesNode 2 = .ok (.aload_n 0, 1) := by decide +kernel
theorem dX6_takesNode_3 : decode cX6_takesNode 3 = .ok (.getfield 58, 3) := by decide +kernel
theorem dX6_takesNode_6 : decode cX6_takesNode 6 = .ok (.iconst 1, 1) := by decide +kernel
theorem dX6_takesNode_7 : decode cX6_takesNode 7 = .ok (.isub, 1) := by decide +kernel
theorem dX6_takesNode_8 : decode cX6_takesNode 8 = .ok (.invokestatic 48, 3) := by decide +kernel
theorem dX6_takesNode_11 : decode cX6_takesNode 11 = .ok (.istore_n 2, 1) := by decide +kernel
theorem dX6_takesNode_12 : decode cX6_takesNode 12 = .ok (.aload_n 0, 1) := by decide +kernel
theorem dX6_takesNode_13 : decode cX6_takesNode 13 = .ok (.getfield 61, 3) := by decide +kernel
theorem dX6_takesNode_16 : decode cX6_takesNode 16 = .ok (.iconst 1, 1) := by decide +kernel
theorem dX6_takesNode_17 : decode cX6_takesNode 17 = .ok (.if_icmp .ne 15, 3) := by decide +kernel
theorem dX6_takesNode_20 : decode cX6_takesNode 20 = .ok (.aload_n 0, 1) := by decide +kernel
theorem dX6_takesNode_21 : decode cX6_takesNode 21 = .ok (.iload_n 1, 1) := by decide +kernel
theorem dX6_takesNode_22 : decode cX6_takesNode 22 = .ok (.putfield 64, 3) := by decide +kernel
theorem dX6_takesNode_25 : decode cX6_takesNode 25 = .ok (.aload_n 0, 1) := by decide +kernel
theorem dX6_takesNode_26 : decode cX6_takesNode 26 = .ok (.iconst 2, 1) := by decide +kernel
theorem dX6_takesNode_27 : decode cX6_takesNode 27 = .ok (.putfield 61, 3) := by decide +kernel
theorem dX6_takesNode_30 : decode cX6_takesNode 30 = .ok (.iload_n 2, 1) := by decide +kernel
theorem dX6_takesNode_31 : decode cX6_takesNode 31 = .ok (.ireturn, 1) := by decide +kernel
theorem dX6_takesNode_32 : decode cX6_takesNode 32 = .ok (.iload_n 2, 1) := by decide +kernel
theorem dX6_takesNode_33 : decode cX6_takesNode 33 = .ok (.ifCond .eq 27, 3) := by decide +kernel
theorem dX6_takesNode_36 : decode cX6_takesNode 36 = .ok (.iload_n 1, 1) := by decide +kernel
theorem dX6_takesNode_37 : decode cX6_takesNode 37 = .ok (.aload_n 0, 1) := by decide +kernel
theorem dX6_takesNode_38 : decode cX6_takesNode 38 = .ok (.getfield 64, 3) := by decide +kernel
theorem dX6_takesNode_41 : decode cX6_takesNode 41 = .ok (.if_icmp .eq 19, 3) := by decide +kernel
theorem dX6_takesNode_44 : decode cX6_takesNode 44 = .ok (.aload_n 0, 1) := by decide +kernel
theorem dX6_takesNode_45 : decode cX6_takesNode 45 = .ok (.aload_n 0, 1) := by decide +kernel
theorem dX6_takesNode_46 : decode cX6_takesNode 46 = .ok (.getfield 64, 3) := by decide +kernel
theorem dX6_takesNode_49 : decode cX6_takesNode 49 = .ok (.iload_n 1, 1) := by decide +kernel
theorem dX6_takesNode_50 : decode cX6_takesNode 50 = .ok (.invokevirtual 67, 3) := by decide +kernel
theorem dX6_takesNode_53 : decode cX6_takesNode 53 = .ok (.ifCond .ne 7, 3) := by decide +kernel
theorem dX6_takesNode_56 : decode cX6_takesNode 56 = .ok (.iconst 1, 1) := by decide +kernel
theorem dX6_takesNode_57 : decode cX6_takesNode 57 = .ok (.goto 4, 3) := by decide +kernel
theorem dX6_takesNode_60 : decode cX6_takesNode 60 = .ok (.iconst 0, 1) := by decide +kernel
theorem dX6_takesNode_61 : decode cX6_takesNode 61 = .ok (.istore_n 2, 1) := by decide +kernel
theorem dX6_takesNode_62 : decode cX6_takesNode 62 = .ok (.iload_n 2, 1) := by decide +kernel
theorem dX6_takesNode_63 : decode cX6_takesNode 63 = .ok (.ifCond .eq 41, 3) := by decide +kernel
theorem dX6_takesNode_66 : decode cX6_takesNode 66 = .ok (.aload_n 0, 1) := by decide +kernel
theorem dX6_takesNode_67 : decode cX6_takesNode 67 = .ok (.getfield 32, 3) := by decide +kernel
theorem dX6_takesNode_70 : decode cX6_takesNode 70 = .ok (.aload_n 0, 1) := by decide +kernel
theorem dX6_takesNode_71 : decode cX6_takesNode 71 = .ok (.getfield 55, 3) := by decide +kernel
theorem dX6_takesNode_74 : decode cX6_takesNode 74 = .ok (.aload_n 0, 1) := by decide +kernel
theorem dX6_takesNode_75 : decode cX6_takesNode 75 = .ok (.getfield 64, 3) := by decide +kernel
theorem dX6_takesNode_78 : decode cX6_takesNode 78 = .ok (.iastore, 1) := by decide +kernel
theorem dX6_takesNode_79 : decode cX6_takesNode 79 = .ok (.aload_n 0, 1) := by decide +kernel
theorem dX6_takesNode_80 : decode cX6_takesNode 80 = .ok (.getfield 35, 3) := by decide +kernel
theorem dX6_takesNode_83 : decode cX6_takesNode 83 = .ok (.aload_n 0, 1) := by decide +kernel
theorem dX6_takesNode_84 : decode cX6_takesNode 84 = .ok (.getfield 55, 3) := by decide +kernel
theorem dX6_takesNode_87 : decode cX6_takesNode 87 = .ok (.iload_n 1, 1) := by decide +kernel
theorem dX6_takesNode_88 : decode cX6_takesNode 88 = .ok (.iastore, 1) := by decide +kernel
theorem dX6_takesNode_89 : decode cX6_takesNode 89 = .ok (.aload_n 0, 1) := by decide +kernel
theorem dX6_takesNode_90 : decode cX6_takesNode 90 = .ok (.dup, 1) := by decide +kernel
theorem dX6_takesNode_91 : decode cX6_takesNode 91 = .ok (.getfield 55, 3) := by decide +kernel
theorem dX6_takesNode_94 : decode cX6_takesNode 94 = .ok (.iconst 1, 1) := by decide +kernel
theorem dX6_takesNode_95 : decode cX6_takesNode 95 = .ok (.iadd, 1) := by decide +kernel
theorem dX6_takesNode_96 : decode cX6_takesNode 96 = .ok (.putfield 55, 3) := by decide +kernel
theorem dX6_takesNode_99 : decode cX6_takesNode 99 = .ok (.aload_n 0, 1) := by decide +kernel
theorem dX6_takesNode_100 : decode cX6_takesNode 100 = .ok (.iconst 0, 1) := by decide +kernel
theorem dX6_takesNode_101 : decode cX6_takesNode 101 = .ok (.putfield 61, 3) := by decide +kernel
theorem dX6_takesNode_104 : decode cX6_takesNode 104 = .ok (.iload_n 2, 1) := by decide +kernel
theorem dX6_takesNode_105 : decode cX6_takesNode 105 = .ok (.ireturn, 1) := by decide +kernel
set_option maxRecDepth 20000 in
theorem ggX6_takes_X6_within : GoodIn wsX6_takes wsX6_within := goodIn_r _ [7] (by decide +kernel) (by decide +kernel)
set_option maxRecDepth 20000 in
theorem gX6_takes_X6_within : GoodIn wsX6_takes (va_wsS RX6 48 yX6_within wsX6_within) := goodIn_app (goodIn_of _ (by decide +kernel)) ggX6_takes_X6_within
set_option maxRecDepth 20000 in
theorem ggX6_takes_X6_takesNode : GoodIn wsX6_takes wsX6_takesNode := goodIn_r _ [11, 1, 2, 12, 13, 3, 14, 4, 5, 6, 7, 15, 16, 17, 18, 19, 20, 21, 22, 23, 24, 25, 26, 27, 28, 29, 30, 31, 32, 33, 34, 35, 36, 37, 38, 39, 40, 41, 42, 43, 44, 45, 46, 47, 48, 49, 50, 51, 52] (by decide +kernel) (by decide +kernel)
set_option maxRecDepth 20000 in
theorem gX6_takes_X6_takesNode : GoodIn wsX6_takes (wsV RX6 71 RX6 yX6_takesNode wsX6_takesNode) := goodIn_app (goodIn_of _ (by decide +kernel)) ggX6_takes_X6_takesNode
theorem dX6_takes_0 : decode cX6_takes 0 = .ok (.aload_n 0, 1) := by decide +kernel
theorem dX6_takes_1 : decode cX6_takes 1 = .ok (.getfield 58, 3) := by decide +kernel
theorem dX6_takes_4 : decode cX6_takes 4 = .ok (.ifCond .ne 39, 3) := by decide +kernel
theorem dX6_takes_7 : decode cX6_takes 7 = .ok (.aload_n 0, 1) := by decide +kernel
theorem dX6_takes_8 : decode cX6_takes 8 = .ok (.iload_n 1, 1) := by decide +kernel
theorem dX6_takes_9 : decode cX6_takes 9 = .ok (.bipush 50, 2) := by decide +kernel
theorem dX6_takes_11 : decode cX6_takes 11 = .ok (.bipush 54, 2) := by decide +kernel
theorem dX6_takes_13 : decode cX6_takes 13 = .ok (.invokestatic 48, 3) := by decide +kernel
theorem dX6_takes_16 : decode cX6_takes 16 = .ok (.ifCond .eq 10, 3) := by decide +kernel
theorem dX6_takes_19 : decode cX6_takes 19 = .ok (.iload_n 1, 1) := by decide +kernel
theorem dX6_takes_20 : decode cX6_takes 20 = .ok (.bipush 48, 2) := by decide +kernel
theorem dX6_takes_22 : decode cX6_takes 22 = .ok (.isub, 1) := by decide +kernel
theorem dX6_takes_23 : decode cX6_takes 23 = .ok (.goto 4, 3) := by decide +kernel
theorem dX6_takes_26 : decode cX6_takes 26 = .ok (.iconst 0, 1) := by decide +kernel
theorem dX6_takes_27 : decode cX6_takes 27 = .ok (.putfield 58, 3) := by decide +kernel
theorem dX6_takes_30 : decode cX6_takes 30 = .ok (.aload_n 0, 1) := by decide +kernel
theorem dX6_takes_31 : decode cX6_takes 31 = .ok (.getfield 58, 3) := by decide +kernel
theorem dX6_takes_34 : decode cX6_takes 34 = .ok (.ifCond .le 7, 3) := by decide +kernel
theorem dX6_takes_37 : decode cX6_takes 37 = .ok (.iconst 1, 1) := by decide +kernel
theorem dX6_takes_38 : decode cX6_takes 38 = .ok (.goto 4, 3) := by decide +kernel
theorem dX6_takes_41 : decode cX6_takes 41 = .ok (.iconst 0, 1) := by decide +kernel
theorem dX6_takes_42 : decode cX6_takes 42 = .ok (.ireturn, 1) := by decide +kernel
theorem dX6_takes_43 : decode cX6_takes 43 = .ok (.aload_n 0, 1) := by decide +kernel
theorem dX6_takes_44 : decode cX6_takes 44 = .ok (.getfield 61, 3) := by decide +kernel
theorem dX6_takes_47 : decode cX6_takes 47 = .ok (.ifCond .ne 39, 3) := by decide +kernel
theorem dX6_takes_50 : decode cX6_takes 50 = .ok (.iload_n 1, 1) := by decide +kernel
theorem dX6_takes_51 : decode cX6_takes 51 = .ok (.bipush 44, 2) := by decide +kernel
theorem dX6_takes_53 : decode cX6_takes 53 = .ok (.if_icmp .ne 16, 3) := by decide +kernel
theorem dX6_takes_56 : decode cX6_takes 56 = .ok (.aload_n 0, 1) := by decide +kernel
theorem dX6_takes_57 : decode cX6_takes 57 = .ok (.getfield 55, 3) := by decide +kernel
theorem dX6_takes_60 : decode cX6_takes 60 = .ok (.bipush 8, 2) := by decide +kernel
theorem dX6_takes_62 : decode cX6_takes 62 = .ok (.if_icmp .ge 7, 3) := by decide +kernel
theorem dX6_takes_65 : decode cX6_takes 65 = .ok (.iconst 1, 1) := by decide +kernel
theorem dX6_takes_66 : decode cX6_takes 66 = .ok (.goto 4, 3) := by decide +kernel
theorem dX6_takes_69 : decode cX6_takes 69 = .ok (.iconst 0, 1) := by decide +kernel
theorem dX6_takes_70 : decode cX6_takes 70 = .ok (.istore_n 2, 1) := by decide +kernel
theorem dX6_takes_71 : decode cX6_takes 71 = .ok (.aload_n 0, 1) := by decide +kernel
theorem dX6_takes_72 : decode cX6_takes 72 = .ok (.iload_n 2, 1) := by decide +kernel
theorem dX6_takes_73 : decode cX6_takes 73 = .ok (.ifCond .eq 7, 3) := by decide +kernel
theorem dX6_takes_76 : decode cX6_takes 76 = .ok (.iconst 1, 1) := by decide +kernel
theorem dX6_takes_77 : decode cX6_takes 77 = .ok (.goto 4, 3) := by decide +kernel
theorem dX6_takes_80 : decode cX6_takes 80 = .ok (.iconst 0, 1) := by decide +kernel
theorem dX6_takes_81 : decode cX6_takes 81 = .ok (.putfield 61, 3) := by decide +kernel
theorem dX6_takes_84 : decode cX6_takes 84 = .ok (.iload_n 2, 1) := by decide +kernel
theorem dX6_takes_85 : decode cX6_takes 85 = .ok (.ireturn, 1) := by decide +kernel
theorem dX6_takes_86 : decode cX6_takes 86 = .ok (.aload_n 0, 1) := by decide +kernel
theorem dX6_takes_87 : decode cX6_takes 87 = .ok (.iload_n 1, 1) := by decide +kernel
theorem dX6_takes_88 : decode cX6_takes 88 = .ok (.bipush 48, 2) := by decide +kernel
theorem dX6_takes_90 : decode cX6_takes 90 = .ok (.isub, 1) := by decide +kernel
theorem dX6_takes_91 : decode cX6_takes 91 = .ok (.invokevirtual 71, 3) := by decide +kernel
theorem dX6_takes_94 : decode cX6_takes 94 = .ok (.ireturn, 1) := by decide +kernel
set_option maxRecDepth 20000 in
theorem ggX6_goAlong_X6_takes : GoodIn wsX6_goAlong wsX6_takes := goodIn_r _ [10, 1, 3, 2, 11, 12, 9, 13, 14, 15, 16, 17, 18, 19, 20, 21, 22, 23, 24, 25, 26, 27, 28, 29, 30, 31, 32, 33, 34, 35, 36, 37, 38, 39, 40, 41, 42, 43, 44, 45, 46, 47, 48, 49, 50, 51, 52, 53, 54, 55, 56, 57, 58] (by decide +kernel) (by decide +kernel)
set_option maxRecDepth 20000 in
theorem gX6_goAlong_X6_takes : GoodIn wsX6_goAlong (wsV RX6 75 RX6 yX6_takes wsX6_takes) := goodIn_app (goodIn_of _ (by decide +kernel)) ggX6_goAlong_X6_takes
theorem dX6_goAlong_0 : decode cX6_goAlong 0 = .ok (.aload_n 0, 1) := by decide +kernel
theorem dX6_goAlong_1 : decode cX6_goAlong 1 = .ok (.iconst 0, 1) := by decide +kernel
theorem dX6_goAlong_2 : decode cX6_goAlong 2 = .ok (.putfield 58, 3) := by decide +kernel
theorem dX6_goAlong_5 : decode cX6_goAlong 5 = .ok (.aload_n 0, 1) := by decide +kernel
theorem dX6_goAlong_6 : decode cX6_goAlong 6 = .ok (.iconst 0, 1) := by decide +kernel
theorem dX6_goAlong_7 : decode cX6_goAlong 7 = .ok (.putfield 55, 3) := by decide +kernel
theorem dX6_goAlong_10 : decode cX6_goAlong 10 = .ok (.aload_n 0, 1) := by decide +kernel
theorem dX6_goAlong_11 : decode cX6_goAlong 11 = .ok (.iconst 0, 1) := by decide +kernel
theorem dX6_goAlong_12 : decode cX6_goAlong 12 = .ok (.putfield 61, 3) := by decide +kernel
theorem dX6_goAlong_15 : decode cX6_goAlong 15 = .ok (.iconst 0, 1) := by decide +kernel
theorem dX6_goAlong_16 : decode cX6_goAlong 16 = .ok (.istore_n 1, 1) := by decide +kernel
theorem dX6_goAlong_17 : decode cX6_goAlong 17 = .ok (.iload_n 1, 1) := by decide +kernel
theorem dX6_goAlong_18 : decode cX6_goAlong 18 = .ok (.aload_n 0, 1) := by decide +kernel
theorem dX6_goAlong_19 : decode cX6_goAlong 19 = .ok (.getfield 52, 3) := by decide +kernel
theorem dX6_goAlong_22 : decode cX6_goAlong 22 = .ok (.if_icmp .ge 22, 3) := by decide +kernel
theorem dX6_goAlong_25 : decode cX6_goAlong 25 = .ok (.aload_n 0, 1) := by decide +kernel
theorem dX6_goAlong_26 : decode cX6_goAlong 26 = .ok (.aload_n 0, 1) := by decide +kernel
theorem dX6_goAlong_27 : decode cX6_goAlong 27 = .ok (.getfield 7, 3) := by decide +kernel
theorem dX6_goAlong_30 : decode cX6_goAlong 30 = .ok (.iload_n 1, 1) := by decide +kernel
theorem dX6_goAlong_31 : decode cX6_goAlong 31 = .ok (.iaload, 1) := by decide +kernel
theorem dX6_goAlong_32 : decode cX6_goAlong 32 = .ok (.invokevirtual 75, 3) := by decide +kernel
theorem dX6_goAlong_35 : decode cX6_goAlong 35 = .ok (.ifCond .eq 9, 3) := by decide +kernel
theorem dX6_goAlong_38 : decode cX6_goAlong 38 = .ok (.iinc 1 1, 3) := by decide +kernel
theorem dX6_goAlong_41 : decode cX6_goAlong 41 = .ok (.goto (-24), 3) := by decide +kernel
theorem dX6_goAlong_44 : decode cX6_goAlong 44 = .ok (.iload_n 1, 1) := by decide +kernel
theorem dX6_goAlong_45 : decode cX6_goAlong 45 = .ok (.ireturn, 1) := by decide +kernel
set_option maxRecDepth 20000 in
theorem ggX6_fault_X6_goAlong : GoodIn wsX6_fault wsX6_goAlong := goodIn_r _ [5, 6, 7, 8, 9, 10, 11, 12, 13, 4, 14, 15, 16, 17, 18, 19, 20, 21, 22, 23, 24, 25, 26, 27, 28, 29, 30, 31, 32, 33, 34, 35, 36, 37, 38, 39, 40, 41, 42, 43, 44, 45, 46, 47, 48, 49, 50, 51, 52, 53, 54, 55, 56, 57, 58, 59, 60, 61, 62] (by decide +kernel) (by decide +kernel)
set_option maxRecDepth 20000 in
theorem gX6_fault_X6_goAlong : GoodIn wsX6_fault (wsV RX6 78 RX6 yX6_goAlong wsX6_goAlong) := goodIn_app (goodIn_of _ (by decide +kernel)) ggX6_fault_X6_goAlong
theorem dX6_fault_0 : decode cX6_fault 0 = .ok (.aload_n 0, 1) := by decide +kernel
theorem dX6_fault_1 : decode cX6_fault 1 = .ok (.invokevirtual 78, 3) := by decide +kernel
theorem dX6_fault_4 : decode cX6_fault 4 = .ok (.ireturn, 1) := by decide +kernel
set_option maxRecDepth 20000 in
theorem ggX6_net_X6_goAlong : GoodIn wsX6_net wsX6_goAlong := goodIn_r _ [17, 4, 2, 3, 1, 18, 19, 20, 21, 16, 22, 23, 24, 25, 26, 27, 28, 29, 30, 8, 10, 31, 32, 33, 34, 52, 53, 54, 55, 56, 57, 58, 59, 60, 61, 62, 63, 64, 65, 66, 67, 68, 69, 70, 71, 72, 73, 74, 75, 76, 77, 78, 79, 80, 81, 82, 83, 84, 85] (by decide +kernel) (by decide +kernel)
set_option maxRecDepth 20000 in
theorem gX6_net_X6_goAlong : GoodIn wsX6_net (wsV RX6 78 RX6 yX6_goAlong wsX6_goAlong) := goodIn_app (goodIn_of _ (by decide +kernel)) ggX6_net_X6_goAlong
set_option maxRecDepth 20000 in
theorem ggX6_net_X6_layMarks : GoodIn wsX6_net wsX6_layMarks := goodIn_r _ [38, 39, 40, 41, 6, 42, 43, 44, 45, 46, 16, 47, 48, 49, 50, 51, 52, 53, 54, 55, 56, 57, 58, 59, 60, 61, 62, 63, 64, 65, 66, 67, 68, 69, 70, 71, 72, 73, 74, 75, 76, 77, 78, 79, 80, 81, 82, 83, 84, 85] (by decide +kernel) (by decide +kernel)
set_option maxRecDepth 20000 in
theorem gX6_net_X6_layMarks : GoodIn wsX6_net (wsV RX6 91 RX6 yX6_layMarks wsX6_layMarks) := goodIn_app (goodIn_of _ (by decide +kernel)) ggX6_net_X6_layMarks
theorem dX6_net_0 : decode cX6_net 0 = .ok (.aload_n 0, 1) := by decide +kernel
theorem dX6_net_1 : decode cX6_net 1 = .ok (.invokevirtual 78, 3) := by decide +kernel
theorem dX6_net_4 : decode cX6_net 4 = .ok (.aload_n 0, 1) := by decide +kernel
theorem dX6_net_5 : decode cX6_net 5 = .ok (.getfield 52, 3) := by decide +kernel
theorem dX6_net_8 : decode cX6_net 8 = .ok (.if_icmp .lt 17, 3) := by decide +kernel
theorem dX6_net_11 : decode cX6_net 11 = .ok (.aload_n 0, 1) := by decide +kernel
theorem dX6_net_12 : decode cX6_net 12 = .ok (.getfield 55, 3) := by decide +kernel
theorem dX6_net_15 : decode cX6_net 15 = .ok (.ifCond .eq 10, 3) := by decide +kernel
theorem dX6_net_18 : decode cX6_net 18 = .ok (.aload_n 0, 1) := by decide +kernel
theorem dX6_net_19 : decode cX6_net 19 = .ok (.getfield 61, 3) := by decide +kernel
theorem dX6_net_22 : decode cX6_net 22 = .ok (.ifCond .eq 7, 3) := by decide +kernel
theorem dX6_net_25 : decode cX6_net 25 = .ok (.sipush (-1003), 3) := by decide +kernel
theorem dX6_net_28 : decode cX6_net 28 = .ok (.ireturn, 1) := by decide +kernel
theorem dX6_net_29 : decode cX6_net 29 = .ok (.aload_n 0, 1) := by decide +kernel
theorem dX6_net_30 : decode cX6_net 30 = .ok (.aload_n 0, 1) := by decide +kernel
theorem dX6_net_31 : decode cX6_net 31 = .ok (.getfield 58, 3) := by decide +kernel
theorem dX6_net_34 : decode cX6_net 34 = .ok (.putfield 82, 3) := by decide +kernel
theorem dX6_net_37 : decode cX6_net 37 = .ok (.aload_n 0, 1) := by decide +kernel
theorem dX6_net_38 : decode cX6_net 38 = .ok (.iconst 2, 1) := by decide +kernel
theorem dX6_net_39 : decode cX6_net 39 = .ok (.aload_n 0, 1) := by decide +kernel
theorem dX6_net_40 : decode cX6_net 40 = .ok (.getfield 55, 3) := by decide +kernel
theorem dX6_net_43 : decode cX6_net 43 = .ok (.imul, 1) := by decide +kernel
theorem dX6_net_44 : decode cX6_net 44 = .ok (.putfield 85, 3) := by decide +kernel
theorem dX6_net_47 : decode cX6_net 47 = .ok (.iconst 0, 1) := by decide +kernel
theorem dX6_net_48 : decode cX6_net 48 = .ok (.istore_n 1, 1) := by decide +kernel
theorem dX6_net_49 : decode cX6_net 49 = .ok (.iload_n 1, 1) := by decide +kernel
theorem dX6_net_50 : decode cX6_net 50 = .ok (.aload_n 0, 1) := by decide +kernel
theorem dX6_net_51 : decode cX6_net 51 = .ok (.getfield 55, 3) := by decide +kernel
theorem dX6_net_54 : decode cX6_net 54 = .ok (.if_icmp .ge 69, 3) := by decide +kernel
theorem dX6_net_57 : decode cX6_net 57 = .ok (.aload_n 0, 1) := by decide +kernel
theorem dX6_net_58 : decode cX6_net 58 = .ok (.getfield 13, 3) := by decide +kernel
theorem dX6_net_61 : decode cX6_net 61 = .ok (.iconst 2, 1) := by decide +kernel
theorem dX6_net_62 : decode cX6_net 62 = .ok (.iload_n 1, 1) := by decide +kernel
theorem dX6_net_63 : decode cX6_net 63 = .ok (.imul, 1) := by decide +kernel
theorem dX6_net_64 : decode cX6_net 64 = .ok (.aload_n 0, 1) := by decide +kernel
theorem dX6_net_65 : decode cX6_net 65 = .ok (.getfield 32, 3) := by decide +kernel
theorem dX6_net_68 : decode cX6_net 68 = .ok (.iload_n 1, 1) := by decide +kernel
theorem dX6_net_69 : decode cX6_net 69 = .ok (.iaload, 1) := by decide +kernel
theorem dX6_net_70 : decode cX6_net 70 = .ok (.iastore, 1) := by decide +kernel
theorem dX6_net_71 : decode cX6_net 71 = .ok (.aload_n 0, 1) := by decide +kernel
theorem dX6_net_72 : decode cX6_net 72 = .ok (.getfield 16, 3) := by decide +kernel
theorem dX6_net_75 : decode cX6_net 75 = .ok (.iconst 2, 1) := by decide +kernel
theorem dX6_net_76 : decode cX6_net 76 = .ok (.iload_n 1, 1) := by decide +kernel
theorem dX6_net_77 : decode cX6_net 77 = .ok (.imul, 1) := by decide +kernel
theorem dX6_net_78 : decode cX6_net 78 = .ok (.aload_n 0, 1) := by decide +kernel
theorem dX6_net_79 : decode cX6_net 79 = .ok (.getfield 35, 3) := by decide +kernel
theorem dX6_net_82 : decode cX6_net 82 = .ok (.iload_n 1, 1) := by decide +kernel
theorem dX6_net_83 : decode cX6_net 83 = .ok (.iaload, 1) := by decide +kernel
theorem dX6_net_84 : decode cX6_net 84 = .ok (.iastore, 1) := by decide +kernel
theorem dX6_net_85 : decode cX6_net 85 = .ok (.aload_n 0, 1) := by decide +kernel
theorem dX6_net_86 : decode cX6_net 86 = .ok (.getfield 13, 3) := by decide +kernel
theorem dX6_net_89 : decode cX6_net 89 = .ok (.iconst 2, 1) := by decide +kernel
theorem dX6_net_90 : decode cX6_net 90 = .ok (.iload_n 1, 1) := by decide +kernel
theorem dX6_net_91 : decode cX6_net 91 = .ok (.imul, 1) := by decide +kernel
theorem dX6_net_92 : decode cX6_net 92 = .ok (.iconst 1, 1) := by decide +kernel
theorem dX6_net_93 : decode cX6_net 93 = .ok (.iadd, 1) := by decide +kernel
theorem dX6_net_94 : decode cX6_net 94 = .ok (.aload_n 0, 1) := by decide +kernel
theorem dX6_net_95 : decode cX6_net 95 = .ok (.getfield 35, 3) := by decide +kernel
theorem dX6_net_98 : decode cX6_net 98 = .ok (.iload_n 1, 1) := by decide +kernel
theorem dX6_net_99 : decode cX6_net 99 = .ok (.iaload, 1) := by decide +kernel
theorem dX6_net_100 : decode cX6_net 100 = .ok (.iastore, 1) := by decide +kernel
theorem dX6_net_101 : decode cX6_net 101 = .ok (.aload_n 0, 1) := by decide +kernel
theorem dX6_net_102 : decode cX6_net 102 = .ok (.getfield 16, 3) := by decide +kernel
theorem dX6_net_105 : decode cX6_net 105 = .ok (.iconst 2, 1) := by decide +kernel
theorem dX6_net_106 : decode cX6_net 106 = .ok (.iload_n 1, 1) := by decide +kernel
theorem dX6_net_107 : decode cX6_net 107 = .ok (.imul, 1) := by decide +kernel
theorem dX6_net_108 : decode cX6_net 108 = .ok (.iconst 1, 1) := by decide +kernel
theorem dX6_net_109 : decode cX6_net 109 = .ok (.iadd, 1) := by decide +kernel
theorem dX6_net_110 : decode cX6_net 110 = .ok (.aload_n 0, 1) := by decide +kernel
theorem dX6_net_111 : decode cX6_net 111 = .ok (.getfield 32, 3) := by decide +kernel
theorem dX6_net_114 : decode cX6_net 114 = .ok (.iload_n 1, 1) := by decide +kernel
theorem dX6_net_115 : decode cX6_net 115 = .ok (.iaload, 1) := by decide +kernel
theorem dX6_net_116 : decode cX6_net 116 = .ok (.iastore, 1) := by decide +kernel
theorem dX6_net_117 : decode cX6_net 117 = .ok (.iinc 1 1, 3) := by decide +kernel
theorem dX6_net_120 : decode cX6_net 120 = .ok (.goto (-71), 3) := by decide +kernel
theorem dX6_net_123 : decode cX6_net 123 = .ok (.iconst 0, 1) := by decide +kernel
theorem dX6_net_124 : decode cX6_net 124 = .ok (.istore_n 1, 1) := by decide +kernel
theorem dX6_net_125 : decode cX6_net 125 = .ok (.iload_n 1, 1) := by decide +kernel
theorem dX6_net_126 : decode cX6_net 126 = .ok (.iconst 4, 1) := by decide +kernel
theorem dX6_net_127 : decode cX6_net 127 = .ok (.if_icmp .ge 16, 3) := by decide +kernel
theorem dX6_net_130 : decode cX6_net 130 = .ok (.aload_n 0, 1) := by decide +kernel
theorem dX6_net_131 : decode cX6_net 131 = .ok (.getfield 29, 3) := by decide +kernel
theorem dX6_net_134 : decode cX6_net 134 = .ok (.iload_n 1, 1) := by decide +kernel
theorem dX6_net_135 : decode cX6_net 135 = .ok (.iconst 0, 1) := by decide +kernel
theorem dX6_net_136 : decode cX6_net 136 = .ok (.iastore, 1) := by decide +kernel
theorem dX6_net_137 : decode cX6_net 137 = .ok (.iinc 1 1, 3) := by decide +kernel
theorem dX6_net_140 : decode cX6_net 140 = .ok (.goto (-15), 3) := by decide +kernel
theorem dX6_net_143 : decode cX6_net 143 = .ok (.aload_n 0, 1) := by decide +kernel
theorem dX6_net_144 : decode cX6_net 144 = .ok (.dup, 1) := by decide +kernel
theorem dX6_net_145 : decode cX6_net 145 = .ok (.getfield 88, 3) := by decide +kernel
theorem dX6_net_148 : decode cX6_net 148 = .ok (.iconst 1, 1) := by decide +kernel
theorem dX6_net_149 : decode cX6_net 149 = .ok (.iadd, 1) := by decide +kernel
theorem dX6_net_150 : decode cX6_net 150 = .ok (.putfield 88, 3) := by decide +kernel
theorem dX6_net_153 : decode cX6_net 153 = .ok (.aload_n 0, 1) := by decide +kernel
theorem dX6_net_154 : decode cX6_net 154 = .ok (.iconst 0, 1) := by decide +kernel
theorem dX6_net_155 : decode cX6_net 155 = .ok (.putfield 52, 3) := by decide +kernel
theorem dX6_net_158 : decode cX6_net 158 = .ok (.aload_n 0, 1) := by decide +kernel
theorem dX6_net_159 : decode cX6_net 159 = .ok (.invokevirtual 91, 3) := by decide +kernel
theorem dX6_net_162 : decode cX6_net 162 = .ok (.aload_n 0, 1) := by decide +kernel
theorem dX6_net_163 : decode cX6_net 163 = .ok (.getfield 85, 3) := by decide +kernel
theorem dX6_net_166 : decode cX6_net 166 = .ok (.ireturn, 1) := by decide +kernel
theorem dX6_draw_0 : decode cX6_draw 0 = .ok (.aload_n 0, 1) := by decide +kernel
theorem dX6_draw_1 : decode cX6_draw 1 = .ok (.ldc2_w 94, 3) := by decide +kernel
theorem dX6_draw_4 : decode cX6_draw 4 = .ok (.aload_n 0, 1) := by decide +kernel
theorem dX6_draw_5 : decode cX6_draw 5 = .ok (.getfield 96, 3) := by decide +kernel
theorem dX6_draw_8 : decode cX6_draw 8 = .ok (.lmul, 1) := by decide +kernel
theorem dX6_draw_9 : decode cX6_draw 9 = .ok (.ldc2_w 100, 3) := by decide +kernel
theorem dX6_draw_12 : decode cX6_draw 12 = .ok (.ladd, 1) := by decide +kernel
theorem dX6_draw_13 : decode cX6_draw 13 = .ok (.ldc2_w 102, 3) := by decide +kernel
theorem dX6_draw_16 : decode cX6_draw 16 = .ok (.lrem, 1) := by decide +kernel
theorem dX6_draw_17 : decode cX6_draw 17 = .ok (.putfield 96, 3) := by decide +kernel
theorem dX6_draw_20 : decode cX6_draw 20 = .ok (.aload_n 0, 1) := by decide +kernel
theorem dX6_draw_21 : decode cX6_draw 21 = .ok (.getfield 96, 3) := by decide +kernel
theorem dX6_draw_24 : decode cX6_draw 24 = .ok (.ldc2_w 104, 3) := by decide +kernel
theorem dX6_draw_27 : decode cX6_draw 27 = .ok (.ldiv, 1) := by decide +kernel
theorem dX6_draw_28 : decode cX6_draw 28 = .ok (.iload_n 1, 1) := by decide +kernel
theorem dX6_draw_29 : decode cX6_draw 29 = .ok (.i2l, 1) := by decide +kernel
theorem dX6_draw_30 : decode cX6_draw 30 = .ok (.lrem, 1) := by decide +kernel
theorem dX6_draw_31 : decode cX6_draw 31 = .ok (.l2i, 1) := by decide +kernel
theorem dX6_draw_32 : decode cX6_draw 32 = .ok (.ireturn, 1) := by decide +kernel
set_option maxRecDepth 20000 in
theorem ggX6_layMarks_X6_draw : GoodIn wsX6_layMarks wsX6_draw := goodIn_r _ [11, 12, 2, 13, 14, 15, 16, 17, 18, 19, 20, 21, 22, 23, 24, 25, 26, 27, 28, 29, 30, 31, 32, 33, 34, 35, 36, 37, 38, 39, 40, 41, 42, 43, 44, 45, 46, 47, 48, 49] (by decide +kernel) (by decide +kernel)
set_option maxRecDepth 20000 in
theorem gX6_layMarks_X6_draw : GoodIn wsX6_layMarks (wsV RX6 106 RX6 yX6_draw wsX6_draw) := goodIn_app (goodIn_of _ (by decide +kernel)) ggX6_layMarks_X6_draw
theorem dX6_layMarks_0 : decode cX6_layMarks 0 = .ok (.aload_n 0, 1) := by decide +kernel
theorem dX6_layMarks_1 : decode cX6_layMarks 1 = .ok (.aload_n 0, 1) := by decide +kernel
theorem dX6_layMarks_2 : decode cX6_layMarks 2 = .ok (.getfield 26, 3) := by decide +kernel
theorem dX6_layMarks_5 : decode cX6_layMarks 5 = .ok (.i2l, 1) := by decide +kernel
theorem dX6_layMarks_6 : decode cX6_layMarks 6 = .ok (.putfield 96, 3) := by decide +kernel
theorem dX6_layMarks_9 : decode cX6_layMarks 9 = .ok (.iconst 0, 1) := by decide +kernel
theorem dX6_layMarks_10 : decode cX6_layMarks 10 = .ok (.istore_n 1, 1) := by decide +kernel
theorem dX6_layMarks_11 : decode cX6_layMarks 11 = .ok (.iload_n 1, 1) := by decide +kernel
theorem dX6_layMarks_12 : decode cX6_layMarks 12 = .ok (.iconst 3, 1) := by decide +kernel
theorem dX6_layMarks_13 : decode cX6_layMarks 13 = .ok (.if_icmp .ge 82, 3) := by decide +kernel
theorem dX6_layMarks_16 : decode cX6_layMarks 16 = .ok (.iconst 0, 1) := by decide +kernel
theorem dX6_layMarks_17 : decode cX6_layMarks 17 = .ok (.istore_n 2, 1) := by decide +kernel
theorem dX6_layMarks_18 : decode cX6_layMarks 18 = .ok (.iload_n 2, 1) := by decide +kernel
theorem dX6_layMarks_19 : decode cX6_layMarks 19 = .ok (.bipush 20, 2) := by decide +kernel
theorem dX6_layMarks_21 : decode cX6_layMarks 21 = .ok (.if_icmp .ge 68, 3) := by decide +kernel
theorem dX6_layMarks_24 : decode cX6_layMarks 24 = .ok (.lconst 0, 1) := by decide +kernel
theorem dX6_layMarks_25 : decode cX6_layMarks 25 = .ok (.lstore_n 3, 1) := by decide +kernel
theorem dX6_layMarks_26 : decode cX6_layMarks 26 = .ok (.iconst 0, 1) := by decide +kernel
theorem dX6_layMarks_27 : decode cX6_layMarks 27 = .ok (.istore 5, 2) := by decide +kernel
theorem dX6_layMarks_29 : decode cX6_layMarks 29 = .ok (.iload 5, 2) := by decide +kernel
theorem dX6_layMarks_31 : decode cX6_layMarks 31 = .ok (.aload_n 0, 1) := by decide +kernel
theorem dX6_layMarks_32 : decode cX6_layMarks 32 = .ok (.getfield 23, 3) := by decide +kernel
theorem dX6_layMarks_35 : decode cX6_layMarks 35 = .ok (.if_icmp .ge 36, 3) := by decide +kernel
theorem dX6_layMarks_38 : decode cX6_layMarks 38 = .ok (.iload_n 2, 1) := by decide +kernel
theorem dX6_layMarks_39 : decode cX6_layMarks 39 = .ok (.aload_n 0, 1) := by decide +kernel
theorem dX6_layMarks_40 : decode cX6_layMarks 40 = .ok (.getfield 85, 3) := by decide +kernel
theorem dX6_layMarks_43 : decode cX6_layMarks 43 = .ok (.if_icmp .lt 9, 3) := by decide +kernel
theorem dX6_layMarks_46 : decode cX6_layMarks 46 = .ok (.iload_n 2, 1) := by decide +kernel
theorem dX6_layMarks_47 : decode cX6_layMarks 47 = .ok (.bipush 16, 2) := by decide +kernel
theorem dX6_layMarks_49 : decode cX6_layMarks 49 = .ok (.if_icmp .lt 22, 3) := by decide +kernel
theorem dX6_layMarks_52 : decode cX6_layMarks 52 = .ok (.lload_n 3, 1) := by decide +kernel
theorem dX6_layMarks_53 : decode cX6_layMarks 53 = .ok (.lconst 1, 1) := by decide +kernel
theorem dX6_layMarks_54 : decode cX6_layMarks 54 = .ok (.aload_n 0, 1) := by decide +kernel
theorem dX6_layMarks_55 : decode cX6_layMarks 55 = .ok (.aload_n 0, 1) := by decide +kernel
theorem dX6_layMarks_56 : decode cX6_layMarks 56 = .ok (.getfield 19, 3) := by decide +kernel
theorem dX6_layMarks_59 : decode cX6_layMarks 59 = .ok (.invokevirtual 106, 3) := by decide +kernel
theorem dX6_layMarks_62 : decode cX6_layMarks 62 = .ok (.lshl, 1) := by decide +kernel
theorem dX6_layMarks_63 : decode cX6_layMarks 63 = .ok (.lor, 1) := by decide +kernel
theorem dX6_layMarks_64 : decode cX6_layMarks 64 = .ok (.lstore_n 3, 1) := by decide +kernel
theorem dX6_layMarks_65 : decode cX6_layMarks 65 = .ok (.iinc 5 1, 3) := by decide +kernel
theorem dX6_layMarks_68 : decode cX6_layMarks 68 = .ok (.goto (-39), 3) := by decide +kernel
theorem dX6_layMarks_71 : decode cX6_layMarks 71 = .ok (.aload_n 0, 1) := by decide +kernel
theorem dX6_layMarks_72 : decode cX6_layMarks 72 = .ok (.getfield 38, 3) := by decide +kernel
theorem dX6_layMarks_75 : decode cX6_layMarks 75 = .ok (.bipush 20, 2) := by decide +kernel
theorem dX6_layMarks_77 : decode cX6_layMarks 77 = .ok (.iload_n 1, 1) := by decide +kernel
theorem dX6_layMarks_78 : decode cX6_layMarks 78 = .ok (.imul, 1) := by decide +kernel
theorem dX6_layMarks_79 : decode cX6_layMarks 79 = .ok (.iload_n 2, 1) := by decide +kernel
theorem dX6_layMarks_80 : decode cX6_layMarks 80 = .ok (.iadd, 1) := by decide +kernel
theorem dX6_layMarks_81 : decode cX6_layMarks 81 = .ok (.lload_n 3, 1) := by decide +kernel
theorem dX6_layMarks_82 : decode cX6_layMarks 82 = .ok (.lastore, 1) := by decide +kernel
theorem dX6_layMarks_83 : decode cX6_layMarks 83 = .ok (.iinc 2 1, 3) := by decide +kernel
theorem dX6_layMarks_86 : decode cX6_layMarks 86 = .ok (.goto (-68), 3) := by decide +kernel
theorem dX6_layMarks_89 : decode cX6_layMarks 89 = .ok (.iinc 1 1, 3) := by decide +kernel
theorem dX6_layMarks_92 : decode cX6_layMarks 92 = .ok (.goto (-81), 3) := by decide +kernel
theorem dX6_layMarks_95 : decode cX6_layMarks 95 = .ok (.return_, 1) := by decide +kernel
set_option maxRecDepth 20000 in
theorem ggX6_set_X6_within : GoodIn wsX6_set wsX6_within := goodIn_r _ [7] (by decide +kernel) (by decide +kernel)
set_option maxRecDepth 20000 in
theorem gX6_set_X6_within : GoodIn wsX6_set (va_wsS RX6 48 yX6_within wsX6_within) := goodIn_app (goodIn_of _ (by decide +kernel)) ggX6_set_X6_within
set_option maxRecDepth 20000 in
theorem ggX6_set_X6_layMarks : GoodIn wsX6_set wsX6_layMarks := goodIn_r _ [11, 3, 12, 2, 13, 1, 14, 15, 16, 17, 6, 18, 19, 20, 21, 22, 23, 24, 25, 26, 27, 28, 29, 30, 31, 32, 33, 34, 35, 36, 37, 38, 39, 40, 41, 42, 43, 44, 45, 46, 47, 48, 49, 50, 51, 52, 53, 54, 55, 56] (by decide +kernel) (by decide +kernel)
set_option maxRecDepth 20000 in
theorem gX6_set_X6_layMarks : GoodIn wsX6_set (wsV RX6 91 RX6 yX6_layMarks wsX6_layMarks) := goodIn_app (goodIn_of _ (by decide +kernel)) ggX6_set_X6_layMarks
theorem dX6_set_0 : decode cX6_set 0 = .ok (.iload_n 1, 1) := by decide +kernel
theorem dX6_set_1 : decode cX6_set 1 = .ok (.ifCond .ne 14, 3) := by decide +kernel
theorem dX6_set_4 : decode cX6_set 4 = .ok (.iload_n 2, 1) := by decide +kernel
theorem dX6_set_5 : decode cX6_set 5 = .ok (.bipush 8, 2) := by decide +kernel
theorem dX6_set_7 : decode cX6_set 7 = .ok (.bipush 40, 2) := by decide +kernel
theorem dX6_set_9 : decode cX6_set 9 = .ok (.invokestatic 48, 3) := by decide +kernel
theorem dX6_set_12 : decode cX6_set 12 = .ok (.goto 31, 3) := by decide +kernel
theorem dX6_set_15 : decode cX6_set 15 = .ok (.iload_n 1, 1) := by decide +kernel
theorem dX6_set_16 : decode cX6_set 16 = .ok (.iconst 1, 1) := by decide +kernel
theorem dX6_set_17 : decode cX6_set 17 = .ok (.if_icmp .ne 12, 3) := by decide +kernel
theorem dX6_set_20 : decode cX6_set 20 = .ok (.iload_n 2, 1) := by decide +kernel
theorem dX6_set_21 : decode cX6_set 21 = .ok (.iconst 1, 1) := by decide +kernel
theorem dX6_set_22 : decode cX6_set 22 = .ok (.iconst 4, 1) := by decide +kernel
theorem dX6_set_23 : decode cX6_set 23 = .ok (.invokestatic 48, 3) := by decide +kernel
theorem dX6_set_26 : decode cX6_set 26 = .ok (.goto 17, 3) := by decide +kernel
theorem dX6_set_29 : decode cX6_set 29 = .ok (.iload_n 1, 1) := by decide +kernel
theorem dX6_set_30 : decode cX6_set 30 = .ok (.iconst 2, 1) := by decide +kernel
theorem dX6_set_31 : decode cX6_set 31 = .ok (.if_icmp .ne 11, 3) := by decide +kernel
theorem dX6_set_34 : decode cX6_set 34 = .ok (.iload_n 2, 1) := by decide +kernel
theorem dX6_set_35 : decode cX6_set 35 = .ok (.ifCond .lt 7, 3) := by decide +kernel
theorem dX6_set_38 : decode cX6_set 38 = .ok (.iconst 1, 1) := by decide +kernel
theorem dX6_set_39 : decode cX6_set 39 = .ok (.goto 4, 3) := by decide +kernel
theorem dX6_set_42 : decode cX6_set 42 = .ok (.iconst 0, 1) := by decide +kernel
theorem dX6_set_43 : decode cX6_set 43 = .ok (.istore_n 3, 1) := by decide +kernel
theorem dX6_set_44 : decode cX6_set 44 = .ok (.iload_n 3, 1) := by decide +kernel
theorem dX6_set_45 : decode cX6_set 45 = .ok (.ifCond .ne 7, 3) := by decide +kernel
theorem dX6_set_48 : decode cX6_set 48 = .ok (.sipush (-1002), 3) := by decide +kernel
theorem dX6_set_51 : decode cX6_set 51 = .ok (.ireturn, 1) := by decide +kernel
theorem dX6_set_52 : decode cX6_set 52 = .ok (.iload_n 1, 1) := by decide +kernel
theorem dX6_set_53 : decode cX6_set 53 = .ok (.ifCond .ne 10, 3) := by decide +kernel
theorem dX6_set_56 : decode cX6_set 56 = .ok (.aload_n 0, 1) := by decide +kernel
theorem dX6_set_57 : decode cX6_set 57 = .ok (.getfield 19, 3) := by decide +kernel
theorem dX6_set_60 : decode cX6_set 60 = .ok (.goto 19, 3) := by decide +kernel
theorem dX6_set_63 : decode cX6_set 63 = .ok (.iload_n 1, 1) := by decide +kernel
theorem dX6_set_64 : decode cX6_set 64 = .ok (.iconst 1, 1) := by decide +kernel
theorem dX6_set_65 : decode cX6_set 65 = .ok (.if_icmp .ne 10, 3) := by decide +kernel
theorem dX6_set_68 : decode cX6_set 68 = .ok (.aload_n 0, 1) := by decide +kernel
theorem dX6_set_69 : decode cX6_set 69 = .ok (.getfield 23, 3) := by decide +kernel
theorem dX6_set_72 : decode cX6_set 72 = .ok (.goto 7, 3) := by decide +kernel
theorem dX6_set_75 : decode cX6_set 75 = .ok (.aload_n 0, 1) := by decide +kernel
theorem dX6_set_76 : decode cX6_set 76 = .ok (.getfield 26, 3) := by decide +kernel
theorem dX6_set_79 : decode cX6_set 79 = .ok (.istore 4, 2) := by decide +kernel
theorem dX6_set_81 : decode cX6_set 81 = .ok (.aload_n 0, 1) := by decide +kernel
theorem dX6_set_82 : decode cX6_set 82 = .ok (.iload_n 1, 1) := by decide +kernel
theorem dX6_set_83 : decode cX6_set 83 = .ok (.ifCond .ne 7, 3) := by decide +kernel
theorem dX6_set_86 : decode cX6_set 86 = .ok (.iload_n 2, 1) := by decide +kernel
theorem dX6_set_87 : decode cX6_set 87 = .ok (.goto 7, 3) := by decide +kernel
theorem dX6_set_90 : decode cX6_set 90 = .ok (.aload_n 0, 1) := by decide +kernel
theorem dX6_set_91 : decode cX6_set 91 = .ok (.getfield 19, 3) := by decide +kernel
theorem dX6_set_94 : decode cX6_set 94 = .ok (.putfield 19, 3) := by decide +kernel
theorem dX6_set_97 : decode cX6_set 97 = .ok (.aload_n 0, 1) := by decide +kernel
theorem dX6_set_98 : decode cX6_set 98 = .ok (.iload_n 1, 1) := by decide +kernel
theorem dX6_set_99 : decode cX6_set 99 = .ok (.iconst 1, 1) := by decide +kernel
theorem dX6_set_100 : decode cX6_set 100 = .ok (.if_icmp .ne 7, 3) := by decide +kernel
theorem dX6_set_103 : decode cX6_set 103 = .ok (.iload_n 2, 1) := by decide +kernel
theorem dX6_set_104 : decode cX6_set 104 = .ok (.goto 7, 3) := by decide +kernel
theorem dX6_set_107 : decode cX6_set 107 = .ok (.aload_n 0, 1) := by decide +kernel
theorem dX6_set_108 : decode cX6_set 108 = .ok (.getfield 23, 3) := by decide +kernel
theorem dX6_set_111 : decode cX6_set 111 = .ok (.putfield 23, 3) := by decide +kernel
theorem dX6_set_114 : decode cX6_set 114 = .ok (.aload_n 0, 1) := by decide +kernel
theorem dX6_set_115 : decode cX6_set 115 = .ok (.iload_n 1, 1) := by decide +kernel
theorem dX6_set_116 : decode cX6_set 116 = .ok (.iconst 2, 1) := by decide +kernel
theorem dX6_set_117 : decode cX6_set 117 = .ok (.if_icmp .ne 7, 3) := by decide +kernel
theorem dX6_set_120 : decode cX6_set 120 = .ok (.iload_n 2, 1) := by decide +kernel
theorem dX6_set_121 : decode cX6_set 121 = .ok (.goto 7, 3) := by decide +kernel
theorem dX6_set_124 : decode cX6_set 124 = .ok (.aload_n 0, 1) := by decide +kernel
theorem dX6_set_125 : decode cX6_set 125 = .ok (.getfield 26, 3) := by decide +kernel
theorem dX6_set_128 : decode cX6_set 128 = .ok (.putfield 26, 3) := by decide +kernel
theorem dX6_set_131 : decode cX6_set 131 = .ok (.aload_n 0, 1) := by decide +kernel
theorem dX6_set_132 : decode cX6_set 132 = .ok (.invokevirtual 91, 3) := by decide +kernel
theorem dX6_set_135 : decode cX6_set 135 = .ok (.iload 4, 2) := by decide +kernel
theorem dX6_set_137 : decode cX6_set 137 = .ok (.ireturn, 1) := by decide +kernel
set_option maxRecDepth 20000 in
theorem ggX6_isLink_X6_within : GoodIn wsX6_isLink wsX6_within := goodIn_r _ [5] (by decide +kernel) (by decide +kernel)
set_option maxRecDepth 20000 in
theorem gX6_isLink_X6_within : GoodIn wsX6_isLink (va_wsS RX6 48 yX6_within wsX6_within) := goodIn_app (goodIn_of _ (by decide +kernel)) ggX6_isLink_X6_within
theorem dX6_isLink_0 : decode cX6_isLink 0 = .ok (.iload_n 1, 1) := by decide +kernel
theorem dX6_isLink_1 : decode cX6_isLink 1 = .ok (.iconst 0, 1) := by decide +kernel
theorem dX6_isLink_2 : decode cX6_isLink 2 = .ok (.aload_n 0, 1) := by decide +kernel
theorem dX6_isLink_3 : decode cX6_isLink 3 = .ok (.getfield 85, 3) := by decide +kernel
theorem dX6_isLink_6 : decode cX6_isLink 6 = .ok (.iconst 1, 1) := by decide +kernel
theorem dX6_isLink_7 : decode cX6_isLink 7 = .ok (.isub, 1) := by decide +kernel
theorem dX6_isLink_8 : decode cX6_isLink 8 = .ok (.invokestatic 48, 3) := by decide +kernel
theorem dX6_isLink_11 : decode cX6_isLink 11 = .ok (.ireturn, 1) := by decide +kernel
set_option maxRecDepth 20000 in
theorem ggX6_isVariant_X6_within : GoodIn wsX6_isVariant wsX6_within := goodIn_r _ [4] (by decide +kernel) (by decide +kernel)
set_option maxRecDepth 20000 in
theorem gX6_isVariant_X6_within : GoodIn wsX6_isVariant (va_wsS RX6 48 yX6_within wsX6_within) := goodIn_app (goodIn_of _ (by decide +kernel)) ggX6_isVariant_X6_within
theorem dX6_isVariant_0 : decode cX6_isVariant 0 = .ok (.iload_n 0, 1) := by decide +kernel
theorem dX6_isVariant_1 : decode cX6_isVariant 1 = .ok (.iconst 0, 1) := by decide +kernel
theorem dX6_isVariant_2 : decode cX6_isVariant 2 = .ok (.iconst 2, 1) := by decide +kernel
theorem dX6_isVariant_3 : decode cX6_isVariant 3 = .ok (.invokestatic 48, 3) := by decide +kernel
theorem dX6_isVariant_6 : decode cX6_isVariant 6 = .ok (.ireturn, 1) := by decide +kernel
set_option maxRecDepth 20000 in
theorem ggX6_mark_X6_isLink : GoodIn wsX6_mark wsX6_isLink := goodIn_r _ [8, 9, 10, 11, 7, 12, 16, 17, 18, 19, 20, 21, 22, 23, 24, 25, 26, 27, 28, 29, 30, 31, 32, 33, 34, 35, 36, 37, 38, 39, 40, 41, 42, 43, 44, 45, 46, 47, 48, 49] (by decide +kernel) (by decide +kernel)
set_option maxRecDepth 20000 in
theorem gX6_mark_X6_isLink : GoodIn wsX6_mark (wsV RX6 110 RX6 yX6_isLink wsX6_isLink) := goodIn_app (goodIn_of _ (by decide +kernel)) ggX6_mark_X6_isLink
set_option maxRecDepth 20000 in
theorem ggX6_mark_X6_isVariant : GoodIn wsX6_mark wsX6_isVariant := goodIn_r _ [15, 10, 11, 7, 12] (by decide +kernel) (by decide +kernel)
set_option maxRecDepth 20000 in
theorem gX6_mark_X6_isVariant : GoodIn wsX6_mark (va_wsS RX6 115 yX6_isVariant wsX6_isVariant) := goodIn_app (goodIn_of _ (by decide +kernel)) ggX6_mark_X6_isVariant
theorem dX6_mark_0 : decode cX6_mark 0 = .ok (.aload_n 0, 1) := by decide +kernel
theorem dX6_mark_1 : decode cX6_mark 1 = .ok (.iload_n 1, 1) := by decide +kernel
theorem dX6_mark_2 : decode cX6_mark 2 = .ok (.invokevirtual 110, 3) := by decide +kernel
theorem dX6_mark_5 : decode cX6_mark 5 = .ok (.ifCond .ne 7, 3) := by decide +kernel
theorem dX6_mark_8 : decode cX6_mark 8 = .ok (.ldc2_w 113, 3) := by decide +kernel
theorem dX6_mark_11 : decode cX6_mark 11 = .ok (.lreturn, 1) := by decide +kernel
theorem dX6_mark_12 : decode cX6_mark 12 = .ok (.iload_n 2, 1) := by decide +kernel
theorem dX6_mark_13 : decode cX6_mark 13 = .ok (.invokestatic 115, 3) := by decide +kernel
theorem dX6_mark_16 : decode cX6_mark 16 = .ok (.ifCond .eq 17, 3) := by decide +kernel
theorem dX6_mark_19 : decode cX6_mark 19 = .ok (.aload_n 0, 1) := by decide +kernel
theorem dX6_mark_20 : decode cX6_mark 20 = .ok (.getfield 38, 3) := by decide +kernel
theorem dX6_mark_23 : decode cX6_mark 23 = .ok (.bipush 20, 2) := by decide +kernel
theorem dX6_mark_25 : decode cX6_mark 25 = .ok (.iload_n 2, 1) := by decide +kernel
theorem dX6_mark_26 : decode cX6_mark 26 = .ok (.imul, 1) := by decide +kernel
theorem dX6_mark_27 : decode cX6_mark 27 = .ok (.iload_n 1, 1) := by decide +kernel
theorem dX6_mark_28 : decode cX6_mark 28 = .ok (.iadd, 1) := by decide +kernel
theorem dX6_mark_29 : decode cX6_mark 29 = .ok (.laload, 1) := by decide +kernel
theorem dX6_mark_30 : decode cX6_mark 30 = .ok (.goto 6, 3) := by decide +kernel
theorem dX6_mark_33 : decode cX6_mark 33 = .ok (.ldc2_w 118, 3) := by decide +kernel
theorem dX6_mark_36 : decode cX6_mark 36 = .ok (.lreturn, 1) := by decide +kernel
set_option maxRecDepth 20000 in
theorem ggX6_bundlesOf_X6_has : GoodIn wsX6_bundlesOf wsX6_has := goodIn_r _ [5] (by decide +kernel) (by decide +kernel)
set_option maxRecDepth 20000 in
theorem gX6_bundlesOf_X6_has : GoodIn wsX6_bundlesOf (va_wsS RX6 120 yX6_has wsX6_has) := goodIn_app (goodIn_of _ (by decide +kernel)) ggX6_bundlesOf_X6_has
theorem dX6_bundlesOf_0 : decode cX6_bundlesOf 0 = .ok (.iconst 0, 1) := by decide +kernel
theorem dX6_bundlesOf_1 : decode cX6_bundlesOf 1 = .ok (.istore_n 2, 1) := by decide +kernel
theorem dX6_bundlesOf_2 : decode cX6_bundlesOf 2 = .ok (.iconst 0, 1) := by decide +kernel
theorem dX6_bundlesOf_3 : decode cX6_bundlesOf 3 = .ok (.istore_n 3, 1) := by decide +kernel
theorem dX6_bundlesOf_4 : decode cX6_bundlesOf 4 = .ok (.iload_n 3, 1) := by decide +kernel
theorem dX6_bundlesOf_5 : decode cX6_bundlesOf 5 = .ok (.iconst 4, 1) := by decide +kernel
theorem dX6_bundlesOf_6 : decode cX6_bundlesOf 6 = .ok (.if_icmp .ge 32, 3) := by decide +kernel
theorem dX6_bundlesOf_9 : decode cX6_bundlesOf 9 = .ok (.iload_n 2, 1) := by decide +kernel
theorem dX6_bundlesOf_10 : decode cX6_bundlesOf 10 = .ok (.aload_n 0, 1) := by decide +kernel
theorem dX6_bundlesOf_11 : decode cX6_bundlesOf 11 = .ok (.getfield 29, 3) := by decide +kernel
theorem dX6_bundlesOf_14 : decode cX6_bundlesOf 14 = .ok (.iload_n 3, 1) := by decide +kernel
theorem dX6_bundlesOf_15 : decode cX6_bundlesOf 15 = .ok (.iaload, 1) := by decide +kernel
theorem dX6_bundlesOf_16 : decode cX6_bundlesOf 16 = .ok (.iload_n 1, 1) := by decide +kernel
theorem dX6_bundlesOf_17 : decode cX6_bundlesOf 17 = .ok (.invokestatic 120, 3) := by decide +kernel
theorem dX6_bundlesOf_20 : decode cX6_bundlesOf 20 = .ok (.ifCond .eq 9, 3) := by decide +kernel
theorem dX6_bundlesOf_23 : decode cX6_bundlesOf 23 = .ok (.iconst 1, 1) := by decide +kernel
theorem dX6_bundlesOf_24 : decode cX6_bundlesOf 24 = .ok (.iload_n 3, 1) := by decide +kernel
theorem dX6_bundlesOf_25 : decode cX6_bundlesOf 25 = .ok (.ishl, 1) := by decide +kernel
theorem dX6_bundlesOf_26 : decode cX6_bundlesOf 26 = .ok (.goto 4, 3) := by decide +kernel
theorem dX6_bundlesOf_29 : decode cX6_bundlesOf 29 = .ok (.iconst 0, 1) := by decide +kernel
theorem dX6_bundlesOf_30 : decode cX6_bundlesOf 30 = .ok (.ior, 1) := by decide +kernel
theorem dX6_bundlesOf_31 : decode cX6_bundlesOf 31 = .ok (.istore_n 2, 1) := by decide +kernel
theorem dX6_bundlesOf_32 : decode cX6_bundlesOf 32 = .ok (.iinc 3 1, 3) := by decide +kernel
theorem dX6_bundlesOf_35 : decode cX6_bundlesOf 35 = .ok (.goto (-31), 3) := by decide +kernel
theorem dX6_bundlesOf_38 : decode cX6_bundlesOf 38 = .ok (.iload_n 2, 1) := by decide +kernel
theorem dX6_bundlesOf_39 : decode cX6_bundlesOf 39 = .ok (.ireturn, 1) := by decide +kernel
set_option maxRecDepth 20000 in
theorem ggX6_linkNow_X6_bundlesOf : GoodIn wsX6_linkNow wsX6_bundlesOf := goodIn_r _ [7, 8, 9, 10, 6, 11, 12, 13, 14, 15, 16, 17, 18, 19, 20, 21, 22, 23, 24, 25, 26, 27, 28, 29, 30, 31, 32, 33, 34, 35, 36, 37, 38, 39, 40, 41, 42, 43, 44, 45] (by decide +kernel) (by decide +kernel)
set_option maxRecDepth 20000 in
theorem gX6_linkNow_X6_bundlesOf : GoodIn wsX6_linkNow (wsV RX6 123 RX6 yX6_bundlesOf wsX6_bundlesOf) := goodIn_app (goodIn_of _ (by decide +kernel)) ggX6_linkNow_X6_bundlesOf
theorem dX6_linkNow_0 : decode cX6_linkNow 0 = .ok (.iload_n 2, 1) := by decide +kernel
theorem dX6_linkNow_1 : decode cX6_linkNow 1 = .ok (.ifCond .ne 12, 3) := by decide +kernel
theorem dX6_linkNow_4 : decode cX6_linkNow 4 = .ok (.aload_n 0, 1) := by decide +kernel
theorem dX6_linkNow_5 : decode cX6_linkNow 5 = .ok (.getfield 13, 3) := by decide +kernel
theorem dX6_linkNow_8 : decode cX6_linkNow 8 = .ok (.iload_n 1, 1) := by decide +kernel
theorem dX6_linkNow_9 : decode cX6_linkNow 9 = .ok (.iaload, 1) := by decide +kernel
theorem dX6_linkNow_10 : decode cX6_linkNow 10 = .ok (.goto 22, 3) := by decide +kernel
theorem dX6_linkNow_13 : decode cX6_linkNow 13 = .ok (.iload_n 2, 1) := by decide +kernel
theorem dX6_linkNow_14 : decode cX6_linkNow 14 = .ok (.iconst 1, 1) := by decide +kernel
theorem dX6_linkNow_15 : decode cX6_linkNow 15 = .ok (.if_icmp .ne 12, 3) := by decide +kernel
theorem dX6_linkNow_18 : decode cX6_linkNow 18 = .ok (.aload_n 0, 1) := by decide +kernel
theorem dX6_linkNow_19 : decode cX6_linkNow 19 = .ok (.getfield 16, 3) := by decide +kernel
theorem dX6_linkNow_22 : decode cX6_linkNow 22 = .ok (.iload_n 1, 1) := by decide +kernel
theorem dX6_linkNow_23 : decode cX6_linkNow 23 = .ok (.iaload, 1) := by decide +kernel
theorem dX6_linkNow_24 : decode cX6_linkNow 24 = .ok (.goto 8, 3) := by decide +kernel
theorem dX6_linkNow_27 : decode cX6_linkNow 27 = .ok (.aload_n 0, 1) := by decide +kernel
theorem dX6_linkNow_28 : decode cX6_linkNow 28 = .ok (.iload_n 1, 1) := by decide +kernel
theorem dX6_linkNow_29 : decode cX6_linkNow 29 = .ok (.invokevirtual 123, 3) := by decide +kernel
theorem dX6_linkNow_32 : decode cX6_linkNow 32 = .ok (.ireturn, 1) := by decide +kernel
set_option maxRecDepth 20000 in
theorem ggX6_link_X6_isLink : GoodIn wsX6_link wsX6_isLink := goodIn_r _ [5, 6, 7, 8, 4, 9, 24, 25, 26, 27, 28, 29, 30, 31, 32, 33, 34, 35, 36, 37, 38, 39, 40, 41, 42, 43, 44, 45, 46, 47, 48, 49, 50, 51, 52, 53, 54, 55, 56, 57] (by decide +kernel) (by decide +kernel)
set_option maxRecDepth 20000 in
theorem gX6_link_X6_isLink : GoodIn wsX6_link (wsV RX6 110 RX6 yX6_isLink wsX6_isLink) := goodIn_app (goodIn_of _ (by decide +kernel)) ggX6_link_X6_isLink
set_option maxRecDepth 20000 in
theorem ggX6_link_X6_within : GoodIn wsX6_link wsX6_within := goodIn_r _ [9] (by decide +kernel) (by decide +kernel)
set_option maxRecDepth 20000 in
theorem gX6_link_X6_within : GoodIn wsX6_link (va_wsS RX6 48 yX6_within wsX6_within) := goodIn_app (goodIn_of _ (by decide +kernel)) ggX6_link_X6_within
set_option maxRecDepth 20000 in
theorem ggX6_link_X6_linkNow : GoodIn wsX6_link wsX6_linkNow := goodIn_r _ [13, 14, 15, 16, 17, 18, 4, 19, 20, 21, 22, 23, 24, 25, 26, 27, 28, 29, 30, 31, 32, 33, 34, 35, 36, 37, 38, 39, 40, 41, 42, 43, 44, 45, 46, 47, 48, 49, 50, 51, 52, 53, 54, 55, 56, 57] (by decide +kernel) (by decide +kernel)
set_option maxRecDepth 20000 in
theorem gX6_link_X6_linkNow : GoodIn wsX6_link (wsV RX6 126 RX6 yX6_linkNow wsX6_linkNow) := goodIn_app (goodIn_of _ (by decide +kernel)) ggX6_link_X6_linkNow
theorem dX6_link_0 : decode cX6_link 0 = .ok (.aload_n 0, 1) := by decide +kernel
theorem dX6_link_1 : decode cX6_link 1 = .ok (.iload_n 1, 1) := by decide +kernel
theorem dX6_link_2 : decode cX6_link 2 = .ok (.invokevirtual 110, 3) := by decide +kernel
theorem dX6_link_5 : decode cX6_link 5 = .ok (.ifCond .ne 7, 3) := by decide +kernel
theorem dX6_link_8 : decode cX6_link 8 = .ok (.sipush (-1001), 3) := by decide +kernel
theorem dX6_link_11 : decode cX6_link 11 = .ok (.ireturn, 1) := by decide +kernel
theorem dX6_link_12 : decode cX6_link 12 = .ok (.iload_n 2, 1) := by decide +kernel
theorem dX6_link_13 : decode cX6_link 13 = .ok (.iconst 0, 1) := by decide +kernel
theorem dX6_link_14 : decode cX6_link 14 = .ok (.iconst 2, 1) := by decide +kernel
theorem dX6_link_15 : decode cX6_link 15 = .ok (.invokestatic 48, 3) := by decide +kernel
theorem dX6_link_18 : decode cX6_link 18 = .ok (.ifCond .eq 12, 3) := by decide +kernel
theorem dX6_link_21 : decode cX6_link 21 = .ok (.aload_n 0, 1) := by decide +kernel
theorem dX6_link_22 : decode cX6_link 22 = .ok (.iload_n 1, 1) := by decide +kernel
theorem dX6_link_23 : decode cX6_link 23 = .ok (.iload_n 2, 1) := by decide +kernel
theorem dX6_link_24 : decode cX6_link 24 = .ok (.invokevirtual 126, 3) := by decide +kernel
theorem dX6_link_27 : decode cX6_link 27 = .ok (.goto 6, 3) := by decide +kernel
theorem dX6_link_30 : decode cX6_link 30 = .ok (.sipush (-1002), 3) := by decide +kernel
theorem dX6_link_33 : decode cX6_link 33 = .ok (.ireturn, 1) := by decide +kernel
set_option maxRecDepth 20000 in
theorem ggX6_isNode_X6_within : GoodIn wsX6_isNode wsX6_within := goodIn_r _ [5] (by decide +kernel) (by decide +kernel)
set_option maxRecDepth 20000 in
theorem gX6_isNode_X6_within : GoodIn wsX6_isNode (va_wsS RX6 48 yX6_within wsX6_within) := goodIn_app (goodIn_of _ (by decide +kernel)) ggX6_isNode_X6_within
theorem dX6_isNode_0 : decode cX6_isNode 0 = .ok (.iload_n 1, 1) := by decide +kernel
theorem dX6_isNode_1 : decode cX6_isNode 1 = .ok (.iconst 0, 1) := by decide +kernel
theorem dX6_isNode_2 : decode cX6_isNode 2 = .ok (.aload_n 0, 1) := by decide +kernel
theorem dX6_isNode_3 : decode cX6_isNode 3 = .ok (.getfield 82, 3) := by decide +kernel
theorem dX6_isNode_6 : decode cX6_isNode 6 = .ok (.iconst 1, 1) := by decide +kernel
theorem dX6_isNode_7 : decode cX6_isNode 7 = .ok (.isub, 1) := by decide +kernel
theorem dX6_isNode_8 : decode cX6_isNode 8 = .ok (.invokestatic 48, 3) := by decide +kernel
theorem dX6_isNode_11 : decode cX6_isNode 11 = .ok (.ireturn, 1) := by decide +kernel
theorem dX6_layLeft_0 : decode cX6_layLeft 0 = .ok (.iconst 0, 1) := by decide +kernel
theorem dX6_layLeft_1 : decode cX6_layLeft 1 = .ok (.istore_n 2, 1) := by decide +kernel
theorem dX6_layLeft_2 : decode cX6_layLeft 2 = .ok (.iload_n 2, 1) := by decide +kernel
theorem dX6_layLeft_3 : decode cX6_layLeft 3 = .ok (.aload_n 0, 1) := by decide +kernel
theorem dX6_layLeft_4 : decode cX6_layLeft 4 = .ok (.getfield 82, 3) := by decide +kernel
theorem dX6_layLeft_7 : decode cX6_layLeft 7 = .ok (.if_icmp .ge 26, 3) := by decide +kernel
theorem dX6_layLeft_10 : decode cX6_layLeft 10 = .ok (.aload_n 0, 1) := by decide +kernel
theorem dX6_layLeft_11 : decode cX6_layLeft 11 = .ok (.getfield 42, 3) := by decide +kernel
theorem dX6_layLeft_14 : decode cX6_layLeft 14 = .ok (.iload_n 2, 1) := by decide +kernel
theorem dX6_layLeft_15 : decode cX6_layLeft 15 = .ok (.iload_n 2, 1) := by decide +kernel
theorem dX6_layLeft_16 : decode cX6_layLeft 16 = .ok (.iload_n 1, 1) := by decide +kernel
theorem dX6_layLeft_17 : decode cX6_layLeft 17 = .ok (.if_icmp .ne 7, 3) := by decide +kernel
theorem dX6_layLeft_20 : decode cX6_layLeft 20 = .ok (.iconst 0, 1) := by decide +kernel
theorem dX6_layLeft_21 : decode cX6_layLeft 21 = .ok (.goto 5, 3) := by decide +kernel
theorem dX6_layLeft_24 : decode cX6_layLeft 24 = .ok (.bipush 6, 2) := by decide +kernel
theorem dX6_layLeft_26 : decode cX6_layLeft 26 = .ok (.iastore, 1) := by decide +kernel
theorem dX6_layLeft_27 : decode cX6_layLeft 27 = .ok (.iinc 2 1, 3) := by decide +kernel
theorem dX6_layLeft_30 : decode cX6_layLeft 30 = .ok (.goto (-28), 3) := by decide +kernel
theorem dX6_layLeft_33 : decode cX6_layLeft 33 = .ok (.iconst 0, 1) := by decide +kernel
theorem dX6_layLeft_34 : decode cX6_layLeft 34 = .ok (.istore_n 2, 1) := by decide +kernel
theorem dX6_layLeft_35 : decode cX6_layLeft 35 = .ok (.iload_n 2, 1) := by decide +kernel
theorem dX6_layLeft_36 : decode cX6_layLeft 36 = .ok (.aload_n 0, 1) := by decide +kernel
theorem dX6_layLeft_37 : decode cX6_layLeft 37 = .ok (.getfield 82, 3) := by decide +kernel
theorem dX6_layLeft_40 : decode cX6_layLeft 40 = .ok (.if_icmp .ge 83, 3) := by decide +kernel
theorem dX6_layLeft_43 : decode cX6_layLeft 43 = .ok (.iconst 0, 1) := by decide +kernel
theorem dX6_layLeft_44 : decode cX6_layLeft 44 = .ok (.istore_n 3, 1) := by decide +kernel
theorem dX6_layLeft_45 : decode cX6_layLeft 45 = .ok (.iload_n 3, 1) := by decide +kernel
theorem dX6_layLeft_46 : decode cX6_layLeft 46 = .ok (.aload_n 0, 1) := by decide +kernel
theorem dX6_layLeft_47 : decode cX6_layLeft 47 = .ok (.getfield 85, 3) := by decide +kernel
theorem dX6_layLeft_50 : decode cX6_layLeft 50 = .ok (.if_icmp .ge 67, 3) := by decide +kernel
theorem dX6_layLeft_53 : decode cX6_layLeft 53 = .ok (.aload_n 0, 1) := by decide +kernel
theorem dX6_layLeft_54 : decode cX6_layLeft 54 = .ok (.getfield 42, 3) := by decide +kernel
theorem dX6_layLeft_57 : decode cX6_layLeft 57 = .ok (.aload_n 0, 1) := by decide +kernel
theorem dX6_layLeft_58 : decode cX6_layLeft 58 = .ok (.getfield 16, 3) := by decide +kernel
theorem dX6_layLeft_61 : decode cX6_layLeft 61 = .ok (.iload_n 3, 1) := by decide +kernel
theorem dX6_layLeft_62 : decode cX6_layLeft 62 = .ok (.iaload, 1) := by decide +kernel
theorem dX6_layLeft_63 : decode cX6_layLeft 63 = .ok (.iaload, 1) := by decide +kernel
theorem dX6_layLeft_64 : decode cX6_layLeft 64 = .ok (.iconst 1, 1) := by decide +kernel
theorem dX6_layLeft_65 : decode cX6_layLeft 65 = .ok (.iadd, 1) := by decide +kernel
theorem dX6_layLeft_66 : decode cX6_layLeft 66 = .ok (.istore 4, 2) := by decide +kernel
theorem dX6_layLeft_68 : decode cX6_layLeft 68 = .ok (.aload_n 0, 1) := by decide +kernel
theorem dX6_layLeft_69 : decode cX6_layLeft 69 = .ok (.getfield 42, 3) := by decide +kernel
theorem dX6_layLeft_72 : decode cX6_layLeft 72 = .ok (.aload_n 0, 1) := by decide +kernel
theorem dX6_layLeft_73 : decode cX6_layLeft 73 = .ok (.getfield 13, 3) := by decide +kernel
theorem dX6_layLeft_76 : decode cX6_layLeft 76 = .ok (.iload_n 3, 1) := by decide +kernel
theorem dX6_layLeft_77 : decode cX6_layLeft 77 = .ok (.iaload, 1) := by decide +kernel
theorem dX6_layLeft_78 : decode cX6_layLeft 78 = .ok (.iload 4, 2) := by decide +kernel
theorem dX6_layLeft_80 : decode cX6_layLeft 80 = .ok (.aload_n 0, 1) := by decide +kernel
theorem dX6_layLeft_81 : decode cX6_layLeft 81 = .ok (.getfield 42, 3) := by decide +kernel
theorem dX6_layLeft_84 : decode cX6_layLeft 84 = .ok (.aload_n 0, 1) := by decide +kernel
theorem dX6_layLeft_85 : decode cX6_layLeft 85 = .ok (.getfield 13, 3) := by decide +kernel
theorem dX6_layLeft_88 : decode cX6_layLeft 88 = .ok (.iload_n 3, 1) := by decide +kernel
theorem dX6_layLeft_89 : decode cX6_layLeft 89 = .ok (.iaload, 1) := by decide +kernel
theorem dX6_layLeft_90 : decode cX6_layLeft 90 = .ok (.iaload, 1) := by decide +kernel
theorem dX6_layLeft_91 : decode cX6_layLeft 91 = .ok (.if_icmp .ge 8, 3) := by decide +kernel
theorem dX6_layLeft_94 : decode cX6_layLeft 94 = .ok (.iload 4, 2) := by decide +kernel
theorem dX6_layLeft_96 : decode cX6_layLeft 96 = .ok (.goto 14, 3) := by decide +kernel
theorem dX6_layLeft_99 : decode cX6_layLeft 99 = .ok (.aload_n 0, 1) := by decide +kernel
theorem dX6_layLeft_100 : decode cX6_layLeft 100 = .ok (.getfield 42, 3) := by decide +kernel
theorem dX6_layLeft_103 : decode cX6_layLeft 103 = .ok (.aload_n 0, 1) := by decide +kernel
theorem dX6_layLeft_104 : decode cX6_layLeft 104 = .ok (.getfield 13, 3) := by decide +kernel
theorem dX6_layLeft_107 : decode cX6_layLeft 107 = .ok (.iload_n 3, 1) := by decide +kernel
theorem dX6_layLeft_108 : decode cX6_layLeft 108 = .ok (.iaload, 1) := by decide +kernel
theorem dX6_layLeft_109 : decode cX6_layLeft 109 = .ok (.iaload, 1) := by decide +kernel
theorem dX6_layLeft_110 : decode cX6_layLeft 110 = .ok (.iastore, 1) := by decide +kernel
theorem dX6_layLeft_111 : decode cX6_layLeft 111 = .ok (.iinc 3 1, 3) := by decide +kernel
theorem dX6_layLeft_114 : decode cX6_layLeft 114 = .ok (.goto (-69), 3) := by decide +kernel
theorem dX6_layLeft_117 : decode cX6_layLeft 117 = .ok (.iinc 2 1, 3) := by decide +kernel
theorem dX6_layLeft_120 : decode cX6_layLeft 120 = .ok (.goto (-85), 3) := by decide +kernel
theorem dX6_layLeft_123 : decode cX6_layLeft 123 = .ok (.return_, 1) := by decide +kernel
theorem dX6_nextNode_0 : decode cX6_nextNode 0 = .ok (.bipush 6, 2) := by decide +kernel
theorem dX6_nextNode_2 : decode cX6_nextNode 2 = .ok (.istore_n 2, 1) := by decide +kernel
theorem dX6_nextNode_3 : decode cX6_nextNode 3 = .ok (.iconst 0, 1) := by decide +kernel
theorem dX6_nextNode_4 : decode cX6_nextNode 4 = .ok (.istore_n 3, 1) := by decide +kernel
theorem dX6_nextNode_5 : decode cX6_nextNode 5 = .ok (.iload_n 3, 1) := by decide +kernel
theorem dX6_nextNode_6 : decode cX6_nextNode 6 = .ok (.aload_n 0, 1) := by decide +kernel
theorem dX6_nextNode_7 : decode cX6_nextNode 7 = .ok (.getfield 85, 3) := by decide +kernel
theorem dX6_nextNode_10 : decode cX6_nextNode 10 = .ok (.if_icmp .ge 74, 3) := by decide +kernel
theorem dX6_nextNode_13 : decode cX6_nextNode 13 = .ok (.aload_n 0, 1) := by decide +kernel
theorem dX6_nextNode_14 : decode cX6_nextNode 14 = .ok (.getfield 13, 3) := by decide +kernel
theorem dX6_nextNode_17 : decode cX6_nextNode 17 = .ok (.iload_n 3, 1) := by decide +kernel
theorem dX6_nextNode_18 : decode cX6_nextNode 18 = .ok (.iaload, 1) := by decide +kernel
theorem dX6_nextNode_19 : decode cX6_nextNode 19 = .ok (.iload_n 1, 1) := by decide +kernel
theorem dX6_nextNode_20 : decode cX6_nextNode 20 = .ok (.if_icmp .ne 29, 3) := by decide +kernel
theorem dX6_nextNode_23 : decode cX6_nextNode 23 = .ok (.aload_n 0, 1) := by decide +kernel
theorem dX6_nextNode_24 : decode cX6_nextNode 24 = .ok (.getfield 42, 3) := by decide +kernel
theorem dX6_nextNode_27 : decode cX6_nextNode 27 = .ok (.aload_n 0, 1) := by decide +kernel
theorem dX6_nextNode_28 : decode cX6_nextNode 28 = .ok (.getfield 16, 3) := by decide +kernel
theorem dX6_nextNode_31 : decode cX6_nextNode 31 = .ok (.iload_n 3, 1) := by decide +kernel
theorem dX6_nextNode_32 : decode cX6_nextNode 32 = .ok (.iaload, 1) := by decide +kernel
theorem dX6_nextNode_33 : decode cX6_nextNode 33 = .ok (.iaload, 1) := by decide +kernel
theorem dX6_nextNode_34 : decode cX6_nextNode 34 = .ok (.iconst 1, 1) := by decide +kernel
theorem dX6_nextNode_35 : decode cX6_nextNode 35 = .ok (.iadd, 1) := by decide +kernel
theorem dX6_nextNode_36 : decode cX6_nextNode 36 = .ok (.aload_n 0, 1) := by decide +kernel
theorem dX6_nextNode_37 : decode cX6_nextNode 37 = .ok (.getfield 42, 3) := by decide +kernel
theorem dX6_nextNode_40 : decode cX6_nextNode 40 = .ok (.iload_n 1, 1) := by decide +kernel
theorem dX6_nextNode_41 : decode cX6_nextNode 41 = .ok (.iaload, 1) := by decide +kernel
theorem dX6_nextNode_42 : decode cX6_nextNode 42 = .ok (.if_icmp .ne 7, 3) := by decide +kernel
theorem dX6_nextNode_45 : decode cX6_nextNode 45 = .ok (.iconst 1, 1) := by decide +kernel
theorem dX6_nextNode_46 : decode cX6_nextNode 46 = .ok (.goto 4, 3) := by decide +kernel
theorem dX6_nextNode_49 : decode cX6_nextNode 49 = .ok (.iconst 0, 1) := by decide +kernel
theorem dX6_nextNode_50 : decode cX6_nextNode 50 = .ok (.istore 4, 2) := by decide +kernel
theorem dX6_nextNode_52 : decode cX6_nextNode 52 = .ok (.iload 4, 2) := by decide +kernel
theorem dX6_nextNode_54 : decode cX6_nextNode 54 = .ok (.ifCond .eq 22, 3) := by decide +kernel
theorem dX6_nextNode_57 : decode cX6_nextNode 57 = .ok (.aload_n 0, 1) := by decide +kernel
theorem dX6_nextNode_58 : decode cX6_nextNode 58 = .ok (.getfield 16, 3) := by decide +kernel
theorem dX6_nextNode_61 : decode cX6_nextNode 61 = .ok (.iload_n 3, 1) := by decide +kernel
theorem dX6_nextNode_62 : decode cX6_nextNode 62 = .ok (.iaload, 1) := by decide +kernel
theorem dX6_nextNode_63 : decode cX6_nextNode 63 = .ok (.iload_n 2, 1) := by decide +kernel
theorem dX6_nextNode_64 : decode cX6_nextNode 64 = .ok (.if_icmp .ge 12, 3) := by decide +kernel
theorem dX6_nextNode_67 : decode cX6_nextNode 67 = .ok (.aload_n 0, 1) := by decide +kernel
theorem dX6_nextNode_68 : decode cX6_nextNode 68 = .ok (.getfield 16, 3) := by decide +kernel
theorem dX6_nextNode_71 : decode cX6_nextNode 71 = .ok (.iload_n 3, 1) := by decide +kernel
theorem dX6_nextNode_72 : decode cX6_nextNode 72 = .ok (.iaload, 1) := by decide +kernel
theorem dX6_nextNode_73 : decode cX6_nextNode 73 = .ok (.goto 4, 3) := by decide +kernel
