theorem dX5_readWeigh_76 : decode cX5_readWeigh 76 = .ok (.ireturn, 1) := by decide +kernel
theorem dX5_readWeigh_77 : decode cX5_readWeigh 77 = .ok (.aload_n 0, 1) := by decide +kernel
theorem dX5_readWeigh_78 : decode cX5_readWeigh 78 = .ok (.getfield 73, 3) := by decide +kernel
theorem dX5_readWeigh_81 : decode cX5_readWeigh 81 = .ok (.iconst 2, 1) := by decide +kernel
theorem dX5_readWeigh_82 : decode cX5_readWeigh 82 = .ok (.iload_n 1, 1) := by decide +kernel
theorem dX5_readWeigh_83 : decode cX5_readWeigh 83 = .ok (.iadd, 1) := by decide +kernel
theorem dX5_readWeigh_84 : decode cX5_readWeigh 84 = .ok (.aload_n 0, 1) := by decide +kernel
theorem dX5_readWeigh_85 : decode cX5_readWeigh 85 = .ok (.getfield 117, 3) := by decide +kernel
theorem dX5_readWeigh_88 : decode cX5_readWeigh 88 = .ok (.iastore, 1) := by decide +kernel
theorem dX5_readWeigh_89 : decode cX5_readWeigh 89 = .ok (.aload_n 0, 1) := by decide +kernel
theorem dX5_readWeigh_90 : decode cX5_readWeigh 90 = .ok (.invokevirtual 135, 3) := by decide +kernel
theorem dX5_readWeigh_93 : decode cX5_readWeigh 93 = .ok (.ireturn, 1) := by decide +kernel
set_option maxRecDepth 20000 in
theorem ggX5_readHome_X5_bad : GoodIn wsX5_readHome wsX5_bad := goodIn_r _ [6, 7, 8, 9, 10, 36, 37, 38, 39, 40, 41, 42, 43, 44, 45, 46, 47, 48, 49, 50, 51, 52, 53, 54, 55, 56, 57, 58, 59, 60, 61, 62, 63, 64, 65, 66] (by decide +kernel) (by decide +kernel)
set_option maxRecDepth 20000 in
theorem gX5_readHome_X5_bad : GoodIn wsX5_readHome (wsV RX5 110 RX5 yX5_bad wsX5_bad) := goodIn_app (goodIn_of _ (by decide +kernel)) ggX5_readHome_X5_bad
set_option maxRecDepth 20000 in
theorem ggX5_readHome_X5_go : GoodIn wsX5_readHome wsX5_go := goodIn_r _ [14, 15, 16, 17, 9, 7, 18, 19, 20, 21, 22, 23, 5, 24, 25, 26, 27, 28, 29, 30, 31, 36, 37, 38, 39, 40, 41, 42, 43, 44, 45, 46, 47, 48, 49, 50, 51, 52, 53, 54, 55, 56, 57, 58, 59, 60, 61, 62, 63, 64, 65, 66] (by decide +kernel) (by decide +kernel)
set_option maxRecDepth 20000 in
theorem gX5_readHome_X5_go : GoodIn wsX5_readHome (wsV RX5 120 RX5 yX5_go wsX5_go) := goodIn_app (goodIn_of _ (by decide +kernel)) ggX5_readHome_X5_go
set_option maxRecDepth 20000 in
theorem ggX5_readHome_X5_readEnd : GoodIn wsX5_readHome wsX5_readEnd := goodIn_r _ [35, 7, 2, 3, 4, 5, 6, 8, 9, 10, 11, 12, 13, 14, 15, 16, 17, 18, 19, 20, 21, 22, 23, 24, 25, 26, 27, 28, 29, 30, 31, 36, 37, 38, 39, 40, 41, 42, 43, 44, 45, 46, 47, 48, 49, 50, 51, 52, 53, 54, 55, 56, 57, 58, 59, 60, 61, 62, 63, 64, 65, 66] (by decide +kernel) (by decide +kernel)
set_option maxRecDepth 20000 in
theorem gX5_readHome_X5_readEnd : GoodIn wsX5_readHome (wsV RX5 135 RX5 yX5_readEnd wsX5_readEnd) := goodIn_app (goodIn_of _ (by decide +kernel)) ggX5_readHome_X5_readEnd
theorem dX5_readHome_0 : decode cX5_readHome 0 = .ok (.aload_n 0, 1) := by decide +kernel
theorem dX5_readHome_1 : decode cX5_readHome 1 = .ok (.getfield 73, 3) := by decide +kernel
theorem dX5_readHome_4 : decode cX5_readHome 4 = .ok (.iconst 1, 1) := by decide +kernel
theorem dX5_readHome_5 : decode cX5_readHome 5 = .ok (.iaload, 1) := by decide +kernel
theorem dX5_readHome_6 : decode cX5_readHome 6 = .ok (.bipush 6, 2) := by decide +kernel
theorem dX5_readHome_8 : decode cX5_readHome 8 = .ok (.if_icmp .ne 9, 3) := by decide +kernel
theorem dX5_readHome_11 : decode cX5_readHome 11 = .ok (.aload_n 0, 1) := by decide +kernel
theorem dX5_readHome_12 : decode cX5_readHome 12 = .ok (.iconst 3, 1) := by decide +kernel
theorem dX5_readHome_13 : decode cX5_readHome 13 = .ok (.invokevirtual 110, 3) := by decide +kernel
theorem dX5_readHome_16 : decode cX5_readHome 16 = .ok (.ireturn, 1) := by decide +kernel
theorem dX5_readHome_17 : decode cX5_readHome 17 = .ok (.aload_n 0, 1) := by decide +kernel
theorem dX5_readHome_18 : decode cX5_readHome 18 = .ok (.invokevirtual 120, 3) := by decide +kernel
theorem dX5_readHome_21 : decode cX5_readHome 21 = .ok (.aload_n 0, 1) := by decide +kernel
theorem dX5_readHome_22 : decode cX5_readHome 22 = .ok (.getfield 73, 3) := by decide +kernel
theorem dX5_readHome_25 : decode cX5_readHome 25 = .ok (.iconst 1, 1) := by decide +kernel
theorem dX5_readHome_26 : decode cX5_readHome 26 = .ok (.dup2, 1) := by decide +kernel
theorem dX5_readHome_27 : decode cX5_readHome 27 = .ok (.iaload, 1) := by decide +kernel
theorem dX5_readHome_28 : decode cX5_readHome 28 = .ok (.iconst 1, 1) := by decide +kernel
theorem dX5_readHome_29 : decode cX5_readHome 29 = .ok (.iadd, 1) := by decide +kernel
theorem dX5_readHome_30 : decode cX5_readHome 30 = .ok (.iastore, 1) := by decide +kernel
theorem dX5_readHome_31 : decode cX5_readHome 31 = .ok (.aload_n 0, 1) := by decide +kernel
theorem dX5_readHome_32 : decode cX5_readHome 32 = .ok (.invokevirtual 135, 3) := by decide +kernel
theorem dX5_readHome_35 : decode cX5_readHome 35 = .ok (.ireturn, 1) := by decide +kernel
set_option maxRecDepth 20000 in
theorem ggX5_readSale_X5_bad : GoodIn wsX5_readSale wsX5_bad := goodIn_r _ [10, 3, 11, 12, 13, 45, 46, 47, 48, 49, 50, 51, 52, 53, 54, 55, 56, 57, 58, 59, 60, 61, 62, 63, 64, 65, 66, 67, 68, 69, 70, 71, 72, 73, 74, 75] (by decide +kernel) (by decide +kernel)
set_option maxRecDepth 20000 in
theorem gX5_readSale_X5_bad : GoodIn wsX5_readSale (wsV RX5 110 RX5 yX5_bad wsX5_bad) := goodIn_app (goodIn_of _ (by decide +kernel)) ggX5_readSale_X5_bad
set_option maxRecDepth 20000 in
theorem ggX5_readSale_X5_go : GoodIn wsX5_readSale wsX5_go := goodIn_r _ [17, 18, 19, 20, 12, 3, 21, 4, 22, 23, 24, 25, 9, 26, 27, 28, 29, 30, 31, 32, 33, 45, 46, 47, 48, 49, 50, 51, 52, 53, 54, 55, 56, 57, 58, 59, 60, 61, 62, 63, 64, 65, 66, 67, 68, 69, 70, 71, 72, 73, 74, 75] (by decide +kernel) (by decide +kernel)
set_option maxRecDepth 20000 in
theorem gX5_readSale_X5_go : GoodIn wsX5_readSale (wsV RX5 120 RX5 yX5_go wsX5_go) := goodIn_app (goodIn_of _ (by decide +kernel)) ggX5_readSale_X5_go
set_option maxRecDepth 20000 in
theorem ggX5_readSale_X5_takes : GoodIn wsX5_readSale wsX5_takes := goodIn_r _ [37, 3, 4, 5, 6, 7, 8, 9, 10, 11, 12, 13, 38, 39, 40, 14, 15, 16, 17, 18, 19, 20, 21, 22, 23, 24, 25, 26, 27, 28, 29, 30, 31, 32, 33, 45, 46, 47, 48, 49, 50, 51, 52, 53, 54, 55, 56, 57, 58, 59, 60, 61, 62, 63, 64, 65, 66, 67, 68, 69, 70, 71, 72, 73, 74, 75] (by decide +kernel) (by decide +kernel)
set_option maxRecDepth 20000 in
theorem gX5_readSale_X5_takes : GoodIn wsX5_readSale (wsV RX5 131 RX5 yX5_takes wsX5_takes) := goodIn_app (goodIn_of _ (by decide +kernel)) ggX5_readSale_X5_takes
set_option maxRecDepth 20000 in
theorem ggX5_readSale_X5_readEnd : GoodIn wsX5_readSale wsX5_readEnd := goodIn_r _ [44, 3, 6, 7, 8, 9, 10, 11, 12, 13, 14, 15, 16, 17, 18, 19, 20, 21, 4, 22, 23, 24, 25, 26, 27, 28, 29, 30, 31, 32, 33, 45, 46, 47, 48, 49, 50, 51, 52, 53, 54, 55, 56, 57, 58, 59, 60, 61, 62, 63, 64, 65, 66, 67, 68, 69, 70, 71, 72, 73, 74, 75] (by decide +kernel) (by decide +kernel)
set_option maxRecDepth 20000 in
theorem gX5_readSale_X5_readEnd : GoodIn wsX5_readSale (wsV RX5 135 RX5 yX5_readEnd wsX5_readEnd) := goodIn_app (goodIn_of _ (by decide +kernel)) ggX5_readSale_X5_readEnd
theorem dX5_readSale_0 : decode cX5_readSale 0 = .ok (.aload_n 0, 1) := by decide +kernel
theorem dX5_readSale_1 : decode cX5_readSale 1 = .ok (.getfield 139, 3) := by decide +kernel
theorem dX5_readSale_4 : decode cX5_readSale 4 = .ok (.bipush 18, 2) := by decide +kernel
theorem dX5_readSale_6 : decode cX5_readSale 6 = .ok (.if_icmp .ne 9, 3) := by decide +kernel
theorem dX5_readSale_9 : decode cX5_readSale 9 = .ok (.aload_n 0, 1) := by decide +kernel
theorem dX5_readSale_10 : decode cX5_readSale 10 = .ok (.iconst 3, 1) := by decide +kernel
theorem dX5_readSale_11 : decode cX5_readSale 11 = .ok (.invokevirtual 110, 3) := by decide +kernel
theorem dX5_readSale_14 : decode cX5_readSale 14 = .ok (.ireturn, 1) := by decide +kernel
theorem dX5_readSale_15 : decode cX5_readSale 15 = .ok (.aload_n 0, 1) := by decide +kernel
theorem dX5_readSale_16 : decode cX5_readSale 16 = .ok (.invokevirtual 120, 3) := by decide +kernel
theorem dX5_readSale_19 : decode cX5_readSale 19 = .ok (.bipush 10, 2) := by decide +kernel
theorem dX5_readSale_21 : decode cX5_readSale 21 = .ok (.bipush 8, 2) := by decide +kernel
theorem dX5_readSale_23 : decode cX5_readSale 23 = .ok (.aload_n 0, 1) := by decide +kernel
theorem dX5_readSale_24 : decode cX5_readSale 24 = .ok (.getfield 73, 3) := by decide +kernel
theorem dX5_readSale_27 : decode cX5_readSale 27 = .ok (.iconst 1, 1) := by decide +kernel
theorem dX5_readSale_28 : decode cX5_readSale 28 = .ok (.iaload, 1) := by decide +kernel
theorem dX5_readSale_29 : decode cX5_readSale 29 = .ok (.iconst 1, 1) := by decide +kernel
theorem dX5_readSale_30 : decode cX5_readSale 30 = .ok (.isub, 1) := by decide +kernel
theorem dX5_readSale_31 : decode cX5_readSale 31 = .ok (.imul, 1) := by decide +kernel
theorem dX5_readSale_32 : decode cX5_readSale 32 = .ok (.iadd, 1) := by decide +kernel
theorem dX5_readSale_33 : decode cX5_readSale 33 = .ok (.istore_n 1, 1) := by decide +kernel
theorem dX5_readSale_34 : decode cX5_readSale 34 = .ok (.aload_n 0, 1) := by decide +kernel
theorem dX5_readSale_35 : decode cX5_readSale 35 = .ok (.getfield 27, 3) := by decide +kernel
theorem dX5_readSale_38 : decode cX5_readSale 38 = .ok (.iconst 3, 1) := by decide +kernel
theorem dX5_readSale_39 : decode cX5_readSale 39 = .ok (.if_icmp .eq 9, 3) := by decide +kernel
theorem dX5_readSale_42 : decode cX5_readSale 42 = .ok (.aload_n 0, 1) := by decide +kernel
theorem dX5_readSale_43 : decode cX5_readSale 43 = .ok (.iconst 1, 1) := by decide +kernel
theorem dX5_readSale_44 : decode cX5_readSale 44 = .ok (.invokevirtual 110, 3) := by decide +kernel
theorem dX5_readSale_47 : decode cX5_readSale 47 = .ok (.ireturn, 1) := by decide +kernel
theorem dX5_readSale_48 : decode cX5_readSale 48 = .ok (.aload_n 0, 1) := by decide +kernel
theorem dX5_readSale_49 : decode cX5_readSale 49 = .ok (.getfield 41, 3) := by decide +kernel
theorem dX5_readSale_52 : decode cX5_readSale 52 = .ok (.aload_n 0, 1) := by decide +kernel
theorem dX5_readSale_53 : decode cX5_readSale 53 = .ok (.getfield 73, 3) := by decide +kernel
theorem dX5_readSale_56 : decode cX5_readSale 56 = .ok (.iconst 0, 1) := by decide +kernel
theorem dX5_readSale_57 : decode cX5_readSale 57 = .ok (.iaload, 1) := by decide +kernel
theorem dX5_readSale_58 : decode cX5_readSale 58 = .ok (.if_icmp .ge 17, 3) := by decide +kernel
theorem dX5_readSale_61 : decode cX5_readSale 61 = .ok (.aload_n 0, 1) := by decide +kernel
theorem dX5_readSale_62 : decode cX5_readSale 62 = .ok (.getfield 73, 3) := by decide +kernel
theorem dX5_readSale_65 : decode cX5_readSale 65 = .ok (.iload_n 1, 1) := by decide +kernel
theorem dX5_readSale_66 : decode cX5_readSale 66 = .ok (.aload_n 0, 1) := by decide +kernel
theorem dX5_readSale_67 : decode cX5_readSale 67 = .ok (.getfield 41, 3) := by decide +kernel
theorem dX5_readSale_70 : decode cX5_readSale 70 = .ok (.iadd, 1) := by decide +kernel
theorem dX5_readSale_71 : decode cX5_readSale 71 = .ok (.iaload, 1) := by decide +kernel
theorem dX5_readSale_72 : decode cX5_readSale 72 = .ok (.ifCond .le 9, 3) := by decide +kernel
theorem dX5_readSale_75 : decode cX5_readSale 75 = .ok (.aload_n 0, 1) := by decide +kernel
theorem dX5_readSale_76 : decode cX5_readSale 76 = .ok (.iconst 2, 1) := by decide +kernel
theorem dX5_readSale_77 : decode cX5_readSale 77 = .ok (.invokevirtual 110, 3) := by decide +kernel
theorem dX5_readSale_80 : decode cX5_readSale 80 = .ok (.ireturn, 1) := by decide +kernel
theorem dX5_readSale_81 : decode cX5_readSale 81 = .ok (.iload_n 1, 1) := by decide +kernel
theorem dX5_readSale_82 : decode cX5_readSale 82 = .ok (.aload_n 0, 1) := by decide +kernel
theorem dX5_readSale_83 : decode cX5_readSale 83 = .ok (.getfield 41, 3) := by decide +kernel
theorem dX5_readSale_86 : decode cX5_readSale 86 = .ok (.iadd, 1) := by decide +kernel
theorem dX5_readSale_87 : decode cX5_readSale 87 = .ok (.istore_n 1, 1) := by decide +kernel
theorem dX5_readSale_88 : decode cX5_readSale 88 = .ok (.aload_n 0, 1) := by decide +kernel
theorem dX5_readSale_89 : decode cX5_readSale 89 = .ok (.invokevirtual 120, 3) := by decide +kernel
theorem dX5_readSale_92 : decode cX5_readSale 92 = .ok (.aload_n 0, 1) := by decide +kernel
theorem dX5_readSale_93 : decode cX5_readSale 93 = .ok (.iconst 0, 1) := by decide +kernel
theorem dX5_readSale_94 : decode cX5_readSale 94 = .ok (.sipush 999, 3) := by decide +kernel
theorem dX5_readSale_97 : decode cX5_readSale 97 = .ok (.invokevirtual 131, 3) := by decide +kernel
theorem dX5_readSale_100 : decode cX5_readSale 100 = .ok (.ifCond .ne 5, 3) := by decide +kernel
theorem dX5_readSale_103 : decode cX5_readSale 103 = .ok (.iconst 0, 1) := by decide +kernel
theorem dX5_readSale_104 : decode cX5_readSale 104 = .ok (.ireturn, 1) := by decide +kernel
theorem dX5_readSale_105 : decode cX5_readSale 105 = .ok (.aload_n 0, 1) := by decide +kernel
theorem dX5_readSale_106 : decode cX5_readSale 106 = .ok (.getfield 73, 3) := by decide +kernel
theorem dX5_readSale_109 : decode cX5_readSale 109 = .ok (.iload_n 1, 1) := by decide +kernel
theorem dX5_readSale_110 : decode cX5_readSale 110 = .ok (.aload_n 0, 1) := by decide +kernel
theorem dX5_readSale_111 : decode cX5_readSale 111 = .ok (.getfield 117, 3) := by decide +kernel
theorem dX5_readSale_114 : decode cX5_readSale 114 = .ok (.iconst 1, 1) := by decide +kernel
theorem dX5_readSale_115 : decode cX5_readSale 115 = .ok (.iadd, 1) := by decide +kernel
theorem dX5_readSale_116 : decode cX5_readSale 116 = .ok (.iastore, 1) := by decide +kernel
theorem dX5_readSale_117 : decode cX5_readSale 117 = .ok (.aload_n 0, 1) := by decide +kernel
theorem dX5_readSale_118 : decode cX5_readSale 118 = .ok (.dup, 1) := by decide +kernel
theorem dX5_readSale_119 : decode cX5_readSale 119 = .ok (.getfield 139, 3) := by decide +kernel
theorem dX5_readSale_122 : decode cX5_readSale 122 = .ok (.iconst 1, 1) := by decide +kernel
theorem dX5_readSale_123 : decode cX5_readSale 123 = .ok (.iadd, 1) := by decide +kernel
theorem dX5_readSale_124 : decode cX5_readSale 124 = .ok (.putfield 139, 3) := by decide +kernel
theorem dX5_readSale_127 : decode cX5_readSale 127 = .ok (.aload_n 0, 1) := by decide +kernel
theorem dX5_readSale_128 : decode cX5_readSale 128 = .ok (.invokevirtual 135, 3) := by decide +kernel
theorem dX5_readSale_131 : decode cX5_readSale 131 = .ok (.ireturn, 1) := by decide +kernel
set_option maxRecDepth 20000 in
theorem ggX5_readWhole_X5_readMonths : GoodIn wsX5_readWhole wsX5_readMonths := goodIn_r _ [10, 11, 5, 12, 13, 14, 9, 15, 16, 17, 18, 2, 19, 20, 21, 22, 23, 4, 24, 25, 26, 27, 28, 29, 30, 31, 32, 33, 34, 35, 36, 37, 38, 39, 40, 41, 42, 43, 44, 45, 46, 47, 48, 49, 50, 51, 52, 53, 54, 55, 56, 57, 58, 59, 60, 74, 75, 76, 77, 78, 79, 80, 81, 82, 83, 84, 85, 86, 87, 88, 89, 90, 91, 92, 93, 94, 95, 96, 97, 98, 99, 100, 101, 102, 103, 104] (by decide +kernel) (by decide +kernel)
set_option maxRecDepth 20000 in
theorem gX5_readWhole_X5_readMonths : GoodIn wsX5_readWhole (wsV RX5 142 RX5 yX5_readMonths wsX5_readMonths) := goodIn_app (goodIn_of _ (by decide +kernel)) ggX5_readWhole_X5_readMonths
set_option maxRecDepth 20000 in
theorem ggX5_readWhole_X5_four : GoodIn wsX5_readWhole wsX5_four := goodIn_r _ [15, 11, 16, 17, 9, 18, 2, 19] (by decide +kernel) (by decide +kernel)
set_option maxRecDepth 20000 in
theorem gX5_readWhole_X5_four : GoodIn wsX5_readWhole (va_wsS RX5 123 yX5_four wsX5_four) := goodIn_app (goodIn_of _ (by decide +kernel)) ggX5_readWhole_X5_four
set_option maxRecDepth 20000 in
theorem ggX5_readWhole_X5_isWord : GoodIn wsX5_readWhole wsX5_isWord := goodIn_r _ [23, 4, 24, 74, 75, 76, 77, 78, 79, 80, 81, 82, 83, 84, 85, 86, 87, 88, 89, 90, 91, 92, 93, 94, 95, 96, 97, 98, 99, 100, 101, 102, 103, 104] (by decide +kernel) (by decide +kernel)
set_option maxRecDepth 20000 in
theorem gX5_readWhole_X5_isWord : GoodIn wsX5_readWhole (wsV RX5 127 RX5 yX5_isWord wsX5_isWord) := goodIn_app (goodIn_of _ (by decide +kernel)) ggX5_readWhole_X5_isWord
set_option maxRecDepth 20000 in
theorem ggX5_readWhole_X5_readWeigh : GoodIn wsX5_readWhole wsX5_readWeigh := goodIn_r _ [64, 4, 39, 5, 12, 32, 33, 34, 9, 35, 36, 37, 38, 30, 24, 2, 19, 40, 41, 42, 43, 44, 45, 46, 47, 48, 49, 25, 26, 27, 28, 29, 31, 54, 55, 56, 50, 51, 52, 53, 57, 58, 59, 60, 74, 75, 76, 77, 78, 79, 80, 81, 82, 83, 84, 85, 86, 87, 88, 89, 90, 91, 92, 93, 94, 95, 96, 97, 98, 99, 100, 101, 102, 103, 104] (by decide +kernel) (by decide +kernel)
set_option maxRecDepth 20000 in
theorem gX5_readWhole_X5_readWeigh : GoodIn wsX5_readWhole (wsV RX5 150 RX5 yX5_readWeigh wsX5_readWeigh) := goodIn_app (goodIn_of _ (by decide +kernel)) ggX5_readWhole_X5_readWeigh
set_option maxRecDepth 20000 in
theorem ggX5_readWhole_X5_bad : GoodIn wsX5_readWhole wsX5_bad := goodIn_r _ [28, 4, 29, 30, 31, 74, 75, 76, 77, 78, 79, 80, 81, 82, 83, 84, 85, 86, 87, 88, 89, 90, 91, 92, 93, 94, 95, 96, 97, 98, 99, 100, 101, 102, 103, 104] (by decide +kernel) (by decide +kernel)
set_option maxRecDepth 20000 in
theorem gX5_readWhole_X5_bad : GoodIn wsX5_readWhole (wsV RX5 110 RX5 yX5_bad wsX5_bad) := goodIn_app (goodIn_of _ (by decide +kernel)) ggX5_readWhole_X5_bad
set_option maxRecDepth 20000 in
theorem ggX5_readWhole_X5_readHome : GoodIn wsX5_readWhole wsX5_readHome := goodIn_r _ [68, 5, 25, 26, 27, 9, 28, 4, 29, 30, 31, 32, 33, 34, 35, 36, 37, 38, 24, 39, 2, 19, 40, 41, 42, 43, 44, 45, 46, 47, 48, 49, 57, 58, 59, 60, 74, 75, 76, 77, 78, 79, 80, 81, 82, 83, 84, 85, 86, 87, 88, 89, 90, 91, 92, 93, 94, 95, 96, 97, 98, 99, 100, 101, 102, 103, 104] (by decide +kernel) (by decide +kernel)
set_option maxRecDepth 20000 in
theorem gX5_readWhole_X5_readHome : GoodIn wsX5_readWhole (wsV RX5 153 RX5 yX5_readHome wsX5_readHome) := goodIn_app (goodIn_of _ (by decide +kernel)) ggX5_readWhole_X5_readHome
set_option maxRecDepth 20000 in
theorem ggX5_readWhole_X5_readSale : GoodIn wsX5_readWhole wsX5_readSale := goodIn_r _ [72, 73, 5, 4, 39, 12, 25, 26, 27, 9, 28, 29, 30, 31, 32, 33, 34, 35, 36, 37, 38, 24, 2, 19, 40, 41, 42, 43, 44, 45, 46, 47, 48, 49, 50, 51, 52, 53, 54, 55, 56, 57, 58, 59, 60, 74, 75, 76, 77, 78, 79, 80, 81, 82, 83, 84, 85, 86, 87, 88, 89, 90, 91, 92, 93, 94, 95, 96, 97, 98, 99, 100, 101, 102, 103, 104] (by decide +kernel) (by decide +kernel)
set_option maxRecDepth 20000 in
theorem gX5_readWhole_X5_readSale : GoodIn wsX5_readWhole (wsV RX5 156 RX5 yX5_readSale wsX5_readSale) := goodIn_app (goodIn_of _ (by decide +kernel)) ggX5_readWhole_X5_readSale
theorem dX5_readWhole_0 : decode cX5_readWhole 0 = .ok (.aload_n 0, 1) := by decide +kernel
theorem dX5_readWhole_1 : decode cX5_readWhole 1 = .ok (.invokevirtual 142, 3) := by decide +kernel
theorem dX5_readWhole_4 : decode cX5_readWhole 4 = .ok (.ifCond .ne 5, 3) := by decide +kernel
theorem dX5_readWhole_7 : decode cX5_readWhole 7 = .ok (.iconst 0, 1) := by decide +kernel
theorem dX5_readWhole_8 : decode cX5_readWhole 8 = .ok (.ireturn, 1) := by decide +kernel
theorem dX5_readWhole_9 : decode cX5_readWhole 9 = .ok (.aload_n 0, 1) := by decide +kernel
theorem dX5_readWhole_10 : decode cX5_readWhole 10 = .ok (.dup, 1) := by decide +kernel
theorem dX5_readWhole_11 : decode cX5_readWhole 11 = .ok (.getfield 145, 3) := by decide +kernel
theorem dX5_readWhole_14 : decode cX5_readWhole 14 = .ok (.iconst 1, 1) := by decide +kernel
theorem dX5_readWhole_15 : decode cX5_readWhole 15 = .ok (.iadd, 1) := by decide +kernel
theorem dX5_readWhole_16 : decode cX5_readWhole 16 = .ok (.putfield 145, 3) := by decide +kernel
theorem dX5_readWhole_19 : decode cX5_readWhole 19 = .ok (.aload_n 0, 1) := by decide +kernel
theorem dX5_readWhole_20 : decode cX5_readWhole 20 = .ok (.ldc2_w 48, 3) := by decide +kernel
theorem dX5_readWhole_23 : decode cX5_readWhole 23 = .ok (.bipush 119, 2) := by decide +kernel
theorem dX5_readWhole_25 : decode cX5_readWhole 25 = .ok (.bipush 101, 2) := by decide +kernel
theorem dX5_readWhole_27 : decode cX5_readWhole 27 = .ok (.bipush 105, 2) := by decide +kernel
theorem dX5_readWhole_29 : decode cX5_readWhole 29 = .ok (.bipush 103, 2) := by decide +kernel
theorem dX5_readWhole_31 : decode cX5_readWhole 31 = .ok (.invokestatic 123, 3) := by decide +kernel
theorem dX5_readWhole_34 : decode cX5_readWhole 34 = .ok (.lmul, 1) := by decide +kernel
theorem dX5_readWhole_35 : decode cX5_readWhole 35 = .ok (.ldc2_w 148, 3) := by decide +kernel
theorem dX5_readWhole_38 : decode cX5_readWhole 38 = .ok (.ladd, 1) := by decide +kernel
theorem dX5_readWhole_39 : decode cX5_readWhole 39 = .ok (.invokevirtual 127, 3) := by decide +kernel
theorem dX5_readWhole_42 : decode cX5_readWhole 42 = .ok (.ifCond .eq 25, 3) := by decide +kernel
theorem dX5_readWhole_45 : decode cX5_readWhole 45 = .ok (.aload_n 0, 1) := by decide +kernel
theorem dX5_readWhole_46 : decode cX5_readWhole 46 = .ok (.invokevirtual 150, 3) := by decide +kernel
theorem dX5_readWhole_49 : decode cX5_readWhole 49 = .ok (.ifCond .ne 5, 3) := by decide +kernel
theorem dX5_readWhole_52 : decode cX5_readWhole 52 = .ok (.iconst 0, 1) := by decide +kernel
theorem dX5_readWhole_53 : decode cX5_readWhole 53 = .ok (.ireturn, 1) := by decide +kernel
theorem dX5_readWhole_54 : decode cX5_readWhole 54 = .ok (.aload_n 0, 1) := by decide +kernel
theorem dX5_readWhole_55 : decode cX5_readWhole 55 = .ok (.dup, 1) := by decide +kernel
theorem dX5_readWhole_56 : decode cX5_readWhole 56 = .ok (.getfield 145, 3) := by decide +kernel
theorem dX5_readWhole_59 : decode cX5_readWhole 59 = .ok (.iconst 1, 1) := by decide +kernel
theorem dX5_readWhole_60 : decode cX5_readWhole 60 = .ok (.iadd, 1) := by decide +kernel
theorem dX5_readWhole_61 : decode cX5_readWhole 61 = .ok (.putfield 145, 3) := by decide +kernel
theorem dX5_readWhole_64 : decode cX5_readWhole 64 = .ok (.goto (-45), 3) := by decide +kernel
theorem dX5_readWhole_67 : decode cX5_readWhole 67 = .ok (.aload_n 0, 1) := by decide +kernel
theorem dX5_readWhole_68 : decode cX5_readWhole 68 = .ok (.getfield 27, 3) := by decide +kernel
theorem dX5_readWhole_71 : decode cX5_readWhole 71 = .ok (.ifCond .eq 92, 3) := by decide +kernel
theorem dX5_readWhole_74 : decode cX5_readWhole 74 = .ok (.aload_n 0, 1) := by decide +kernel
theorem dX5_readWhole_75 : decode cX5_readWhole 75 = .ok (.bipush 104, 2) := by decide +kernel
theorem dX5_readWhole_77 : decode cX5_readWhole 77 = .ok (.bipush 111, 2) := by decide +kernel
theorem dX5_readWhole_79 : decode cX5_readWhole 79 = .ok (.bipush 109, 2) := by decide +kernel
theorem dX5_readWhole_81 : decode cX5_readWhole 81 = .ok (.bipush 101, 2) := by decide +kernel
theorem dX5_readWhole_83 : decode cX5_readWhole 83 = .ok (.invokestatic 123, 3) := by decide +kernel
theorem dX5_readWhole_86 : decode cX5_readWhole 86 = .ok (.invokevirtual 127, 3) := by decide +kernel
theorem dX5_readWhole_89 : decode cX5_readWhole 89 = .ok (.istore_n 1, 1) := by decide +kernel
theorem dX5_readWhole_90 : decode cX5_readWhole 90 = .ok (.iload_n 1, 1) := by decide +kernel
theorem dX5_readWhole_91 : decode cX5_readWhole 91 = .ok (.ifCond .ne 36, 3) := by decide +kernel
theorem dX5_readWhole_94 : decode cX5_readWhole 94 = .ok (.aload_n 0, 1) := by decide +kernel
theorem dX5_readWhole_95 : decode cX5_readWhole 95 = .ok (.getfield 73, 3) := by decide +kernel
theorem dX5_readWhole_98 : decode cX5_readWhole 98 = .ok (.iconst 1, 1) := by decide +kernel
theorem dX5_readWhole_99 : decode cX5_readWhole 99 = .ok (.iaload, 1) := by decide +kernel
theorem dX5_readWhole_100 : decode cX5_readWhole 100 = .ok (.ifCond .eq 21, 3) := by decide +kernel
theorem dX5_readWhole_103 : decode cX5_readWhole 103 = .ok (.aload_n 0, 1) := by decide +kernel
theorem dX5_readWhole_104 : decode cX5_readWhole 104 = .ok (.bipush 115, 2) := by decide +kernel
theorem dX5_readWhole_106 : decode cX5_readWhole 106 = .ok (.bipush 97, 2) := by decide +kernel
theorem dX5_readWhole_108 : decode cX5_readWhole 108 = .ok (.bipush 108, 2) := by decide +kernel
theorem dX5_readWhole_110 : decode cX5_readWhole 110 = .ok (.bipush 101, 2) := by decide +kernel
theorem dX5_readWhole_112 : decode cX5_readWhole 112 = .ok (.invokestatic 123, 3) := by decide +kernel
theorem dX5_readWhole_115 : decode cX5_readWhole 115 = .ok (.invokevirtual 127, 3) := by decide +kernel
theorem dX5_readWhole_118 : decode cX5_readWhole 118 = .ok (.ifCond .ne 9, 3) := by decide +kernel
theorem dX5_readWhole_121 : decode cX5_readWhole 121 = .ok (.aload_n 0, 1) := by decide +kernel
theorem dX5_readWhole_122 : decode cX5_readWhole 122 = .ok (.iconst 1, 1) := by decide +kernel
theorem dX5_readWhole_123 : decode cX5_readWhole 123 = .ok (.invokevirtual 110, 3) := by decide +kernel
theorem dX5_readWhole_126 : decode cX5_readWhole 126 = .ok (.ireturn, 1) := by decide +kernel
theorem dX5_readWhole_127 : decode cX5_readWhole 127 = .ok (.iload_n 1, 1) := by decide +kernel
theorem dX5_readWhole_128 : decode cX5_readWhole 128 = .ok (.ifCond .eq 13, 3) := by decide +kernel
theorem dX5_readWhole_131 : decode cX5_readWhole 131 = .ok (.aload_n 0, 1) := by decide +kernel
theorem dX5_readWhole_132 : decode cX5_readWhole 132 = .ok (.invokevirtual 153, 3) := by decide +kernel
theorem dX5_readWhole_135 : decode cX5_readWhole 135 = .ok (.ifCond .eq 13, 3) := by decide +kernel
theorem dX5_readWhole_138 : decode cX5_readWhole 138 = .ok (.goto 12, 3) := by decide +kernel
theorem dX5_readWhole_141 : decode cX5_readWhole 141 = .ok (.aload_n 0, 1) := by decide +kernel
theorem dX5_readWhole_142 : decode cX5_readWhole 142 = .ok (.invokevirtual 156, 3) := by decide +kernel
theorem dX5_readWhole_145 : decode cX5_readWhole 145 = .ok (.ifCond .ne 5, 3) := by decide +kernel
theorem dX5_readWhole_148 : decode cX5_readWhole 148 = .ok (.iconst 0, 1) := by decide +kernel
theorem dX5_readWhole_149 : decode cX5_readWhole 149 = .ok (.ireturn, 1) := by decide +kernel
theorem dX5_readWhole_150 : decode cX5_readWhole 150 = .ok (.aload_n 0, 1) := by decide +kernel
theorem dX5_readWhole_151 : decode cX5_readWhole 151 = .ok (.dup, 1) := by decide +kernel
theorem dX5_readWhole_152 : decode cX5_readWhole 152 = .ok (.getfield 145, 3) := by decide +kernel
theorem dX5_readWhole_155 : decode cX5_readWhole 155 = .ok (.iconst 1, 1) := by decide +kernel
theorem dX5_readWhole_156 : decode cX5_readWhole 156 = .ok (.iadd, 1) := by decide +kernel
theorem dX5_readWhole_157 : decode cX5_readWhole 157 = .ok (.putfield 145, 3) := by decide +kernel
theorem dX5_readWhole_160 : decode cX5_readWhole 160 = .ok (.goto (-93), 3) := by decide +kernel
theorem dX5_readWhole_163 : decode cX5_readWhole 163 = .ok (.iconst 1, 1) := by decide +kernel
theorem dX5_readWhole_164 : decode cX5_readWhole 164 = .ok (.ireturn, 1) := by decide +kernel
set_option maxRecDepth 20000 in
theorem ggX5_text_X5_go : GoodIn wsX5_text wsX5_go := goodIn_r _ [16, 5, 3, 17, 18, 19, 20, 21, 22, 23, 24, 25, 15, 26, 27, 28, 29, 30, 31, 32, 33, 82, 83, 84, 85, 86, 87, 88, 89, 90, 91, 92, 93, 94, 95, 96, 97, 98, 99, 100, 101, 102, 103, 104, 105, 106, 107, 108, 109, 110, 111, 112] (by decide +kernel) (by decide +kernel)
set_option maxRecDepth 20000 in
theorem gX5_text_X5_go : GoodIn wsX5_text (wsV RX5 120 RX5 yX5_go wsX5_go) := goodIn_app (goodIn_of _ (by decide +kernel)) ggX5_text_X5_go
set_option maxRecDepth 20000 in
theorem ggX5_text_X5_readWhole : GoodIn wsX5_text wsX5_readWhole := goodIn_r _ [37, 7, 22, 38, 19, 8, 39, 40, 41, 15, 42, 43, 44, 45, 46, 47, 48, 49, 50, 23, 51, 52, 53, 54, 20, 55, 56, 57, 58, 4, 18, 9, 12, 13, 14, 16, 5, 3, 17, 21, 24, 25, 26, 27, 28, 29, 30, 31, 32, 33, 59, 60, 61, 62, 63, 64, 65, 66, 67, 68, 69, 70, 71, 72, 73, 74, 75, 76, 77, 78, 79, 80, 81, 6, 82, 83, 84, 85, 86, 87, 88, 89, 90, 91, 92, 93, 94, 95, 96, 97, 98, 99, 100, 101, 102, 103, 104, 105, 106, 107, 108, 109, 110, 111, 112] (by decide +kernel) (by decide +kernel)
set_option maxRecDepth 20000 in
theorem gX5_text_X5_readWhole : GoodIn wsX5_text (wsV RX5 159 RX5 yX5_readWhole wsX5_readWhole) := goodIn_app (goodIn_of _ (by decide +kernel)) ggX5_text_X5_readWhole
theorem dX5_text_0 : decode cX5_text 0 = .ok (.aload_n 0, 1) := by decide +kernel
theorem dX5_text_1 : decode cX5_text 1 = .ok (.iconst 0, 1) := by decide +kernel
theorem dX5_text_2 : decode cX5_text 2 = .ok (.putfield 1, 3) := by decide +kernel
theorem dX5_text_5 : decode cX5_text 5 = .ok (.aload_n 0, 1) := by decide +kernel
theorem dX5_text_6 : decode cX5_text 6 = .ok (.aload_n 0, 1) := by decide +kernel
theorem dX5_text_7 : decode cX5_text 7 = .ok (.getfield 11, 3) := by decide +kernel
theorem dX5_text_10 : decode cX5_text 10 = .ok (.putfield 18, 3) := by decide +kernel
theorem dX5_text_13 : decode cX5_text 13 = .ok (.aload_n 0, 1) := by decide +kernel
theorem dX5_text_14 : decode cX5_text 14 = .ok (.iconst 0, 1) := by decide +kernel
theorem dX5_text_15 : decode cX5_text 15 = .ok (.putfield 11, 3) := by decide +kernel
theorem dX5_text_18 : decode cX5_text 18 = .ok (.aload_n 0, 1) := by decide +kernel
theorem dX5_text_19 : decode cX5_text 19 = .ok (.iconst 0, 1) := by decide +kernel
theorem dX5_text_20 : decode cX5_text 20 = .ok (.putfield 58, 3) := by decide +kernel
theorem dX5_text_23 : decode cX5_text 23 = .ok (.aload_n 0, 1) := by decide +kernel
theorem dX5_text_24 : decode cX5_text 24 = .ok (.iconst 0, 1) := by decide +kernel
theorem dX5_text_25 : decode cX5_text 25 = .ok (.putfield 21, 3) := by decide +kernel
theorem dX5_text_28 : decode cX5_text 28 = .ok (.aload_n 0, 1) := by decide +kernel
theorem dX5_text_29 : decode cX5_text 29 = .ok (.iconst 0, 1) := by decide +kernel
theorem dX5_text_30 : decode cX5_text 30 = .ok (.putfield 139, 3) := by decide +kernel
theorem dX5_text_33 : decode cX5_text 33 = .ok (.aload_n 0, 1) := by decide +kernel
theorem dX5_text_34 : decode cX5_text 34 = .ok (.iconst 0, 1) := by decide +kernel
theorem dX5_text_35 : decode cX5_text 35 = .ok (.putfield 145, 3) := by decide +kernel
theorem dX5_text_38 : decode cX5_text 38 = .ok (.iconst 0, 1) := by decide +kernel
theorem dX5_text_39 : decode cX5_text 39 = .ok (.istore_n 1, 1) := by decide +kernel
theorem dX5_text_40 : decode cX5_text 40 = .ok (.iload_n 1, 1) := by decide +kernel
theorem dX5_text_41 : decode cX5_text 41 = .ok (.bipush 58, 2) := by decide +kernel
theorem dX5_text_43 : decode cX5_text 43 = .ok (.if_icmp .ge 16, 3) := by decide +kernel
theorem dX5_text_46 : decode cX5_text 46 = .ok (.aload_n 0, 1) := by decide +kernel
theorem dX5_text_47 : decode cX5_text 47 = .ok (.getfield 73, 3) := by decide +kernel
theorem dX5_text_50 : decode cX5_text 50 = .ok (.iload_n 1, 1) := by decide +kernel
theorem dX5_text_51 : decode cX5_text 51 = .ok (.iconst 0, 1) := by decide +kernel
theorem dX5_text_52 : decode cX5_text 52 = .ok (.iastore, 1) := by decide +kernel
theorem dX5_text_53 : decode cX5_text 53 = .ok (.iinc 1 1, 3) := by decide +kernel
theorem dX5_text_56 : decode cX5_text 56 = .ok (.goto (-16), 3) := by decide +kernel
theorem dX5_text_59 : decode cX5_text 59 = .ok (.aload_n 0, 1) := by decide +kernel
theorem dX5_text_60 : decode cX5_text 60 = .ok (.invokevirtual 120, 3) := by decide +kernel
theorem dX5_text_63 : decode cX5_text 63 = .ok (.aload_n 0, 1) := by decide +kernel
theorem dX5_text_64 : decode cX5_text 64 = .ok (.invokevirtual 159, 3) := by decide +kernel
theorem dX5_text_67 : decode cX5_text 67 = .ok (.ifCond .ne 10, 3) := by decide +kernel
theorem dX5_text_70 : decode cX5_text 70 = .ok (.iconst (-1), 1) := by decide +kernel
theorem dX5_text_71 : decode cX5_text 71 = .ok (.aload_n 0, 1) := by decide +kernel
theorem dX5_text_72 : decode cX5_text 72 = .ok (.getfield 61, 3) := by decide +kernel
theorem dX5_text_75 : decode cX5_text 75 = .ok (.isub, 1) := by decide +kernel
theorem dX5_text_76 : decode cX5_text 76 = .ok (.ireturn, 1) := by decide +kernel
theorem dX5_text_77 : decode cX5_text 77 = .ok (.iconst 0, 1) := by decide +kernel
theorem dX5_text_78 : decode cX5_text 78 = .ok (.istore_n 1, 1) := by decide +kernel
theorem dX5_text_79 : decode cX5_text 79 = .ok (.iload_n 1, 1) := by decide +kernel
theorem dX5_text_80 : decode cX5_text 80 = .ok (.bipush 58, 2) := by decide +kernel
theorem dX5_text_82 : decode cX5_text 82 = .ok (.if_icmp .ge 21, 3) := by decide +kernel
theorem dX5_text_85 : decode cX5_text 85 = .ok (.aload_n 0, 1) := by decide +kernel
theorem dX5_text_86 : decode cX5_text 86 = .ok (.getfield 70, 3) := by decide +kernel
theorem dX5_text_89 : decode cX5_text 89 = .ok (.iload_n 1, 1) := by decide +kernel
theorem dX5_text_90 : decode cX5_text 90 = .ok (.aload_n 0, 1) := by decide +kernel
theorem dX5_text_91 : decode cX5_text 91 = .ok (.getfield 73, 3) := by decide +kernel
theorem dX5_text_94 : decode cX5_text 94 = .ok (.iload_n 1, 1) := by decide +kernel
theorem dX5_text_95 : decode cX5_text 95 = .ok (.iaload, 1) := by decide +kernel
theorem dX5_text_96 : decode cX5_text 96 = .ok (.iastore, 1) := by decide +kernel
theorem dX5_text_97 : decode cX5_text 97 = .ok (.iinc 1 1, 3) := by decide +kernel
theorem dX5_text_100 : decode cX5_text 100 = .ok (.goto (-21), 3) := by decide +kernel
theorem dX5_text_103 : decode cX5_text 103 = .ok (.aload_n 0, 1) := by decide +kernel
theorem dX5_text_104 : decode cX5_text 104 = .ok (.iconst 0, 1) := by decide +kernel
theorem dX5_text_105 : decode cX5_text 105 = .ok (.putfield 162, 3) := by decide +kernel
theorem dX5_text_108 : decode cX5_text 108 = .ok (.aload_n 0, 1) := by decide +kernel
theorem dX5_text_109 : decode cX5_text 109 = .ok (.getfield 145, 3) := by decide +kernel
theorem dX5_text_112 : decode cX5_text 112 = .ok (.ireturn, 1) := by decide +kernel
theorem dX5_fault_0 : decode cX5_fault 0 = .ok (.aload_n 0, 1) := by decide +kernel
theorem dX5_fault_1 : decode cX5_fault 1 = .ok (.iconst 0, 1) := by decide +kernel
theorem dX5_fault_2 : decode cX5_fault 2 = .ok (.putfield 1, 3) := by decide +kernel
theorem dX5_fault_5 : decode cX5_fault 5 = .ok (.aload_n 0, 1) := by decide +kernel
theorem dX5_fault_6 : decode cX5_fault 6 = .ok (.getfield 58, 3) := by decide +kernel
theorem dX5_fault_9 : decode cX5_fault 9 = .ok (.ireturn, 1) := by decide +kernel
set_option maxRecDepth 20000 in
theorem ggX5_isMonth_X5_isIn : GoodIn wsX5_isMonth wsX5_isIn := goodIn_r _ [5] (by decide +kernel) (by decide +kernel)
set_option maxRecDepth 20000 in
theorem gX5_isMonth_X5_isIn : GoodIn wsX5_isMonth (va_wsS RX5 113 yX5_isIn wsX5_isIn) := goodIn_app (goodIn_of _ (by decide +kernel)) ggX5_isMonth_X5_isIn
theorem dX5_isMonth_0 : decode cX5_isMonth 0 = .ok (.iload_n 1, 1) := by decide +kernel
theorem dX5_isMonth_1 : decode cX5_isMonth 1 = .ok (.iconst 0, 1) := by decide +kernel
theorem dX5_isMonth_2 : decode cX5_isMonth 2 = .ok (.aload_n 0, 1) := by decide +kernel
theorem dX5_isMonth_3 : decode cX5_isMonth 3 = .ok (.getfield 70, 3) := by decide +kernel
theorem dX5_isMonth_6 : decode cX5_isMonth 6 = .ok (.iconst 0, 1) := by decide +kernel
theorem dX5_isMonth_7 : decode cX5_isMonth 7 = .ok (.iaload, 1) := by decide +kernel
theorem dX5_isMonth_8 : decode cX5_isMonth 8 = .ok (.iconst 1, 1) := by decide +kernel
theorem dX5_isMonth_9 : decode cX5_isMonth 9 = .ok (.isub, 1) := by decide +kernel
theorem dX5_isMonth_10 : decode cX5_isMonth 10 = .ok (.invokestatic 113, 3) := by decide +kernel
theorem dX5_isMonth_13 : decode cX5_isMonth 13 = .ok (.ireturn, 1) := by decide +kernel
set_option maxRecDepth 20000 in
theorem ggX5_isHome_X5_isIn : GoodIn wsX5_isHome wsX5_isIn := goodIn_r _ [5] (by decide +kernel) (by decide +kernel)
set_option maxRecDepth 20000 in
theorem gX5_isHome_X5_isIn : GoodIn wsX5_isHome (va_wsS RX5 113 yX5_isIn wsX5_isIn) := goodIn_app (goodIn_of _ (by decide +kernel)) ggX5_isHome_X5_isIn
theorem dX5_isHome_0 : decode cX5_isHome 0 = .ok (.iload_n 1, 1) := by decide +kernel
theorem dX5_isHome_1 : decode cX5_isHome 1 = .ok (.iconst 0, 1) := by decide +kernel
theorem dX5_isHome_2 : decode cX5_isHome 2 = .ok (.aload_n 0, 1) := by decide +kernel
theorem dX5_isHome_3 : decode cX5_isHome 3 = .ok (.getfield 70, 3) := by decide +kernel
theorem dX5_isHome_6 : decode cX5_isHome 6 = .ok (.iconst 1, 1) := by decide +kernel
theorem dX5_isHome_7 : decode cX5_isHome 7 = .ok (.iaload, 1) := by decide +kernel
theorem dX5_isHome_8 : decode cX5_isHome 8 = .ok (.iconst 1, 1) := by decide +kernel
theorem dX5_isHome_9 : decode cX5_isHome 9 = .ok (.isub, 1) := by decide +kernel
theorem dX5_isHome_10 : decode cX5_isHome 10 = .ok (.invokestatic 113, 3) := by decide +kernel
theorem dX5_isHome_13 : decode cX5_isHome 13 = .ok (.ireturn, 1) := by decide +kernel
theorem dX5_at_0 : decode cX5_at 0 = .ok (.bipush 10, 2) := by decide +kernel
theorem dX5_at_2 : decode cX5_at 2 = .ok (.bipush 8, 2) := by decide +kernel
theorem dX5_at_4 : decode cX5_at 4 = .ok (.iload_n 0, 1) := by decide +kernel
theorem dX5_at_5 : decode cX5_at 5 = .ok (.imul, 1) := by decide +kernel
theorem dX5_at_6 : decode cX5_at 6 = .ok (.iadd, 1) := by decide +kernel
theorem dX5_at_7 : decode cX5_at 7 = .ok (.iload_n 1, 1) := by decide +kernel
theorem dX5_at_8 : decode cX5_at 8 = .ok (.iadd, 1) := by decide +kernel
theorem dX5_at_9 : decode cX5_at 9 = .ok (.ireturn, 1) := by decide +kernel
set_option maxRecDepth 20000 in
theorem ggX5_isSold_X5_at : GoodIn wsX5_isSold wsX5_at := goodIn_r _ [5] (by decide +kernel) (by decide +kernel)
set_option maxRecDepth 20000 in
theorem gX5_isSold_X5_at : GoodIn wsX5_isSold (va_wsS RX5 165 yX5_at wsX5_at) := goodIn_app (goodIn_of _ (by decide +kernel)) ggX5_isSold_X5_at
theorem dX5_isSold_0 : decode cX5_isSold 0 = .ok (.aload_n 0, 1) := by decide +kernel
theorem dX5_isSold_1 : decode cX5_isSold 1 = .ok (.getfield 70, 3) := by decide +kernel
theorem dX5_isSold_4 : decode cX5_isSold 4 = .ok (.iload_n 1, 1) := by decide +kernel
theorem dX5_isSold_5 : decode cX5_isSold 5 = .ok (.iload_n 2, 1) := by decide +kernel
theorem dX5_isSold_6 : decode cX5_isSold 6 = .ok (.invokestatic 165, 3) := by decide +kernel
theorem dX5_isSold_9 : decode cX5_isSold 9 = .ok (.iaload, 1) := by decide +kernel
theorem dX5_isSold_10 : decode cX5_isSold 10 = .ok (.ifCond .le 7, 3) := by decide +kernel
theorem dX5_isSold_13 : decode cX5_isSold 13 = .ok (.iconst 1, 1) := by decide +kernel
theorem dX5_isSold_14 : decode cX5_isSold 14 = .ok (.goto 4, 3) := by decide +kernel
theorem dX5_isSold_17 : decode cX5_isSold 17 = .ok (.iconst 0, 1) := by decide +kernel
theorem dX5_isSold_18 : decode cX5_isSold 18 = .ok (.ireturn, 1) := by decide +kernel
set_option maxRecDepth 20000 in
theorem ggX5_levelOf_X5_at : GoodIn wsX5_levelOf wsX5_at := goodIn_r _ [5] (by decide +kernel) (by decide +kernel)
set_option maxRecDepth 20000 in
theorem gX5_levelOf_X5_at : GoodIn wsX5_levelOf (va_wsS RX5 165 yX5_at wsX5_at) := goodIn_app (goodIn_of _ (by decide +kernel)) ggX5_levelOf_X5_at
theorem dX5_levelOf_0 : decode cX5_levelOf 0 = .ok (.aload_n 0, 1) := by decide +kernel
theorem dX5_levelOf_1 : decode cX5_levelOf 1 = .ok (.getfield 70, 3) := by decide +kernel
theorem dX5_levelOf_4 : decode cX5_levelOf 4 = .ok (.iload_n 1, 1) := by decide +kernel
theorem dX5_levelOf_5 : decode cX5_levelOf 5 = .ok (.iload_n 2, 1) := by decide +kernel
theorem dX5_levelOf_6 : decode cX5_levelOf 6 = .ok (.invokestatic 165, 3) := by decide +kernel
theorem dX5_levelOf_9 : decode cX5_levelOf 9 = .ok (.iaload, 1) := by decide +kernel
theorem dX5_levelOf_10 : decode cX5_levelOf 10 = .ok (.iconst 1, 1) := by decide +kernel
theorem dX5_levelOf_11 : decode cX5_levelOf 11 = .ok (.isub, 1) := by decide +kernel
theorem dX5_levelOf_12 : decode cX5_levelOf 12 = .ok (.ireturn, 1) := by decide +kernel
set_option maxRecDepth 20000 in
theorem ggX5_salesOf_X5_isSold : GoodIn wsX5_salesOf wsX5_isSold := goodIn_r _ [5, 6, 7, 8, 4, 9, 10, 11, 12, 13, 14, 15, 16, 17, 18, 19, 20, 21, 22, 23, 24, 25, 26, 27, 28, 29, 30, 31, 32, 33, 34, 35, 36, 37, 38, 39, 40] (by decide +kernel) (by decide +kernel)
set_option maxRecDepth 20000 in
theorem gX5_salesOf_X5_isSold : GoodIn wsX5_salesOf (wsV RX5 169 RX5 yX5_isSold wsX5_isSold) := goodIn_app (goodIn_of _ (by decide +kernel)) ggX5_salesOf_X5_isSold
theorem dX5_salesOf_0 : decode cX5_salesOf 0 = .ok (.iconst 0, 1) := by decide +kernel
theorem dX5_salesOf_1 : decode cX5_salesOf 1 = .ok (.istore_n 2, 1) := by decide +kernel
theorem dX5_salesOf_2 : decode cX5_salesOf 2 = .ok (.iconst 0, 1) := by decide +kernel
theorem dX5_salesOf_3 : decode cX5_salesOf 3 = .ok (.istore_n 3, 1) := by decide +kernel
theorem dX5_salesOf_4 : decode cX5_salesOf 4 = .ok (.iload_n 3, 1) := by decide +kernel
theorem dX5_salesOf_5 : decode cX5_salesOf 5 = .ok (.bipush 8, 2) := by decide +kernel
theorem dX5_salesOf_7 : decode cX5_salesOf 7 = .ok (.if_icmp .ge 21, 3) := by decide +kernel
theorem dX5_salesOf_10 : decode cX5_salesOf 10 = .ok (.aload_n 0, 1) := by decide +kernel
theorem dX5_salesOf_11 : decode cX5_salesOf 11 = .ok (.iload_n 1, 1) := by decide +kernel
theorem dX5_salesOf_12 : decode cX5_salesOf 12 = .ok (.iload_n 3, 1) := by decide +kernel
theorem dX5_salesOf_13 : decode cX5_salesOf 13 = .ok (.invokevirtual 169, 3) := by decide +kernel
theorem dX5_salesOf_16 : decode cX5_salesOf 16 = .ok (.ifCond .eq 6, 3) := by decide +kernel
theorem dX5_salesOf_19 : decode cX5_salesOf 19 = .ok (.iinc 2 1, 3) := by decide +kernel
theorem dX5_salesOf_22 : decode cX5_salesOf 22 = .ok (.iinc 3 1, 3) := by decide +kernel
theorem dX5_salesOf_25 : decode cX5_salesOf 25 = .ok (.goto (-21), 3) := by decide +kernel
theorem dX5_salesOf_28 : decode cX5_salesOf 28 = .ok (.iload_n 2, 1) := by decide +kernel
theorem dX5_salesOf_29 : decode cX5_salesOf 29 = .ok (.ireturn, 1) := by decide +kernel
set_option maxRecDepth 20000 in
theorem ggX5_sales_X5_salesOf : GoodIn wsX5_sales wsX5_salesOf := goodIn_r _ [6, 7, 8, 9, 5, 10, 1, 11, 12, 13, 14, 15, 16, 17, 18, 19, 20, 21, 22, 23, 24, 25, 26, 27, 28, 29, 30, 31, 32, 33, 34, 35, 36, 37, 38, 39, 40, 41, 42, 43, 44] (by decide +kernel) (by decide +kernel)
set_option maxRecDepth 20000 in
theorem gX5_sales_X5_salesOf : GoodIn wsX5_sales (wsV RX5 172 RX5 yX5_salesOf wsX5_salesOf) := goodIn_app (goodIn_of _ (by decide +kernel)) ggX5_sales_X5_salesOf
theorem dX5_sales_0 : decode cX5_sales 0 = .ok (.iconst 0, 1) := by decide +kernel
theorem dX5_sales_1 : decode cX5_sales 1 = .ok (.istore_n 1, 1) := by decide +kernel
theorem dX5_sales_2 : decode cX5_sales 2 = .ok (.iconst 0, 1) := by decide +kernel
theorem dX5_sales_3 : decode cX5_sales 3 = .ok (.istore_n 2, 1) := by decide +kernel
theorem dX5_sales_4 : decode cX5_sales 4 = .ok (.iload_n 2, 1) := by decide +kernel
theorem dX5_sales_5 : decode cX5_sales 5 = .ok (.aload_n 0, 1) := by decide +kernel
theorem dX5_sales_6 : decode cX5_sales 6 = .ok (.getfield 70, 3) := by decide +kernel
theorem dX5_sales_9 : decode cX5_sales 9 = .ok (.iconst 1, 1) := by decide +kernel
theorem dX5_sales_10 : decode cX5_sales 10 = .ok (.iaload, 1) := by decide +kernel
theorem dX5_sales_11 : decode cX5_sales 11 = .ok (.if_icmp .ge 17, 3) := by decide +kernel
theorem dX5_sales_14 : decode cX5_sales 14 = .ok (.iload_n 1, 1) := by decide +kernel
theorem dX5_sales_15 : decode cX5_sales 15 = .ok (.aload_n 0, 1) := by decide +kernel
theorem dX5_sales_16 : decode cX5_sales 16 = .ok (.iload_n 2, 1) := by decide +kernel
theorem dX5_sales_17 : decode cX5_sales 17 = .ok (.invokevirtual 172, 3) := by decide +kernel
theorem dX5_sales_20 : decode cX5_sales 20 = .ok (.iadd, 1) := by decide +kernel
theorem dX5_sales_21 : decode cX5_sales 21 = .ok (.istore_n 1, 1) := by decide +kernel
theorem dX5_sales_22 : decode cX5_sales 22 = .ok (.iinc 2 1, 3) := by decide +kernel
theorem dX5_sales_25 : decode cX5_sales 25 = .ok (.goto (-21), 3) := by decide +kernel
theorem dX5_sales_28 : decode cX5_sales 28 = .ok (.iload_n 1, 1) := by decide +kernel
theorem dX5_sales_29 : decode cX5_sales 29 = .ok (.ireturn, 1) := by decide +kernel
theorem dX5_weightOf_0 : decode cX5_weightOf 0 = .ok (.iload_n 1, 1) := by decide +kernel
theorem dX5_weightOf_1 : decode cX5_weightOf 1 = .ok (.istore_n 2, 1) := by decide +kernel
theorem dX5_weightOf_2 : decode cX5_weightOf 2 = .ok (.iload_n 2, 1) := by decide +kernel
theorem dX5_weightOf_3 : decode cX5_weightOf 3 = .ok (.ifCond .le 29, 3) := by decide +kernel
theorem dX5_weightOf_6 : decode cX5_weightOf 6 = .ok (.aload_n 0, 1) := by decide +kernel
theorem dX5_weightOf_7 : decode cX5_weightOf 7 = .ok (.getfield 70, 3) := by decide +kernel
theorem dX5_weightOf_10 : decode cX5_weightOf 10 = .ok (.iconst 2, 1) := by decide +kernel
theorem dX5_weightOf_11 : decode cX5_weightOf 11 = .ok (.iload_n 2, 1) := by decide +kernel
theorem dX5_weightOf_12 : decode cX5_weightOf 12 = .ok (.iadd, 1) := by decide +kernel
theorem dX5_weightOf_13 : decode cX5_weightOf 13 = .ok (.iaload, 1) := by decide +kernel
theorem dX5_weightOf_14 : decode cX5_weightOf 14 = .ok (.ifCond .le 12, 3) := by decide +kernel
theorem dX5_weightOf_17 : decode cX5_weightOf 17 = .ok (.aload_n 0, 1) := by decide +kernel
theorem dX5_weightOf_18 : decode cX5_weightOf 18 = .ok (.getfield 70, 3) := by decide +kernel
theorem dX5_weightOf_21 : decode cX5_weightOf 21 = .ok (.iconst 2, 1) := by decide +kernel
theorem dX5_weightOf_22 : decode cX5_weightOf 22 = .ok (.iload_n 2, 1) := by decide +kernel
theorem dX5_weightOf_23 : decode cX5_weightOf 23 = .ok (.iadd, 1) := by decide +kernel
theorem dX5_weightOf_24 : decode cX5_weightOf 24 = .ok (.iaload, 1) := by decide +kernel
theorem dX5_weightOf_25 : decode cX5_weightOf 25 = .ok (.ireturn, 1) := by decide +kernel
theorem dX5_weightOf_26 : decode cX5_weightOf 26 = .ok (.iinc 2 (-1), 3) := by decide +kernel
theorem dX5_weightOf_29 : decode cX5_weightOf 29 = .ok (.goto (-27), 3) := by decide +kernel
theorem dX5_weightOf_32 : decode cX5_weightOf 32 = .ok (.iconst 1, 1) := by decide +kernel
theorem dX5_weightOf_33 : decode cX5_weightOf 33 = .ok (.ireturn, 1) := by decide +kernel
set_option maxRecDepth 20000 in
theorem ggX5_laysPairs_X5_isSold : GoodIn wsX5_laysPairs wsX5_isSold := goodIn_r _ [12, 2, 13, 14, 11, 15, 24, 25, 26, 27, 28, 29, 30, 31, 32, 33, 34, 35, 36, 37, 38, 39, 40, 41, 42, 43, 44, 45, 46, 47, 48, 49, 50, 51, 52, 53, 54] (by decide +kernel) (by decide +kernel)
set_option maxRecDepth 20000 in
theorem gX5_laysPairs_X5_isSold : GoodIn wsX5_laysPairs (wsV RX5 169 RX5 yX5_isSold wsX5_isSold) := goodIn_app (goodIn_of _ (by decide +kernel)) ggX5_laysPairs_X5_isSold
set_option maxRecDepth 20000 in
theorem ggX5_laysPairs_X5_levelOf : GoodIn wsX5_laysPairs wsX5_levelOf := goodIn_r _ [19, 2, 13, 14, 11, 15, 24, 25, 26, 27, 28, 29, 30, 31, 32, 33, 34, 35, 36, 37, 38, 39, 40, 41, 42, 43, 44, 45, 46, 47, 48, 49, 50, 51, 52, 53, 54] (by decide +kernel) (by decide +kernel)
set_option maxRecDepth 20000 in
theorem gX5_laysPairs_X5_levelOf : GoodIn wsX5_laysPairs (wsV RX5 178 RX5 yX5_levelOf wsX5_levelOf) := goodIn_app (goodIn_of _ (by decide +kernel)) ggX5_laysPairs_X5_levelOf
set_option maxRecDepth 20000 in
theorem ggX5_laysPairs_X5_weightOf : GoodIn wsX5_laysPairs wsX5_weightOf := goodIn_r _ [23, 2, 24, 25, 26, 27, 28, 29, 30, 31, 32, 33, 34, 35, 36, 37, 38, 39, 40, 41, 42, 43, 44, 45, 46, 47, 48, 49, 50, 51, 52, 53, 54] (by decide +kernel) (by decide +kernel)
set_option maxRecDepth 20000 in
theorem gX5_laysPairs_X5_weightOf : GoodIn wsX5_laysPairs (wsV RX5 181 RX5 yX5_weightOf wsX5_weightOf) := goodIn_app (goodIn_of _ (by decide +kernel)) ggX5_laysPairs_X5_weightOf
theorem dX5_laysPairs_0 : decode cX5_laysPairs 0 = .ok (.aload_n 0, 1) := by decide +kernel
theorem dX5_laysPairs_1 : decode cX5_laysPairs 1 = .ok (.iconst 0, 1) := by decide +kernel
theorem dX5_laysPairs_2 : decode cX5_laysPairs 2 = .ok (.putfield 175, 3) := by decide +kernel
theorem dX5_laysPairs_5 : decode cX5_laysPairs 5 = .ok (.iconst 0, 1) := by decide +kernel
theorem dX5_laysPairs_6 : decode cX5_laysPairs 6 = .ok (.istore_n 2, 1) := by decide +kernel
theorem dX5_laysPairs_7 : decode cX5_laysPairs 7 = .ok (.iload_n 2, 1) := by decide +kernel
theorem dX5_laysPairs_8 : decode cX5_laysPairs 8 = .ok (.aload_n 0, 1) := by decide +kernel
theorem dX5_laysPairs_9 : decode cX5_laysPairs 9 = .ok (.getfield 70, 3) := by decide +kernel
theorem dX5_laysPairs_12 : decode cX5_laysPairs 12 = .ok (.iconst 1, 1) := by decide +kernel
theorem dX5_laysPairs_13 : decode cX5_laysPairs 13 = .ok (.iaload, 1) := by decide +kernel
theorem dX5_laysPairs_14 : decode cX5_laysPairs 14 = .ok (.if_icmp .ge 134, 3) := by decide +kernel
theorem dX5_laysPairs_17 : decode cX5_laysPairs 17 = .ok (.iconst (-1), 1) := by decide +kernel
theorem dX5_laysPairs_18 : decode cX5_laysPairs 18 = .ok (.istore_n 3, 1) := by decide +kernel
theorem dX5_laysPairs_19 : decode cX5_laysPairs 19 = .ok (.iconst 0, 1) := by decide +kernel
theorem dX5_laysPairs_20 : decode cX5_laysPairs 20 = .ok (.istore 4, 2) := by decide +kernel
theorem dX5_laysPairs_22 : decode cX5_laysPairs 22 = .ok (.iload 4, 2) := by decide +kernel
theorem dX5_laysPairs_24 : decode cX5_laysPairs 24 = .ok (.bipush 8, 2) := by decide +kernel
theorem dX5_laysPairs_26 : decode cX5_laysPairs 26 = .ok (.if_icmp .ge 116, 3) := by decide +kernel
theorem dX5_laysPairs_29 : decode cX5_laysPairs 29 = .ok (.iload_n 2, 1) := by decide +kernel
theorem dX5_laysPairs_30 : decode cX5_laysPairs 30 = .ok (.iload_n 1, 1) := by decide +kernel
theorem dX5_laysPairs_31 : decode cX5_laysPairs 31 = .ok (.if_icmp .eq 111, 3) := by decide +kernel
theorem dX5_laysPairs_34 : decode cX5_laysPairs 34 = .ok (.aload_n 0, 1) := by decide +kernel
theorem dX5_laysPairs_35 : decode cX5_laysPairs 35 = .ok (.iload_n 2, 1) := by decide +kernel
theorem dX5_laysPairs_36 : decode cX5_laysPairs 36 = .ok (.iload 4, 2) := by decide +kernel
theorem dX5_laysPairs_38 : decode cX5_laysPairs 38 = .ok (.invokevirtual 169, 3) := by decide +kernel
theorem dX5_laysPairs_41 : decode cX5_laysPairs 41 = .ok (.ifCond .ne 6, 3) := by decide +kernel
theorem dX5_laysPairs_44 : decode cX5_laysPairs 44 = .ok (.goto 92, 3) := by decide +kernel
theorem dX5_laysPairs_47 : decode cX5_laysPairs 47 = .ok (.iload_n 3, 1) := by decide +kernel
theorem dX5_laysPairs_48 : decode cX5_laysPairs 48 = .ok (.iconst (-1), 1) := by decide +kernel
theorem dX5_laysPairs_49 : decode cX5_laysPairs 49 = .ok (.if_icmp .eq 84, 3) := by decide +kernel
theorem dX5_laysPairs_52 : decode cX5_laysPairs 52 = .ok (.aload_n 0, 1) := by decide +kernel
theorem dX5_laysPairs_53 : decode cX5_laysPairs 53 = .ok (.getfield 79, 3) := by decide +kernel
theorem dX5_laysPairs_56 : decode cX5_laysPairs 56 = .ok (.aload_n 0, 1) := by decide +kernel
theorem dX5_laysPairs_57 : decode cX5_laysPairs 57 = .ok (.getfield 175, 3) := by decide +kernel
theorem dX5_laysPairs_60 : decode cX5_laysPairs 60 = .ok (.iload_n 2, 1) := by decide +kernel
theorem dX5_laysPairs_61 : decode cX5_laysPairs 61 = .ok (.iastore, 1) := by decide +kernel
theorem dX5_laysPairs_62 : decode cX5_laysPairs 62 = .ok (.aload_n 0, 1) := by decide +kernel
theorem dX5_laysPairs_63 : decode cX5_laysPairs 63 = .ok (.getfield 82, 3) := by decide +kernel
theorem dX5_laysPairs_66 : decode cX5_laysPairs 66 = .ok (.aload_n 0, 1) := by decide +kernel
theorem dX5_laysPairs_67 : decode cX5_laysPairs 67 = .ok (.getfield 175, 3) := by decide +kernel
theorem dX5_laysPairs_70 : decode cX5_laysPairs 70 = .ok (.iload_n 3, 1) := by decide +kernel
theorem dX5_laysPairs_71 : decode cX5_laysPairs 71 = .ok (.iastore, 1) := by decide +kernel
theorem dX5_laysPairs_72 : decode cX5_laysPairs 72 = .ok (.aload_n 0, 1) := by decide +kernel
theorem dX5_laysPairs_73 : decode cX5_laysPairs 73 = .ok (.getfield 85, 3) := by decide +kernel
theorem dX5_laysPairs_76 : decode cX5_laysPairs 76 = .ok (.aload_n 0, 1) := by decide +kernel
theorem dX5_laysPairs_77 : decode cX5_laysPairs 77 = .ok (.getfield 175, 3) := by decide +kernel
theorem dX5_laysPairs_80 : decode cX5_laysPairs 80 = .ok (.iload 4, 2) := by decide +kernel
theorem dX5_laysPairs_82 : decode cX5_laysPairs 82 = .ok (.iastore, 1) := by decide +kernel
theorem dX5_laysPairs_83 : decode cX5_laysPairs 83 = .ok (.aload_n 0, 1) := by decide +kernel
theorem dX5_laysPairs_84 : decode cX5_laysPairs 84 = .ok (.getfield 88, 3) := by decide +kernel
theorem dX5_laysPairs_87 : decode cX5_laysPairs 87 = .ok (.aload_n 0, 1) := by decide +kernel
theorem dX5_laysPairs_88 : decode cX5_laysPairs 88 = .ok (.getfield 175, 3) := by decide +kernel
theorem dX5_laysPairs_91 : decode cX5_laysPairs 91 = .ok (.aload_n 0, 1) := by decide +kernel
theorem dX5_laysPairs_92 : decode cX5_laysPairs 92 = .ok (.iload_n 2, 1) := by decide +kernel
theorem dX5_laysPairs_93 : decode cX5_laysPairs 93 = .ok (.iload 4, 2) := by decide +kernel
theorem dX5_laysPairs_95 : decode cX5_laysPairs 95 = .ok (.invokevirtual 178, 3) := by decide +kernel
theorem dX5_laysPairs_98 : decode cX5_laysPairs 98 = .ok (.aload_n 0, 1) := by decide +kernel
theorem dX5_laysPairs_99 : decode cX5_laysPairs 99 = .ok (.iload_n 2, 1) := by decide +kernel
theorem dX5_laysPairs_100 : decode cX5_laysPairs 100 = .ok (.iload_n 3, 1) := by decide +kernel
theorem dX5_laysPairs_101 : decode cX5_laysPairs 101 = .ok (.invokevirtual 178, 3) := by decide +kernel
theorem dX5_laysPairs_104 : decode cX5_laysPairs 104 = .ok (.isub, 1) := by decide +kernel
theorem dX5_laysPairs_105 : decode cX5_laysPairs 105 = .ok (.iastore, 1) := by decide +kernel
theorem dX5_laysPairs_106 : decode cX5_laysPairs 106 = .ok (.aload_n 0, 1) := by decide +kernel
theorem dX5_laysPairs_107 : decode cX5_laysPairs 107 = .ok (.getfield 91, 3) := by decide +kernel
theorem dX5_laysPairs_110 : decode cX5_laysPairs 110 = .ok (.aload_n 0, 1) := by decide +kernel
theorem dX5_laysPairs_111 : decode cX5_laysPairs 111 = .ok (.getfield 175, 3) := by decide +kernel
theorem dX5_laysPairs_114 : decode cX5_laysPairs 114 = .ok (.aload_n 0, 1) := by decide +kernel
theorem dX5_laysPairs_115 : decode cX5_laysPairs 115 = .ok (.iload 4, 2) := by decide +kernel
theorem dX5_laysPairs_117 : decode cX5_laysPairs 117 = .ok (.iload_n 3, 1) := by decide +kernel
theorem dX5_laysPairs_118 : decode cX5_laysPairs 118 = .ok (.isub, 1) := by decide +kernel
theorem dX5_laysPairs_119 : decode cX5_laysPairs 119 = .ok (.invokevirtual 181, 3) := by decide +kernel
theorem dX5_laysPairs_122 : decode cX5_laysPairs 122 = .ok (.iastore, 1) := by decide +kernel
theorem dX5_laysPairs_123 : decode cX5_laysPairs 123 = .ok (.aload_n 0, 1) := by decide +kernel
theorem dX5_laysPairs_124 : decode cX5_laysPairs 124 = .ok (.dup, 1) := by decide +kernel
theorem dX5_laysPairs_125 : decode cX5_laysPairs 125 = .ok (.getfield 175, 3) := by decide +kernel
theorem dX5_laysPairs_128 : decode cX5_laysPairs 128 = .ok (.iconst 1, 1) := by decide +kernel
theorem dX5_laysPairs_129 : decode cX5_laysPairs 129 = .ok (.iadd, 1) := by decide +kernel
theorem dX5_laysPairs_130 : decode cX5_laysPairs 130 = .ok (.putfield 175, 3) := by decide +kernel
theorem dX5_laysPairs_133 : decode cX5_laysPairs 133 = .ok (.iload 4, 2) := by decide +kernel
theorem dX5_laysPairs_135 : decode cX5_laysPairs 135 = .ok (.istore_n 3, 1) := by decide +kernel
theorem dX5_laysPairs_136 : decode cX5_laysPairs 136 = .ok (.iinc 4 1, 3) := by decide +kernel
theorem dX5_laysPairs_139 : decode cX5_laysPairs 139 = .ok (.goto (-117), 3) := by decide +kernel
theorem dX5_laysPairs_142 : decode cX5_laysPairs 142 = .ok (.iinc 2 1, 3) := by decide +kernel
theorem dX5_laysPairs_145 : decode cX5_laysPairs 145 = .ok (.goto (-138), 3) := by decide +kernel
theorem dX5_laysPairs_148 : decode cX5_laysPairs 148 = .ok (.return_, 1) := by decide +kernel
theorem dX5_laysParts_0 : decode cX5_laysParts 0 = .ok (.iconst 0, 1) := by decide +kernel
theorem dX5_laysParts_1 : decode cX5_laysParts 1 = .ok (.istore_n 1, 1) := by decide +kernel
theorem dX5_laysParts_2 : decode cX5_laysParts 2 = .ok (.iload_n 1, 1) := by decide +kernel
theorem dX5_laysParts_3 : decode cX5_laysParts 3 = .ok (.bipush 8, 2) := by decide +kernel
theorem dX5_laysParts_5 : decode cX5_laysParts 5 = .ok (.if_icmp .ge 16, 3) := by decide +kernel
theorem dX5_laysParts_8 : decode cX5_laysParts 8 = .ok (.aload_n 0, 1) := by decide +kernel
theorem dX5_laysParts_9 : decode cX5_laysParts 9 = .ok (.getfield 94, 3) := by decide +kernel
theorem dX5_laysParts_12 : decode cX5_laysParts 12 = .ok (.iload_n 1, 1) := by decide +kernel
theorem dX5_laysParts_13 : decode cX5_laysParts 13 = .ok (.iload_n 1, 1) := by decide +kernel
theorem dX5_laysParts_14 : decode cX5_laysParts 14 = .ok (.iastore, 1) := by decide +kernel
theorem dX5_laysParts_15 : decode cX5_laysParts 15 = .ok (.iinc 1 1, 3) := by decide +kernel
theorem dX5_laysParts_18 : decode cX5_laysParts 18 = .ok (.goto (-16), 3) := by decide +kernel
theorem dX5_laysParts_21 : decode cX5_laysParts 21 = .ok (.iconst 1, 1) := by decide +kernel
theorem dX5_laysParts_22 : decode cX5_laysParts 22 = .ok (.istore_n 1, 1) := by decide +kernel
theorem dX5_laysParts_23 : decode cX5_laysParts 23 = .ok (.iload_n 1, 1) := by decide +kernel
theorem dX5_laysParts_24 : decode cX5_laysParts 24 = .ok (.ifCond .eq 106, 3) := by decide +kernel
theorem dX5_laysParts_27 : decode cX5_laysParts 27 = .ok (.iconst 0, 1) := by decide +kernel
theorem dX5_laysParts_28 : decode cX5_laysParts 28 = .ok (.istore_n 1, 1) := by decide +kernel
theorem dX5_laysParts_29 : decode cX5_laysParts 29 = .ok (.iconst 0, 1) := by decide +kernel
theorem dX5_laysParts_30 : decode cX5_laysParts 30 = .ok (.istore_n 2, 1) := by decide +kernel
theorem dX5_laysParts_31 : decode cX5_laysParts 31 = .ok (.iload_n 2, 1) := by decide +kernel
theorem dX5_laysParts_32 : decode cX5_laysParts 32 = .ok (.aload_n 0, 1) := by decide +kernel
theorem dX5_laysParts_33 : decode cX5_laysParts 33 = .ok (.getfield 175, 3) := by decide +kernel
theorem dX5_laysParts_36 : decode cX5_laysParts 36 = .ok (.if_icmp .ge 91, 3) := by decide +kernel
theorem dX5_laysParts_39 : decode cX5_laysParts 39 = .ok (.aload_n 0, 1) := by decide +kernel
theorem dX5_laysParts_40 : decode cX5_laysParts 40 = .ok (.getfield 94, 3) := by decide +kernel
theorem dX5_laysParts_43 : decode cX5_laysParts 43 = .ok (.aload_n 0, 1) := by decide +kernel
theorem dX5_laysParts_44 : decode cX5_laysParts 44 = .ok (.getfield 82, 3) := by decide +kernel
theorem dX5_laysParts_47 : decode cX5_laysParts 47 = .ok (.iload_n 2, 1) := by decide +kernel
theorem dX5_laysParts_48 : decode cX5_laysParts 48 = .ok (.iaload, 1) := by decide +kernel
theorem dX5_laysParts_49 : decode cX5_laysParts 49 = .ok (.iaload, 1) := by decide +kernel
theorem dX5_laysParts_50 : decode cX5_laysParts 50 = .ok (.istore_n 3, 1) := by decide +kernel
theorem dX5_laysParts_51 : decode cX5_laysParts 51 = .ok (.aload_n 0, 1) := by decide +kernel
theorem dX5_laysParts_52 : decode cX5_laysParts 52 = .ok (.getfield 94, 3) := by decide +kernel
theorem dX5_laysParts_55 : decode cX5_laysParts 55 = .ok (.aload_n 0, 1) := by decide +kernel
theorem dX5_laysParts_56 : decode cX5_laysParts 56 = .ok (.getfield 85, 3) := by decide +kernel
theorem dX5_laysParts_59 : decode cX5_laysParts 59 = .ok (.iload_n 2, 1) := by decide +kernel
theorem dX5_laysParts_60 : decode cX5_laysParts 60 = .ok (.iaload, 1) := by decide +kernel
theorem dX5_laysParts_61 : decode cX5_laysParts 61 = .ok (.iaload, 1) := by decide +kernel
theorem dX5_laysParts_62 : decode cX5_laysParts 62 = .ok (.istore 4, 2) := by decide +kernel
theorem dX5_laysParts_64 : decode cX5_laysParts 64 = .ok (.iload_n 3, 1) := by decide +kernel
theorem dX5_laysParts_65 : decode cX5_laysParts 65 = .ok (.iload 4, 2) := by decide +kernel
theorem dX5_laysParts_67 : decode cX5_laysParts 67 = .ok (.if_icmp .ne 6, 3) := by decide +kernel
theorem dX5_laysParts_70 : decode cX5_laysParts 70 = .ok (.goto 51, 3) := by decide +kernel
theorem dX5_laysParts_73 : decode cX5_laysParts 73 = .ok (.aload_n 0, 1) := by decide +kernel
theorem dX5_laysParts_74 : decode cX5_laysParts 74 = .ok (.getfield 94, 3) := by decide +kernel
theorem dX5_laysParts_77 : decode cX5_laysParts 77 = .ok (.aload_n 0, 1) := by decide +kernel
theorem dX5_laysParts_78 : decode cX5_laysParts 78 = .ok (.getfield 82, 3) := by decide +kernel
theorem dX5_laysParts_81 : decode cX5_laysParts 81 = .ok (.iload_n 2, 1) := by decide +kernel
theorem dX5_laysParts_82 : decode cX5_laysParts 82 = .ok (.iaload, 1) := by decide +kernel
theorem dX5_laysParts_83 : decode cX5_laysParts 83 = .ok (.iload_n 3, 1) := by decide +kernel
theorem dX5_laysParts_84 : decode cX5_laysParts 84 = .ok (.iload 4, 2) := by decide +kernel
theorem dX5_laysParts_86 : decode cX5_laysParts 86 = .ok (.if_icmp .ge 7, 3) := by decide +kernel
theorem dX5_laysParts_89 : decode cX5_laysParts 89 = .ok (.iload_n 3, 1) := by decide +kernel
theorem dX5_laysParts_90 : decode cX5_laysParts 90 = .ok (.goto 5, 3) := by decide +kernel
theorem dX5_laysParts_93 : decode cX5_laysParts 93 = .ok (.iload 4, 2) := by decide +kernel
theorem dX5_laysParts_95 : decode cX5_laysParts 95 = .ok (.iastore, 1) := by decide +kernel
theorem dX5_laysParts_96 : decode cX5_laysParts 96 = .ok (.aload_n 0, 1) := by decide +kernel
theorem dX5_laysParts_97 : decode cX5_laysParts 97 = .ok (.getfield 94, 3) := by decide +kernel
theorem dX5_laysParts_100 : decode cX5_laysParts 100 = .ok (.aload_n 0, 1) := by decide +kernel
theorem dX5_laysParts_101 : decode cX5_laysParts 101 = .ok (.getfield 85, 3) := by decide +kernel
theorem dX5_laysParts_104 : decode cX5_laysParts 104 = .ok (.iload_n 2, 1) := by decide +kernel
theorem dX5_laysParts_105 : decode cX5_laysParts 105 = .ok (.iaload, 1) := by decide +kernel
theorem dX5_laysParts_106 : decode cX5_laysParts 106 = .ok (.iload_n 3, 1) := by decide +kernel
theorem dX5_laysParts_107 : decode cX5_laysParts 107 = .ok (.iload 4, 2) := by decide +kernel
theorem dX5_laysParts_109 : decode cX5_laysParts 109 = .ok (.if_icmp .ge 7, 3) := by decide +kernel
theorem dX5_laysParts_112 : decode cX5_laysParts 112 = .ok (.iload_n 3, 1) := by decide +kernel
theorem dX5_laysParts_113 : decode cX5_laysParts 113 = .ok (.goto 5, 3) := by decide +kernel
theorem dX5_laysParts_116 : decode cX5_laysParts 116 = .ok (.iload 4, 2) := by decide +kernel
theorem dX5_laysParts_118 : decode cX5_laysParts 118 = .ok (.iastore, 1) := by decide +kernel
theorem dX5_laysParts_119 : decode cX5_laysParts 119 = .ok (.iconst 1, 1) := by decide +kernel
theorem dX5_laysParts_120 : decode cX5_laysParts 120 = .ok (.istore_n 1, 1) := by decide +kernel
theorem dX5_laysParts_121 : decode cX5_laysParts 121 = .ok (.iinc 2 1, 3) := by decide +kernel
theorem dX5_laysParts_124 : decode cX5_laysParts 124 = .ok (.goto (-93), 3) := by decide +kernel
theorem dX5_laysParts_127 : decode cX5_laysParts 127 = .ok (.goto (-104), 3) := by decide +kernel
theorem dX5_laysParts_130 : decode cX5_laysParts 130 = .ok (.return_, 1) := by decide +kernel
theorem dX5_unknownOf_0 : decode cX5_unknownOf 0 = .ok (.iconst 0, 1) := by decide +kernel
theorem dX5_unknownOf_1 : decode cX5_unknownOf 1 = .ok (.istore_n 2, 1) := by decide +kernel
theorem dX5_unknownOf_2 : decode cX5_unknownOf 2 = .ok (.iload_n 2, 1) := by decide +kernel
theorem dX5_unknownOf_3 : decode cX5_unknownOf 3 = .ok (.aload_n 0, 1) := by decide +kernel
theorem dX5_unknownOf_4 : decode cX5_unknownOf 4 = .ok (.getfield 184, 3) := by decide +kernel
theorem dX5_unknownOf_7 : decode cX5_unknownOf 7 = .ok (.if_icmp .ge 21, 3) := by decide +kernel
theorem dX5_unknownOf_10 : decode cX5_unknownOf 10 = .ok (.aload_n 0, 1) := by decide +kernel
theorem dX5_unknownOf_11 : decode cX5_unknownOf 11 = .ok (.getfield 97, 3) := by decide +kernel
theorem dX5_unknownOf_14 : decode cX5_unknownOf 14 = .ok (.iload_n 2, 1) := by decide +kernel
theorem dX5_unknownOf_15 : decode cX5_unknownOf 15 = .ok (.iaload, 1) := by decide +kernel
theorem dX5_unknownOf_16 : decode cX5_unknownOf 16 = .ok (.iload_n 1, 1) := by decide +kernel
theorem dX5_unknownOf_17 : decode cX5_unknownOf 17 = .ok (.if_icmp .ne 5, 3) := by decide +kernel
theorem dX5_unknownOf_20 : decode cX5_unknownOf 20 = .ok (.iload_n 2, 1) := by decide +kernel
theorem dX5_unknownOf_21 : decode cX5_unknownOf 21 = .ok (.ireturn, 1) := by decide +kernel
theorem dX5_unknownOf_22 : decode cX5_unknownOf 22 = .ok (.iinc 2 1, 3) := by decide +kernel
theorem dX5_unknownOf_25 : decode cX5_unknownOf 25 = .ok (.goto (-23), 3) := by decide +kernel
theorem dX5_unknownOf_28 : decode cX5_unknownOf 28 = .ok (.iconst (-1), 1) := by decide +kernel
theorem dX5_unknownOf_29 : decode cX5_unknownOf 29 = .ok (.ireturn, 1) := by decide +kernel
theorem dX5_addsTo_0 : decode cX5_addsTo 0 = .ok (.iload_n 1, 1) := by decide +kernel
theorem dX5_addsTo_1 : decode cX5_addsTo 1 = .ok (.iconst (-1), 1) := by decide +kernel
theorem dX5_addsTo_2 : decode cX5_addsTo 2 = .ok (.if_icmp .eq 23, 3) := by decide +kernel
theorem dX5_addsTo_5 : decode cX5_addsTo 5 = .ok (.iload_n 2, 1) := by decide +kernel
theorem dX5_addsTo_6 : decode cX5_addsTo 6 = .ok (.iconst (-1), 1) := by decide +kernel
theorem dX5_addsTo_7 : decode cX5_addsTo 7 = .ok (.if_icmp .eq 18, 3) := by decide +kernel
theorem dX5_addsTo_10 : decode cX5_addsTo 10 = .ok (.aload_n 0, 1) := by decide +kernel
theorem dX5_addsTo_11 : decode cX5_addsTo 11 = .ok (.getfield 100, 3) := by decide +kernel
theorem dX5_addsTo_14 : decode cX5_addsTo 14 = .ok (.bipush 14, 2) := by decide +kernel
theorem dX5_addsTo_16 : decode cX5_addsTo 16 = .ok (.iload_n 1, 1) := by decide +kernel
theorem dX5_addsTo_17 : decode cX5_addsTo 17 = .ok (.imul, 1) := by decide +kernel
theorem dX5_addsTo_18 : decode cX5_addsTo 18 = .ok (.iload_n 2, 1) := by decide +kernel
theorem dX5_addsTo_19 : decode cX5_addsTo 19 = .ok (.iadd, 1) := by decide +kernel
theorem dX5_addsTo_20 : decode cX5_addsTo 20 = .ok (.dup2, 1) := by decide +kernel
theorem dX5_addsTo_21 : decode cX5_addsTo 21 = .ok (.laload, 1) := by decide +kernel
theorem dX5_addsTo_22 : decode cX5_addsTo 22 = .ok (.lload_n 3, 1) := by decide +kernel
theorem dX5_addsTo_23 : decode cX5_addsTo 23 = .ok (.ladd, 1) := by decide +kernel
theorem dX5_addsTo_24 : decode cX5_addsTo 24 = .ok (.lastore, 1) := by decide +kernel
theorem dX5_addsTo_25 : decode cX5_addsTo 25 = .ok (.return_, 1) := by decide +kernel
set_option maxRecDepth 20000 in
theorem ggX5_solves_X5_laysPairs : GoodIn wsX5_solves wsX5_laysPairs := goodIn_r _ [17, 7, 2, 18, 8, 9, 11, 10, 19, 20, 21, 16, 22, 23, 24, 25, 26, 27, 28, 29, 30, 31, 32, 33, 51, 52, 53, 54, 55, 56, 57, 58, 59, 60, 61, 62, 63, 64, 65, 66, 67, 68, 69, 70, 71, 72, 73, 74, 75, 76, 77, 78, 79, 80, 81] (by decide +kernel) (by decide +kernel)
set_option maxRecDepth 20000 in
theorem gX5_solves_X5_laysPairs : GoodIn wsX5_solves (wsV RX5 187 RX5 yX5_laysPairs wsX5_laysPairs) := goodIn_app (goodIn_of _ (by decide +kernel)) ggX5_solves_X5_laysPairs
set_option maxRecDepth 20000 in
theorem ggX5_solves_X5_laysParts : GoodIn wsX5_solves wsX5_laysParts := goodIn_r _ [37, 3, 7, 8, 9, 51, 52, 53, 54, 55, 56, 57, 58, 59, 60, 61, 62, 63, 64, 65, 66, 67, 68, 69, 70, 71, 72, 73, 74, 75, 76, 77, 78, 79, 80, 81] (by decide +kernel) (by decide +kernel)
set_option maxRecDepth 20000 in
theorem gX5_solves_X5_laysParts : GoodIn wsX5_solves (wsV RX5 190 RX5 yX5_laysParts wsX5_laysParts) := goodIn_app (goodIn_of _ (by decide +kernel)) ggX5_solves_X5_laysParts
set_option maxRecDepth 20000 in
theorem ggX5_solves_X5_unknownOf : GoodIn wsX5_solves wsX5_unknownOf := goodIn_r _ [41, 1, 4, 51, 52, 53, 54, 55, 56, 57, 58, 59, 60, 61, 62, 63, 64, 65, 66, 67, 68, 69, 70, 71, 72, 73, 74, 75, 76, 77, 78, 79, 80, 81] (by decide +kernel) (by decide +kernel)
set_option maxRecDepth 20000 in
theorem gX5_solves_X5_unknownOf : GoodIn wsX5_solves (wsV RX5 193 RX5 yX5_unknownOf wsX5_unknownOf) := goodIn_app (goodIn_of _ (by decide +kernel)) ggX5_solves_X5_unknownOf
set_option maxRecDepth 20000 in
theorem ggX5_solves_X5_addsTo : GoodIn wsX5_solves wsX5_addsTo := goodIn_r _ [45, 5, 51, 52, 53, 54, 55, 56, 57, 58, 59, 60, 61, 62, 63, 64, 65, 66, 67, 68, 69, 70, 71, 72, 73, 74, 75, 76, 77, 78, 79, 80, 81] (by decide +kernel) (by decide +kernel)
set_option maxRecDepth 20000 in
theorem gX5_solves_X5_addsTo : GoodIn wsX5_solves (wsV RX5 196 RX5 yX5_addsTo wsX5_addsTo) := goodIn_app (goodIn_of _ (by decide +kernel)) ggX5_solves_X5_addsTo
set_option maxRecDepth 20000 in
theorem ggX5_solves_X5_inverts : GoodIn wsX5_solves wsX5_inverts := goodIn_r _ [49, 50, 1, 5, 51, 52, 53, 54, 55, 56, 57, 58, 59, 60, 61, 62, 63, 64, 65, 66, 67, 68, 69, 70, 71, 72, 73, 74, 75, 76, 77, 78, 79, 80, 81] (by decide +kernel) (by decide +kernel)
set_option maxRecDepth 20000 in
theorem gX5_solves_X5_inverts : GoodIn wsX5_solves (wsV RX5 200 RX5 yX5_inverts wsX5_inverts) := goodIn_app (goodIn_of _ (by decide +kernel)) ggX5_solves_X5_inverts
theorem dX5_solves_0 : decode cX5_solves 0 = .ok (.aload_n 0, 1) := by decide +kernel
theorem dX5_solves_1 : decode cX5_solves 1 = .ok (.iload_n 1, 1) := by decide +kernel
theorem dX5_solves_2 : decode cX5_solves 2 = .ok (.invokevirtual 187, 3) := by decide +kernel
theorem dX5_solves_5 : decode cX5_solves 5 = .ok (.aload_n 0, 1) := by decide +kernel
theorem dX5_solves_6 : decode cX5_solves 6 = .ok (.invokevirtual 190, 3) := by decide +kernel
theorem dX5_solves_9 : decode cX5_solves 9 = .ok (.aload_n 0, 1) := by decide +kernel
theorem dX5_solves_10 : decode cX5_solves 10 = .ok (.iconst 0, 1) := by decide +kernel
theorem dX5_solves_11 : decode cX5_solves 11 = .ok (.putfield 184, 3) := by decide +kernel
theorem dX5_solves_14 : decode cX5_solves 14 = .ok (.iconst 0, 1) := by decide +kernel
theorem dX5_solves_15 : decode cX5_solves 15 = .ok (.istore_n 2, 1) := by decide +kernel
theorem dX5_solves_16 : decode cX5_solves 16 = .ok (.iload_n 2, 1) := by decide +kernel
theorem dX5_solves_17 : decode cX5_solves 17 = .ok (.aload_n 0, 1) := by decide +kernel
theorem dX5_solves_18 : decode cX5_solves 18 = .ok (.getfield 70, 3) := by decide +kernel
theorem dX5_solves_21 : decode cX5_solves 21 = .ok (.iconst 0, 1) := by decide +kernel
theorem dX5_solves_22 : decode cX5_solves 22 = .ok (.iaload, 1) := by decide +kernel
theorem dX5_solves_23 : decode cX5_solves 23 = .ok (.if_icmp .ge 42, 3) := by decide +kernel
theorem dX5_solves_26 : decode cX5_solves 26 = .ok (.aload_n 0, 1) := by decide +kernel
theorem dX5_solves_27 : decode cX5_solves 27 = .ok (.getfield 94, 3) := by decide +kernel
theorem dX5_solves_30 : decode cX5_solves 30 = .ok (.iload_n 2, 1) := by decide +kernel
theorem dX5_solves_31 : decode cX5_solves 31 = .ok (.iaload, 1) := by decide +kernel
theorem dX5_solves_32 : decode cX5_solves 32 = .ok (.iload_n 2, 1) := by decide +kernel
theorem dX5_solves_33 : decode cX5_solves 33 = .ok (.if_icmp .ne 6, 3) := by decide +kernel
theorem dX5_solves_36 : decode cX5_solves 36 = .ok (.goto 23, 3) := by decide +kernel
theorem dX5_solves_39 : decode cX5_solves 39 = .ok (.aload_n 0, 1) := by decide +kernel
theorem dX5_solves_40 : decode cX5_solves 40 = .ok (.getfield 97, 3) := by decide +kernel
theorem dX5_solves_43 : decode cX5_solves 43 = .ok (.aload_n 0, 1) := by decide +kernel
theorem dX5_solves_44 : decode cX5_solves 44 = .ok (.getfield 184, 3) := by decide +kernel
theorem dX5_solves_47 : decode cX5_solves 47 = .ok (.iload_n 2, 1) := by decide +kernel
theorem dX5_solves_48 : decode cX5_solves 48 = .ok (.iastore, 1) := by decide +kernel
theorem dX5_solves_49 : decode cX5_solves 49 = .ok (.aload_n 0, 1) := by decide +kernel
theorem dX5_solves_50 : decode cX5_solves 50 = .ok (.dup, 1) := by decide +kernel
theorem dX5_solves_51 : decode cX5_solves 51 = .ok (.getfield 184, 3) := by decide +kernel
theorem dX5_solves_54 : decode cX5_solves 54 = .ok (.iconst 1, 1) := by decide +kernel
theorem dX5_solves_55 : decode cX5_solves 55 = .ok (.iadd, 1) := by decide +kernel
theorem dX5_solves_56 : decode cX5_solves 56 = .ok (.putfield 184, 3) := by decide +kernel
theorem dX5_solves_59 : decode cX5_solves 59 = .ok (.iinc 2 1, 3) := by decide +kernel
theorem dX5_solves_62 : decode cX5_solves 62 = .ok (.goto (-46), 3) := by decide +kernel
theorem dX5_solves_65 : decode cX5_solves 65 = .ok (.iconst 0, 1) := by decide +kernel
theorem dX5_solves_66 : decode cX5_solves 66 = .ok (.istore_n 2, 1) := by decide +kernel
theorem dX5_solves_67 : decode cX5_solves 67 = .ok (.iload_n 2, 1) := by decide +kernel
theorem dX5_solves_68 : decode cX5_solves 68 = .ok (.bipush 98, 2) := by decide +kernel
theorem dX5_solves_70 : decode cX5_solves 70 = .ok (.if_icmp .ge 16, 3) := by decide +kernel
theorem dX5_solves_73 : decode cX5_solves 73 = .ok (.aload_n 0, 1) := by decide +kernel
theorem dX5_solves_74 : decode cX5_solves 74 = .ok (.getfield 100, 3) := by decide +kernel
theorem dX5_solves_77 : decode cX5_solves 77 = .ok (.iload_n 2, 1) := by decide +kernel
theorem dX5_solves_78 : decode cX5_solves 78 = .ok (.lconst 0, 1) := by decide +kernel
theorem dX5_solves_79 : decode cX5_solves 79 = .ok (.lastore, 1) := by decide +kernel
theorem dX5_solves_80 : decode cX5_solves 80 = .ok (.iinc 2 1, 3) := by decide +kernel
theorem dX5_solves_83 : decode cX5_solves 83 = .ok (.goto (-16), 3) := by decide +kernel
theorem dX5_solves_86 : decode cX5_solves 86 = .ok (.iconst 0, 1) := by decide +kernel
theorem dX5_solves_87 : decode cX5_solves 87 = .ok (.istore_n 2, 1) := by decide +kernel
theorem dX5_solves_88 : decode cX5_solves 88 = .ok (.iload_n 2, 1) := by decide +kernel
theorem dX5_solves_89 : decode cX5_solves 89 = .ok (.bipush 8, 2) := by decide +kernel
theorem dX5_solves_91 : decode cX5_solves 91 = .ok (.if_icmp .ge 16, 3) := by decide +kernel
theorem dX5_solves_94 : decode cX5_solves 94 = .ok (.aload_n 0, 1) := by decide +kernel
theorem dX5_solves_95 : decode cX5_solves 95 = .ok (.getfield 104, 3) := by decide +kernel
theorem dX5_solves_98 : decode cX5_solves 98 = .ok (.iload_n 2, 1) := by decide +kernel
theorem dX5_solves_99 : decode cX5_solves 99 = .ok (.lconst 0, 1) := by decide +kernel
theorem dX5_solves_100 : decode cX5_solves 100 = .ok (.lastore, 1) := by decide +kernel
theorem dX5_solves_101 : decode cX5_solves 101 = .ok (.iinc 2 1, 3) := by decide +kernel
theorem dX5_solves_104 : decode cX5_solves 104 = .ok (.goto (-16), 3) := by decide +kernel
theorem dX5_solves_107 : decode cX5_solves 107 = .ok (.iconst 0, 1) := by decide +kernel
theorem dX5_solves_108 : decode cX5_solves 108 = .ok (.istore_n 2, 1) := by decide +kernel
theorem dX5_solves_109 : decode cX5_solves 109 = .ok (.iload_n 2, 1) := by decide +kernel
theorem dX5_solves_110 : decode cX5_solves 110 = .ok (.aload_n 0, 1) := by decide +kernel
theorem dX5_solves_111 : decode cX5_solves 111 = .ok (.getfield 184, 3) := by decide +kernel
theorem dX5_solves_114 : decode cX5_solves 114 = .ok (.if_icmp .ge 24, 3) := by decide +kernel
theorem dX5_solves_117 : decode cX5_solves 117 = .ok (.aload_n 0, 1) := by decide +kernel
theorem dX5_solves_118 : decode cX5_solves 118 = .ok (.getfield 100, 3) := by decide +kernel
theorem dX5_solves_121 : decode cX5_solves 121 = .ok (.bipush 14, 2) := by decide +kernel
theorem dX5_solves_123 : decode cX5_solves 123 = .ok (.iload_n 2, 1) := by decide +kernel
theorem dX5_solves_124 : decode cX5_solves 124 = .ok (.imul, 1) := by decide +kernel
theorem dX5_solves_125 : decode cX5_solves 125 = .ok (.bipush 7, 2) := by decide +kernel
theorem dX5_solves_127 : decode cX5_solves 127 = .ok (.iadd, 1) := by decide +kernel
theorem dX5_solves_128 : decode cX5_solves 128 = .ok (.iload_n 2, 1) := by decide +kernel
theorem dX5_solves_129 : decode cX5_solves 129 = .ok (.iadd, 1) := by decide +kernel
theorem dX5_solves_130 : decode cX5_solves 130 = .ok (.lconst 1, 1) := by decide +kernel
theorem dX5_solves_131 : decode cX5_solves 131 = .ok (.lastore, 1) := by decide +kernel
theorem dX5_solves_132 : decode cX5_solves 132 = .ok (.iinc 2 1, 3) := by decide +kernel
theorem dX5_solves_135 : decode cX5_solves 135 = .ok (.goto (-26), 3) := by decide +kernel
theorem dX5_solves_138 : decode cX5_solves 138 = .ok (.iconst 0, 1) := by decide +kernel
theorem dX5_solves_139 : decode cX5_solves 139 = .ok (.istore_n 2, 1) := by decide +kernel
theorem dX5_solves_140 : decode cX5_solves 140 = .ok (.iload_n 2, 1) := by decide +kernel
theorem dX5_solves_141 : decode cX5_solves 141 = .ok (.aload_n 0, 1) := by decide +kernel
theorem dX5_solves_142 : decode cX5_solves 142 = .ok (.getfield 175, 3) := by decide +kernel
theorem dX5_solves_145 : decode cX5_solves 145 = .ok (.if_icmp .ge 134, 3) := by decide +kernel
theorem dX5_solves_148 : decode cX5_solves 148 = .ok (.aload_n 0, 1) := by decide +kernel
theorem dX5_solves_149 : decode cX5_solves 149 = .ok (.aload_n 0, 1) := by decide +kernel
theorem dX5_solves_150 : decode cX5_solves 150 = .ok (.getfield 82, 3) := by decide +kernel
theorem dX5_solves_153 : decode cX5_solves 153 = .ok (.iload_n 2, 1) := by decide +kernel
theorem dX5_solves_154 : decode cX5_solves 154 = .ok (.iaload, 1) := by decide +kernel
theorem dX5_solves_155 : decode cX5_solves 155 = .ok (.invokevirtual 193, 3) := by decide +kernel
theorem dX5_solves_158 : decode cX5_solves 158 = .ok (.istore_n 3, 1) := by decide +kernel
theorem dX5_solves_159 : decode cX5_solves 159 = .ok (.aload_n 0, 1) := by decide +kernel
theorem dX5_solves_160 : decode cX5_solves 160 = .ok (.aload_n 0, 1) := by decide +kernel
theorem dX5_solves_161 : decode cX5_solves 161 = .ok (.getfield 85, 3) := by decide +kernel
theorem dX5_solves_164 : decode cX5_solves 164 = .ok (.iload_n 2, 1) := by decide +kernel
theorem dX5_solves_165 : decode cX5_solves 165 = .ok (.iaload, 1) := by decide +kernel
theorem dX5_solves_166 : decode cX5_solves 166 = .ok (.invokevirtual 193, 3) := by decide +kernel
theorem dX5_solves_169 : decode cX5_solves 169 = .ok (.istore 4, 2) := by decide +kernel
theorem dX5_solves_171 : decode cX5_solves 171 = .ok (.aload_n 0, 1) := by decide +kernel
theorem dX5_solves_172 : decode cX5_solves 172 = .ok (.getfield 91, 3) := by decide +kernel
theorem dX5_solves_175 : decode cX5_solves 175 = .ok (.iload_n 2, 1) := by decide +kernel
theorem dX5_solves_176 : decode cX5_solves 176 = .ok (.iaload, 1) := by decide +kernel
theorem dX5_solves_177 : decode cX5_solves 177 = .ok (.istore 5, 2) := by decide +kernel
theorem dX5_solves_179 : decode cX5_solves 179 = .ok (.aload_n 0, 1) := by decide +kernel
theorem dX5_solves_180 : decode cX5_solves 180 = .ok (.iload_n 3, 1) := by decide +kernel
theorem dX5_solves_181 : decode cX5_solves 181 = .ok (.iload_n 3, 1) := by decide +kernel
theorem dX5_solves_182 : decode cX5_solves 182 = .ok (.iload 5, 2) := by decide +kernel
theorem dX5_solves_184 : decode cX5_solves 184 = .ok (.i2l, 1) := by decide +kernel
theorem dX5_solves_185 : decode cX5_solves 185 = .ok (.invokevirtual 196, 3) := by decide +kernel
theorem dX5_solves_188 : decode cX5_solves 188 = .ok (.aload_n 0, 1) := by decide +kernel
theorem dX5_solves_189 : decode cX5_solves 189 = .ok (.iload 4, 2) := by decide +kernel
theorem dX5_solves_191 : decode cX5_solves 191 = .ok (.iload 4, 2) := by decide +kernel
theorem dX5_solves_193 : decode cX5_solves 193 = .ok (.iload 5, 2) := by decide +kernel
theorem dX5_solves_195 : decode cX5_solves 195 = .ok (.i2l, 1) := by decide +kernel
theorem dX5_solves_196 : decode cX5_solves 196 = .ok (.invokevirtual 196, 3) := by decide +kernel
theorem dX5_solves_199 : decode cX5_solves 199 = .ok (.aload_n 0, 1) := by decide +kernel
theorem dX5_solves_200 : decode cX5_solves 200 = .ok (.iload_n 3, 1) := by decide +kernel
theorem dX5_solves_201 : decode cX5_solves 201 = .ok (.iload 4, 2) := by decide +kernel
theorem dX5_solves_203 : decode cX5_solves 203 = .ok (.iload 5, 2) := by decide +kernel
theorem dX5_solves_205 : decode cX5_solves 205 = .ok (.ineg, 1) := by decide +kernel
theorem dX5_solves_206 : decode cX5_solves 206 = .ok (.i2l, 1) := by decide +kernel
theorem dX5_solves_207 : decode cX5_solves 207 = .ok (.invokevirtual 196, 3) := by decide +kernel
theorem dX5_solves_210 : decode cX5_solves 210 = .ok (.aload_n 0, 1) := by decide +kernel
theorem dX5_solves_211 : decode cX5_solves 211 = .ok (.iload 4, 2) := by decide +kernel
theorem dX5_solves_213 : decode cX5_solves 213 = .ok (.iload_n 3, 1) := by decide +kernel
theorem dX5_solves_214 : decode cX5_solves 214 = .ok (.iload 5, 2) := by decide +kernel
theorem dX5_solves_216 : decode cX5_solves 216 = .ok (.ineg, 1) := by decide +kernel
theorem dX5_solves_217 : decode cX5_solves 217 = .ok (.i2l, 1) := by decide +kernel
theorem dX5_solves_218 : decode cX5_solves 218 = .ok (.invokevirtual 196, 3) := by decide +kernel
theorem dX5_solves_221 : decode cX5_solves 221 = .ok (.iload_n 3, 1) := by decide +kernel
theorem dX5_solves_222 : decode cX5_solves 222 = .ok (.iconst (-1), 1) := by decide +kernel
theorem dX5_solves_223 : decode cX5_solves 223 = .ok (.if_icmp .eq 23, 3) := by decide +kernel
theorem dX5_solves_226 : decode cX5_solves 226 = .ok (.aload_n 0, 1) := by decide +kernel
theorem dX5_solves_227 : decode cX5_solves 227 = .ok (.getfield 104, 3) := by decide +kernel
theorem dX5_solves_230 : decode cX5_solves 230 = .ok (.iload_n 3, 1) := by decide +kernel
theorem dX5_solves_231 : decode cX5_solves 231 = .ok (.dup2, 1) := by decide +kernel
theorem dX5_solves_232 : decode cX5_solves 232 = .ok (.laload, 1) := by decide +kernel
theorem dX5_solves_233 : decode cX5_solves 233 = .ok (.iload 5, 2) := by decide +kernel
theorem dX5_solves_235 : decode cX5_solves 235 = .ok (.i2l, 1) := by decide +kernel
theorem dX5_solves_236 : decode cX5_solves 236 = .ok (.aload_n 0, 1) := by decide +kernel
theorem dX5_solves_237 : decode cX5_solves 237 = .ok (.getfield 88, 3) := by decide +kernel
theorem dX5_solves_240 : decode cX5_solves 240 = .ok (.iload_n 2, 1) := by decide +kernel
theorem dX5_solves_241 : decode cX5_solves 241 = .ok (.iaload, 1) := by decide +kernel
theorem dX5_solves_242 : decode cX5_solves 242 = .ok (.i2l, 1) := by decide +kernel
theorem dX5_solves_243 : decode cX5_solves 243 = .ok (.lmul, 1) := by decide +kernel
theorem dX5_solves_244 : decode cX5_solves 244 = .ok (.lsub, 1) := by decide +kernel
theorem dX5_solves_245 : decode cX5_solves 245 = .ok (.lastore, 1) := by decide +kernel
theorem dX5_solves_246 : decode cX5_solves 246 = .ok (.iload 4, 2) := by decide +kernel
theorem dX5_solves_248 : decode cX5_solves 248 = .ok (.iconst (-1), 1) := by decide +kernel
theorem dX5_solves_249 : decode cX5_solves 249 = .ok (.if_icmp .eq 24, 3) := by decide +kernel
theorem dX5_solves_252 : decode cX5_solves 252 = .ok (.aload_n 0, 1) := by decide +kernel
theorem dX5_solves_253 : decode cX5_solves 253 = .ok (.getfield 104, 3) := by decide +kernel
theorem dX5_solves_256 : decode cX5_solves 256 = .ok (.iload 4, 2) := by decide +kernel
theorem dX5_solves_258 : decode cX5_solves 258 = .ok (.dup2, 1) := by decide +kernel
theorem dX5_solves_259 : decode cX5_solves 259 = .ok (.laload, 1) := by decide +kernel
theorem dX5_solves_260 : decode cX5_solves 260 = .ok (.iload 5, 2) := by decide +kernel
theorem dX5_solves_262 : decode cX5_solves 262 = .ok (.i2l, 1) := by decide +kernel
theorem dX5_solves_263 : decode cX5_solves 263 = .ok (.aload_n 0, 1) := by decide +kernel
theorem dX5_solves_264 : decode cX5_solves 264 = .ok (.getfield 88, 3) := by decide +kernel
theorem dX5_solves_267 : decode cX5_solves 267 = .ok (.iload_n 2, 1) := by decide +kernel
theorem dX5_solves_268 : decode cX5_solves 268 = .ok (.iaload, 1) := by decide +kernel
theorem dX5_solves_269 : decode cX5_solves 269 = .ok (.i2l, 1) := by decide +kernel
theorem dX5_solves_270 : decode cX5_solves 270 = .ok (.lmul, 1) := by decide +kernel
theorem dX5_solves_271 : decode cX5_solves 271 = .ok (.ladd, 1) := by decide +kernel
theorem dX5_solves_272 : decode cX5_solves 272 = .ok (.lastore, 1) := by decide +kernel
theorem dX5_solves_273 : decode cX5_solves 273 = .ok (.iinc 2 1, 3) := by decide +kernel
theorem dX5_solves_276 : decode cX5_solves 276 = .ok (.goto (-136), 3) := by decide +kernel
theorem dX5_solves_279 : decode cX5_solves 279 = .ok (.aload_n 0, 1) := by decide +kernel
theorem dX5_solves_280 : decode cX5_solves 280 = .ok (.invokevirtual 200, 3) := by decide +kernel
theorem dX5_solves_283 : decode cX5_solves 283 = .ok (.iconst 0, 1) := by decide +kernel
theorem dX5_solves_284 : decode cX5_solves 284 = .ok (.istore_n 2, 1) := by decide +kernel
theorem dX5_solves_285 : decode cX5_solves 285 = .ok (.iload_n 2, 1) := by decide +kernel
theorem dX5_solves_286 : decode cX5_solves 286 = .ok (.bipush 8, 2) := by decide +kernel
theorem dX5_solves_288 : decode cX5_solves 288 = .ok (.if_icmp .ge 91, 3) := by decide +kernel
theorem dX5_solves_291 : decode cX5_solves 291 = .ok (.iload_n 2, 1) := by decide +kernel
theorem dX5_solves_292 : decode cX5_solves 292 = .ok (.aload_n 0, 1) := by decide +kernel
theorem dX5_solves_293 : decode cX5_solves 293 = .ok (.getfield 70, 3) := by decide +kernel
theorem dX5_solves_296 : decode cX5_solves 296 = .ok (.iconst 0, 1) := by decide +kernel
theorem dX5_solves_297 : decode cX5_solves 297 = .ok (.iaload, 1) := by decide +kernel
theorem dX5_solves_298 : decode cX5_solves 298 = .ok (.if_icmp .ge 11, 3) := by decide +kernel
theorem dX5_solves_301 : decode cX5_solves 301 = .ok (.aload_n 0, 1) := by decide +kernel
theorem dX5_solves_302 : decode cX5_solves 302 = .ok (.iload_n 2, 1) := by decide +kernel
theorem dX5_solves_303 : decode cX5_solves 303 = .ok (.invokevirtual 193, 3) := by decide +kernel
theorem dX5_solves_306 : decode cX5_solves 306 = .ok (.goto 4, 3) := by decide +kernel
theorem dX5_solves_309 : decode cX5_solves 309 = .ok (.iconst (-1), 1) := by decide +kernel
theorem dX5_solves_310 : decode cX5_solves 310 = .ok (.istore_n 3, 1) := by decide +kernel
theorem dX5_solves_311 : decode cX5_solves 311 = .ok (.aload_n 0, 1) := by decide +kernel
theorem dX5_solves_312 : decode cX5_solves 312 = .ok (.getfield 107, 3) := by decide +kernel
theorem dX5_solves_315 : decode cX5_solves 315 = .ok (.iload_n 2, 1) := by decide +kernel
theorem dX5_solves_316 : decode cX5_solves 316 = .ok (.lconst 0, 1) := by decide +kernel
theorem dX5_solves_317 : decode cX5_solves 317 = .ok (.lastore, 1) := by decide +kernel
theorem dX5_solves_318 : decode cX5_solves 318 = .ok (.iconst 0, 1) := by decide +kernel
theorem dX5_solves_319 : decode cX5_solves 319 = .ok (.istore 4, 2) := by decide +kernel
theorem dX5_solves_321 : decode cX5_solves 321 = .ok (.iload 4, 2) := by decide +kernel
theorem dX5_solves_323 : decode cX5_solves 323 = .ok (.aload_n 0, 1) := by decide +kernel
theorem dX5_solves_324 : decode cX5_solves 324 = .ok (.getfield 184, 3) := by decide +kernel
theorem dX5_solves_327 : decode cX5_solves 327 = .ok (.if_icmp .ge 46, 3) := by decide +kernel
theorem dX5_solves_330 : decode cX5_solves 330 = .ok (.iload_n 3, 1) := by decide +kernel
theorem dX5_solves_331 : decode cX5_solves 331 = .ok (.iconst (-1), 1) := by decide +kernel
theorem dX5_solves_332 : decode cX5_solves 332 = .ok (.if_icmp .eq 41, 3) := by decide +kernel
theorem dX5_solves_335 : decode cX5_solves 335 = .ok (.aload_n 0, 1) := by decide +kernel
theorem dX5_solves_336 : decode cX5_solves 336 = .ok (.getfield 107, 3) := by decide +kernel
theorem dX5_solves_339 : decode cX5_solves 339 = .ok (.iload_n 2, 1) := by decide +kernel
theorem dX5_solves_340 : decode cX5_solves 340 = .ok (.dup2, 1) := by decide +kernel
theorem dX5_solves_341 : decode cX5_solves 341 = .ok (.laload, 1) := by decide +kernel
theorem dX5_solves_342 : decode cX5_solves 342 = .ok (.aload_n 0, 1) := by decide +kernel
theorem dX5_solves_343 : decode cX5_solves 343 = .ok (.getfield 100, 3) := by decide +kernel
theorem dX5_solves_346 : decode cX5_solves 346 = .ok (.bipush 14, 2) := by decide +kernel
theorem dX5_solves_348 : decode cX5_solves 348 = .ok (.iload_n 3, 1) := by decide +kernel
theorem dX5_solves_349 : decode cX5_solves 349 = .ok (.imul, 1) := by decide +kernel
theorem dX5_solves_350 : decode cX5_solves 350 = .ok (.bipush 7, 2) := by decide +kernel
theorem dX5_solves_352 : decode cX5_solves 352 = .ok (.iadd, 1) := by decide +kernel
theorem dX5_solves_353 : decode cX5_solves 353 = .ok (.iload 4, 2) := by decide +kernel
theorem dX5_solves_355 : decode cX5_solves 355 = .ok (.iadd, 1) := by decide +kernel
theorem dX5_solves_356 : decode cX5_solves 356 = .ok (.laload, 1) := by decide +kernel
theorem dX5_solves_357 : decode cX5_solves 357 = .ok (.aload_n 0, 1) := by decide +kernel
theorem dX5_solves_358 : decode cX5_solves 358 = .ok (.getfield 104, 3) := by decide +kernel
theorem dX5_solves_361 : decode cX5_solves 361 = .ok (.iload 4, 2) := by decide +kernel
theorem dX5_solves_363 : decode cX5_solves 363 = .ok (.laload, 1) := by decide +kernel
theorem dX5_solves_364 : decode cX5_solves 364 = .ok (.lmul, 1) := by decide +kernel
theorem dX5_solves_365 : decode cX5_solves 365 = .ok (.ladd, 1) := by decide +kernel
theorem dX5_solves_366 : decode cX5_solves 366 = .ok (.lastore, 1) := by decide +kernel
theorem dX5_solves_367 : decode cX5_solves 367 = .ok (.iinc 4 1, 3) := by decide +kernel
theorem dX5_solves_370 : decode cX5_solves 370 = .ok (.goto (-49), 3) := by decide +kernel
theorem dX5_solves_373 : decode cX5_solves 373 = .ok (.iinc 2 1, 3) := by decide +kernel
theorem dX5_solves_376 : decode cX5_solves 376 = .ok (.goto (-91), 3) := by decide +kernel
theorem dX5_solves_379 : decode cX5_solves 379 = .ok (.return_, 1) := by decide +kernel
theorem dX5_inverts_0 : decode cX5_inverts 0 = .ok (.aload_n 0, 1) := by decide +kernel
theorem dX5_inverts_1 : decode cX5_inverts 1 = .ok (.lconst 1, 1) := by decide +kernel
theorem dX5_inverts_2 : decode cX5_inverts 2 = .ok (.putfield 203, 3) := by decide +kernel
theorem dX5_inverts_5 : decode cX5_inverts 5 = .ok (.iconst 0, 1) := by decide +kernel
theorem dX5_inverts_6 : decode cX5_inverts 6 = .ok (.istore_n 1, 1) := by decide +kernel
theorem dX5_inverts_7 : decode cX5_inverts 7 = .ok (.iload_n 1, 1) := by decide +kernel
theorem dX5_inverts_8 : decode cX5_inverts 8 = .ok (.aload_n 0, 1) := by decide +kernel
theorem dX5_inverts_9 : decode cX5_inverts 9 = .ok (.getfield 184, 3) := by decide +kernel
theorem dX5_inverts_12 : decode cX5_inverts 12 = .ok (.if_icmp .ge 132, 3) := by decide +kernel
theorem dX5_inverts_15 : decode cX5_inverts 15 = .ok (.aload_n 0, 1) := by decide +kernel
theorem dX5_inverts_16 : decode cX5_inverts 16 = .ok (.getfield 100, 3) := by decide +kernel
theorem dX5_inverts_19 : decode cX5_inverts 19 = .ok (.bipush 14, 2) := by decide +kernel
theorem dX5_inverts_21 : decode cX5_inverts 21 = .ok (.iload_n 1, 1) := by decide +kernel
theorem dX5_inverts_22 : decode cX5_inverts 22 = .ok (.imul, 1) := by decide +kernel
theorem dX5_inverts_23 : decode cX5_inverts 23 = .ok (.iload_n 1, 1) := by decide +kernel
theorem dX5_inverts_24 : decode cX5_inverts 24 = .ok (.iadd, 1) := by decide +kernel
theorem dX5_inverts_25 : decode cX5_inverts 25 = .ok (.laload, 1) := by decide +kernel
theorem dX5_inverts_26 : decode cX5_inverts 26 = .ok (.lstore_n 2, 1) := by decide +kernel
theorem dX5_inverts_27 : decode cX5_inverts 27 = .ok (.iconst 0, 1) := by decide +kernel
theorem dX5_inverts_28 : decode cX5_inverts 28 = .ok (.istore 4, 2) := by decide +kernel
theorem dX5_inverts_30 : decode cX5_inverts 30 = .ok (.iload 4, 2) := by decide +kernel
theorem dX5_inverts_32 : decode cX5_inverts 32 = .ok (.aload_n 0, 1) := by decide +kernel
theorem dX5_inverts_33 : decode cX5_inverts 33 = .ok (.getfield 184, 3) := by decide +kernel
theorem dX5_inverts_36 : decode cX5_inverts 36 = .ok (.if_icmp .ge 97, 3) := by decide +kernel
theorem dX5_inverts_39 : decode cX5_inverts 39 = .ok (.iload 4, 2) := by decide +kernel
theorem dX5_inverts_41 : decode cX5_inverts 41 = .ok (.iload_n 1, 1) := by decide +kernel
theorem dX5_inverts_42 : decode cX5_inverts 42 = .ok (.if_icmp .ne 6, 3) := by decide +kernel
theorem dX5_inverts_45 : decode cX5_inverts 45 = .ok (.goto 82, 3) := by decide +kernel
theorem dX5_inverts_48 : decode cX5_inverts 48 = .ok (.aload_n 0, 1) := by decide +kernel
theorem dX5_inverts_49 : decode cX5_inverts 49 = .ok (.getfield 100, 3) := by decide +kernel
theorem dX5_inverts_52 : decode cX5_inverts 52 = .ok (.bipush 14, 2) := by decide +kernel
theorem dX5_inverts_54 : decode cX5_inverts 54 = .ok (.iload 4, 2) := by decide +kernel
theorem dX5_inverts_56 : decode cX5_inverts 56 = .ok (.imul, 1) := by decide +kernel
theorem dX5_inverts_57 : decode cX5_inverts 57 = .ok (.iload_n 1, 1) := by decide +kernel
theorem dX5_inverts_58 : decode cX5_inverts 58 = .ok (.iadd, 1) := by decide +kernel
theorem dX5_inverts_59 : decode cX5_inverts 59 = .ok (.laload, 1) := by decide +kernel
theorem dX5_inverts_60 : decode cX5_inverts 60 = .ok (.lstore 5, 2) := by decide +kernel
theorem dX5_inverts_62 : decode cX5_inverts 62 = .ok (.iconst 0, 1) := by decide +kernel
theorem dX5_inverts_63 : decode cX5_inverts 63 = .ok (.istore 7, 2) := by decide +kernel
theorem dX5_inverts_65 : decode cX5_inverts 65 = .ok (.iload 7, 2) := by decide +kernel
theorem dX5_inverts_67 : decode cX5_inverts 67 = .ok (.bipush 14, 2) := by decide +kernel
theorem dX5_inverts_69 : decode cX5_inverts 69 = .ok (.if_icmp .ge 58, 3) := by decide +kernel
theorem dX5_inverts_72 : decode cX5_inverts 72 = .ok (.aload_n 0, 1) := by decide +kernel
theorem dX5_inverts_73 : decode cX5_inverts 73 = .ok (.getfield 100, 3) := by decide +kernel
theorem dX5_inverts_76 : decode cX5_inverts 76 = .ok (.bipush 14, 2) := by decide +kernel
theorem dX5_inverts_78 : decode cX5_inverts 78 = .ok (.iload 4, 2) := by decide +kernel
theorem dX5_inverts_80 : decode cX5_inverts 80 = .ok (.imul, 1) := by decide +kernel
theorem dX5_inverts_81 : decode cX5_inverts 81 = .ok (.iload 7, 2) := by decide +kernel
theorem dX5_inverts_83 : decode cX5_inverts 83 = .ok (.iadd, 1) := by decide +kernel
theorem dX5_inverts_84 : decode cX5_inverts 84 = .ok (.lload_n 2, 1) := by decide +kernel
theorem dX5_inverts_85 : decode cX5_inverts 85 = .ok (.aload_n 0, 1) := by decide +kernel
theorem dX5_inverts_86 : decode cX5_inverts 86 = .ok (.getfield 100, 3) := by decide +kernel
theorem dX5_inverts_89 : decode cX5_inverts 89 = .ok (.bipush 14, 2) := by decide +kernel
theorem dX5_inverts_91 : decode cX5_inverts 91 = .ok (.iload 4, 2) := by decide +kernel
theorem dX5_inverts_93 : decode cX5_inverts 93 = .ok (.imul, 1) := by decide +kernel
theorem dX5_inverts_94 : decode cX5_inverts 94 = .ok (.iload 7, 2) := by decide +kernel
theorem dX5_inverts_96 : decode cX5_inverts 96 = .ok (.iadd, 1) := by decide +kernel
theorem dX5_inverts_97 : decode cX5_inverts 97 = .ok (.laload, 1) := by decide +kernel
theorem dX5_inverts_98 : decode cX5_inverts 98 = .ok (.lmul, 1) := by decide +kernel
theorem dX5_inverts_99 : decode cX5_inverts 99 = .ok (.lload 5, 2) := by decide +kernel
theorem dX5_inverts_101 : decode cX5_inverts 101 = .ok (.aload_n 0, 1) := by decide +kernel
theorem dX5_inverts_102 : decode cX5_inverts 102 = .ok (.getfield 100, 3) := by decide +kernel
theorem dX5_inverts_105 : decode cX5_inverts 105 = .ok (.bipush 14, 2) := by decide +kernel
theorem dX5_inverts_107 : decode cX5_inverts 107 = .ok (.iload_n 1, 1) := by decide +kernel
theorem dX5_inverts_108 : decode cX5_inverts 108 = .ok (.imul, 1) := by decide +kernel
theorem dX5_inverts_109 : decode cX5_inverts 109 = .ok (.iload 7, 2) := by decide +kernel
theorem dX5_inverts_111 : decode cX5_inverts 111 = .ok (.iadd, 1) := by decide +kernel
theorem dX5_inverts_112 : decode cX5_inverts 112 = .ok (.laload, 1) := by decide +kernel
theorem dX5_inverts_113 : decode cX5_inverts 113 = .ok (.lmul, 1) := by decide +kernel
theorem dX5_inverts_114 : decode cX5_inverts 114 = .ok (.lsub, 1) := by decide +kernel
theorem dX5_inverts_115 : decode cX5_inverts 115 = .ok (.aload_n 0, 1) := by decide +kernel
theorem dX5_inverts_116 : decode cX5_inverts 116 = .ok (.getfield 203, 3) := by decide +kernel
theorem dX5_inverts_119 : decode cX5_inverts 119 = .ok (.ldiv, 1) := by decide +kernel
theorem dX5_inverts_120 : decode cX5_inverts 120 = .ok (.lastore, 1) := by decide +kernel
theorem dX5_inverts_121 : decode cX5_inverts 121 = .ok (.iinc 7 1, 3) := by decide +kernel
theorem dX5_inverts_124 : decode cX5_inverts 124 = .ok (.goto (-59), 3) := by decide +kernel
theorem dX5_inverts_127 : decode cX5_inverts 127 = .ok (.iinc 4 1, 3) := by decide +kernel
theorem dX5_inverts_130 : decode cX5_inverts 130 = .ok (.goto (-100), 3) := by decide +kernel
theorem dX5_inverts_133 : decode cX5_inverts 133 = .ok (.aload_n 0, 1) := by decide +kernel
theorem dX5_inverts_134 : decode cX5_inverts 134 = .ok (.lload_n 2, 1) := by decide +kernel
theorem dX5_inverts_135 : decode cX5_inverts 135 = .ok (.putfield 203, 3) := by decide +kernel
theorem dX5_inverts_138 : decode cX5_inverts 138 = .ok (.iinc 1 1, 3) := by decide +kernel
theorem dX5_inverts_141 : decode cX5_inverts 141 = .ok (.goto (-134), 3) := by decide +kernel
theorem dX5_inverts_144 : decode cX5_inverts 144 = .ok (.return_, 1) := by decide +kernel
theorem dX5_common_0 : decode cX5_common 0 = .ok (.lload_n 0, 1) := by decide +kernel
theorem dX5_common_1 : decode cX5_common 1 = .ok (.lconst 0, 1) := by decide +kernel
theorem dX5_common_2 : decode cX5_common 2 = .ok (.lcmp, 1) := by decide +kernel
theorem dX5_common_3 : decode cX5_common 3 = .ok (.ifCond .ge 8, 3) := by decide +kernel
theorem dX5_common_6 : decode cX5_common 6 = .ok (.lload_n 0, 1) := by decide +kernel
theorem dX5_common_7 : decode cX5_common 7 = .ok (.lneg, 1) := by decide +kernel
theorem dX5_common_8 : decode cX5_common 8 = .ok (.goto 4, 3) := by decide +kernel
theorem dX5_common_11 : decode cX5_common 11 = .ok (.lload_n 0, 1) := by decide +kernel
theorem dX5_common_12 : decode cX5_common 12 = .ok (.lstore 4, 2) := by decide +kernel
theorem dX5_common_14 : decode cX5_common 14 = .ok (.lload_n 2, 1) := by decide +kernel
theorem dX5_common_15 : decode cX5_common 15 = .ok (.lstore 6, 2) := by decide +kernel
theorem dX5_common_17 : decode cX5_common 17 = .ok (.lload 6, 2) := by decide +kernel
theorem dX5_common_19 : decode cX5_common 19 = .ok (.lconst 0, 1) := by decide +kernel
theorem dX5_common_20 : decode cX5_common 20 = .ok (.lcmp, 1) := by decide +kernel
theorem dX5_common_21 : decode cX5_common 21 = .ok (.ifCond .le 21, 3) := by decide +kernel
theorem dX5_common_24 : decode cX5_common 24 = .ok (.lload 4, 2) := by decide +kernel
theorem dX5_common_26 : decode cX5_common 26 = .ok (.lload 6, 2) := by decide +kernel
theorem dX5_common_28 : decode cX5_common 28 = .ok (.lrem, 1) := by decide +kernel
theorem dX5_common_29 : decode cX5_common 29 = .ok (.lstore 8, 2) := by decide +kernel
theorem dX5_common_31 : decode cX5_common 31 = .ok (.lload 6, 2) := by decide +kernel
theorem dX5_common_33 : decode cX5_common 33 = .ok (.lstore 4, 2) := by decide +kernel
theorem dX5_common_35 : decode cX5_common 35 = .ok (.lload 8, 2) := by decide +kernel
theorem dX5_common_37 : decode cX5_common 37 = .ok (.lstore 6, 2) := by decide +kernel
theorem dX5_common_39 : decode cX5_common 39 = .ok (.goto (-22), 3) := by decide +kernel
theorem dX5_common_42 : decode cX5_common 42 = .ok (.lload 4, 2) := by decide +kernel
theorem dX5_common_44 : decode cX5_common 44 = .ok (.lreturn, 1) := by decide +kernel
set_option maxRecDepth 20000 in
theorem ggX5_lowest_X5_common : GoodIn wsX5_lowest wsX5_common := goodIn_r _ [5] (by decide +kernel) (by decide +kernel)
set_option maxRecDepth 20000 in
theorem gX5_lowest_X5_common : GoodIn wsX5_lowest (va_wsS RX5 206 yX5_common wsX5_common) := goodIn_app (goodIn_of _ (by decide +kernel)) ggX5_lowest_X5_common
theorem dX5_lowest_0 : decode cX5_lowest 0 = .ok (.iload_n 3, 1) := by decide +kernel
theorem dX5_lowest_1 : decode cX5_lowest 1 = .ok (.ifCond .eq 10, 3) := by decide +kernel
theorem dX5_lowest_4 : decode cX5_lowest 4 = .ok (.aload_n 0, 1) := by decide +kernel
theorem dX5_lowest_5 : decode cX5_lowest 5 = .ok (.getfield 203, 3) := by decide +kernel
theorem dX5_lowest_8 : decode cX5_lowest 8 = .ok (.goto 4, 3) := by decide +kernel
theorem dX5_lowest_11 : decode cX5_lowest 11 = .ok (.lload_n 1, 1) := by decide +kernel
theorem dX5_lowest_12 : decode cX5_lowest 12 = .ok (.lload_n 1, 1) := by decide +kernel
theorem dX5_lowest_13 : decode cX5_lowest 13 = .ok (.aload_n 0, 1) := by decide +kernel
theorem dX5_lowest_14 : decode cX5_lowest 14 = .ok (.getfield 203, 3) := by decide +kernel
theorem dX5_lowest_17 : decode cX5_lowest 17 = .ok (.invokestatic 206, 3) := by decide +kernel
theorem dX5_lowest_20 : decode cX5_lowest 20 = .ok (.ldiv, 1) := by decide +kernel
theorem dX5_lowest_21 : decode cX5_lowest 21 = .ok (.lreturn, 1) := by decide +kernel
theorem dX5_offOf_0 : decode cX5_offOf 0 = .ok (.aload_n 0, 1) := by decide +kernel
theorem dX5_offOf_1 : decode cX5_offOf 1 = .ok (.getfield 88, 3) := by decide +kernel
theorem dX5_offOf_4 : decode cX5_offOf 4 = .ok (.iload_n 1, 1) := by decide +kernel
theorem dX5_offOf_5 : decode cX5_offOf 5 = .ok (.iaload, 1) := by decide +kernel
theorem dX5_offOf_6 : decode cX5_offOf 6 = .ok (.i2l, 1) := by decide +kernel
theorem dX5_offOf_7 : decode cX5_offOf 7 = .ok (.aload_n 0, 1) := by decide +kernel
theorem dX5_offOf_8 : decode cX5_offOf 8 = .ok (.getfield 203, 3) := by decide +kernel
theorem dX5_offOf_11 : decode cX5_offOf 11 = .ok (.lmul, 1) := by decide +kernel
theorem dX5_offOf_12 : decode cX5_offOf 12 = .ok (.aload_n 0, 1) := by decide +kernel
theorem dX5_offOf_13 : decode cX5_offOf 13 = .ok (.getfield 107, 3) := by decide +kernel
theorem dX5_offOf_16 : decode cX5_offOf 16 = .ok (.aload_n 0, 1) := by decide +kernel
theorem dX5_offOf_17 : decode cX5_offOf 17 = .ok (.getfield 85, 3) := by decide +kernel
theorem dX5_offOf_20 : decode cX5_offOf 20 = .ok (.iload_n 1, 1) := by decide +kernel
theorem dX5_offOf_21 : decode cX5_offOf 21 = .ok (.iaload, 1) := by decide +kernel
theorem dX5_offOf_22 : decode cX5_offOf 22 = .ok (.laload, 1) := by decide +kernel
theorem dX5_offOf_23 : decode cX5_offOf 23 = .ok (.lsub, 1) := by decide +kernel
theorem dX5_offOf_24 : decode cX5_offOf 24 = .ok (.aload_n 0, 1) := by decide +kernel
theorem dX5_offOf_25 : decode cX5_offOf 25 = .ok (.getfield 107, 3) := by decide +kernel
theorem dX5_offOf_28 : decode cX5_offOf 28 = .ok (.aload_n 0, 1) := by decide +kernel
theorem dX5_offOf_29 : decode cX5_offOf 29 = .ok (.getfield 82, 3) := by decide +kernel
theorem dX5_offOf_32 : decode cX5_offOf 32 = .ok (.iload_n 1, 1) := by decide +kernel
theorem dX5_offOf_33 : decode cX5_offOf 33 = .ok (.iaload, 1) := by decide +kernel
theorem dX5_offOf_34 : decode cX5_offOf 34 = .ok (.laload, 1) := by decide +kernel
theorem dX5_offOf_35 : decode cX5_offOf 35 = .ok (.ladd, 1) := by decide +kernel
theorem dX5_offOf_36 : decode cX5_offOf 36 = .ok (.lreturn, 1) := by decide +kernel
set_option maxRecDepth 20000 in
theorem ggX5_now_X5_laysPairs : GoodIn wsX5_now wsX5_laysPairs := goodIn_r _ [11, 4, 2, 12, 13, 14, 15, 16, 17, 18, 19, 10, 20, 21, 22, 23, 24, 25, 26, 27, 28, 29, 30, 31, 44, 45, 46, 47, 48, 49, 50, 51, 52, 53, 54, 55, 56, 57, 58, 59, 60, 61, 62, 63, 64, 65, 66, 67, 68, 69, 70, 71, 72, 73, 74] (by decide +kernel) (by decide +kernel)
set_option maxRecDepth 20000 in
theorem gX5_now_X5_laysPairs : GoodIn wsX5_now (wsV RX5 187 RX5 yX5_laysPairs wsX5_laysPairs) := goodIn_app (goodIn_of _ (by decide +kernel)) ggX5_now_X5_laysPairs
set_option maxRecDepth 20000 in
theorem ggX5_now_X5_laysParts : GoodIn wsX5_now wsX5_laysParts := goodIn_r _ [35, 3, 4, 13, 14, 44, 45, 46, 47, 48, 49, 50, 51, 52, 53, 54, 55, 56, 57, 58, 59, 60, 61, 62, 63, 64, 65, 66, 67, 68, 69, 70, 71, 72, 73, 74] (by decide +kernel) (by decide +kernel)
set_option maxRecDepth 20000 in
theorem gX5_now_X5_laysParts : GoodIn wsX5_now (wsV RX5 190 RX5 yX5_laysParts wsX5_laysParts) := goodIn_app (goodIn_of _ (by decide +kernel)) ggX5_now_X5_laysParts
set_option maxRecDepth 20000 in
theorem ggX5_now_X5_sales : GoodIn wsX5_now wsX5_sales := goodIn_r _ [39, 2, 40, 41, 42, 10, 43, 17, 18, 19, 20, 21, 22, 23, 44, 45, 46, 47, 48, 49, 50, 51, 52, 53, 54, 55, 56, 57, 58, 59, 60, 61, 62, 63, 64, 65, 66, 67, 68, 69, 70, 71, 72, 73, 74] (by decide +kernel) (by decide +kernel)
set_option maxRecDepth 20000 in
theorem gX5_now_X5_sales : GoodIn wsX5_now (wsV RX5 210 RX5 yX5_sales wsX5_sales) := goodIn_app (goodIn_of _ (by decide +kernel)) ggX5_now_X5_sales
theorem dX5_now_0 : decode cX5_now 0 = .ok (.aload_n 0, 1) := by decide +kernel
theorem dX5_now_1 : decode cX5_now 1 = .ok (.iconst 0, 1) := by decide +kernel
theorem dX5_now_2 : decode cX5_now 2 = .ok (.putfield 1, 3) := by decide +kernel
theorem dX5_now_5 : decode cX5_now 5 = .ok (.aload_n 0, 1) := by decide +kernel
theorem dX5_now_6 : decode cX5_now 6 = .ok (.iconst (-1), 1) := by decide +kernel
theorem dX5_now_7 : decode cX5_now 7 = .ok (.invokevirtual 187, 3) := by decide +kernel
theorem dX5_now_10 : decode cX5_now 10 = .ok (.aload_n 0, 1) := by decide +kernel
theorem dX5_now_11 : decode cX5_now 11 = .ok (.invokevirtual 190, 3) := by decide +kernel
theorem dX5_now_14 : decode cX5_now 14 = .ok (.iconst 0, 1) := by decide +kernel
theorem dX5_now_15 : decode cX5_now 15 = .ok (.istore_n 2, 1) := by decide +kernel
theorem dX5_now_16 : decode cX5_now 16 = .ok (.iconst 0, 1) := by decide +kernel
theorem dX5_now_17 : decode cX5_now 17 = .ok (.istore_n 3, 1) := by decide +kernel
theorem dX5_now_18 : decode cX5_now 18 = .ok (.iload_n 3, 1) := by decide +kernel
theorem dX5_now_19 : decode cX5_now 19 = .ok (.aload_n 0, 1) := by decide +kernel
theorem dX5_now_20 : decode cX5_now 20 = .ok (.getfield 70, 3) := by decide +kernel
theorem dX5_now_23 : decode cX5_now 23 = .ok (.iconst 0, 1) := by decide +kernel
theorem dX5_now_24 : decode cX5_now 24 = .ok (.iaload, 1) := by decide +kernel
theorem dX5_now_25 : decode cX5_now 25 = .ok (.if_icmp .ge 22, 3) := by decide +kernel
theorem dX5_now_28 : decode cX5_now 28 = .ok (.aload_n 0, 1) := by decide +kernel
theorem dX5_now_29 : decode cX5_now 29 = .ok (.getfield 94, 3) := by decide +kernel
theorem dX5_now_32 : decode cX5_now 32 = .ok (.iload_n 3, 1) := by decide +kernel
theorem dX5_now_33 : decode cX5_now 33 = .ok (.iaload, 1) := by decide +kernel
theorem dX5_now_34 : decode cX5_now 34 = .ok (.iload_n 3, 1) := by decide +kernel
theorem dX5_now_35 : decode cX5_now 35 = .ok (.if_icmp .ne 6, 3) := by decide +kernel
theorem dX5_now_38 : decode cX5_now 38 = .ok (.iinc 2 1, 3) := by decide +kernel
theorem dX5_now_41 : decode cX5_now 41 = .ok (.iinc 3 1, 3) := by decide +kernel
theorem dX5_now_44 : decode cX5_now 44 = .ok (.goto (-26), 3) := by decide +kernel
theorem dX5_now_47 : decode cX5_now 47 = .ok (.iload_n 1, 1) := by decide +kernel
theorem dX5_now_48 : decode cX5_now 48 = .ok (.tableswitch 73 0 6 #[44, 44, 51, 56, 61, 63, 68], 44) := by decide +kernel
theorem dX5_now_92 : decode cX5_now 92 = .ok (.aload_n 0, 1) := by decide +kernel
theorem dX5_now_93 : decode cX5_now 93 = .ok (.getfield 70, 3) := by decide +kernel
theorem dX5_now_96 : decode cX5_now 96 = .ok (.iload_n 1, 1) := by decide +kernel
theorem dX5_now_97 : decode cX5_now 97 = .ok (.iaload, 1) := by decide +kernel
theorem dX5_now_98 : decode cX5_now 98 = .ok (.ireturn, 1) := by decide +kernel
theorem dX5_now_99 : decode cX5_now 99 = .ok (.aload_n 0, 1) := by decide +kernel
theorem dX5_now_100 : decode cX5_now 100 = .ok (.invokevirtual 210, 3) := by decide +kernel
theorem dX5_now_103 : decode cX5_now 103 = .ok (.ireturn, 1) := by decide +kernel
theorem dX5_now_104 : decode cX5_now 104 = .ok (.aload_n 0, 1) := by decide +kernel
theorem dX5_now_105 : decode cX5_now 105 = .ok (.getfield 175, 3) := by decide +kernel
theorem dX5_now_108 : decode cX5_now 108 = .ok (.ireturn, 1) := by decide +kernel
theorem dX5_now_109 : decode cX5_now 109 = .ok (.iload_n 2, 1) := by decide +kernel
theorem dX5_now_110 : decode cX5_now 110 = .ok (.ireturn, 1) := by decide +kernel
theorem dX5_now_111 : decode cX5_now 111 = .ok (.aload_n 0, 1) := by decide +kernel
theorem dX5_now_112 : decode cX5_now 112 = .ok (.getfield 162, 3) := by decide +kernel
theorem dX5_now_115 : decode cX5_now 115 = .ok (.ireturn, 1) := by decide +kernel
theorem dX5_now_116 : decode cX5_now 116 = .ok (.aload_n 0, 1) := by decide +kernel
theorem dX5_now_117 : decode cX5_now 117 = .ok (.getfield 11, 3) := by decide +kernel
theorem dX5_now_120 : decode cX5_now 120 = .ok (.ireturn, 1) := by decide +kernel
theorem dX5_now_121 : decode cX5_now 121 = .ok (.iconst (-1), 1) := by decide +kernel
theorem dX5_now_122 : decode cX5_now 122 = .ok (.ireturn, 1) := by decide +kernel
set_option maxRecDepth 20000 in
theorem ggX5_level_X5_isHome : GoodIn wsX5_level wsX5_isHome := goodIn_r _ [6, 7, 8, 9, 5, 10, 26, 27, 28, 29, 30, 31, 32, 33, 34, 35, 36, 37, 38, 39, 40, 41, 42, 43, 44, 45, 46, 47, 48, 49, 50, 51, 52, 53, 54, 55, 56] (by decide +kernel) (by decide +kernel)
set_option maxRecDepth 20000 in
theorem gX5_level_X5_isHome : GoodIn wsX5_level (wsV RX5 214 RX5 yX5_isHome wsX5_isHome) := goodIn_app (goodIn_of _ (by decide +kernel)) ggX5_level_X5_isHome
set_option maxRecDepth 20000 in
theorem ggX5_level_X5_isMonth : GoodIn wsX5_level wsX5_isMonth := goodIn_r _ [14, 7, 8, 9, 5, 10, 26, 27, 28, 29, 30, 31, 32, 33, 34, 35, 36, 37, 38, 39, 40, 41, 42, 43, 44, 45, 46, 47, 48, 49, 50, 51, 52, 53, 54, 55, 56] (by decide +kernel) (by decide +kernel)
set_option maxRecDepth 20000 in
theorem gX5_level_X5_isMonth : GoodIn wsX5_level (wsV RX5 217 RX5 yX5_isMonth wsX5_isMonth) := goodIn_app (goodIn_of _ (by decide +kernel)) ggX5_level_X5_isMonth
set_option maxRecDepth 20000 in
theorem ggX5_level_X5_isSold : GoodIn wsX5_level wsX5_isSold := goodIn_r _ [18, 7, 19, 20, 5, 21, 26, 27, 28, 29, 30, 31, 32, 33, 34, 35, 36, 37, 38, 39, 40, 41, 42, 43, 44, 45, 46, 47, 48, 49, 50, 51, 52, 53, 54, 55, 56] (by decide +kernel) (by decide +kernel)
set_option maxRecDepth 20000 in
theorem gX5_level_X5_isSold : GoodIn wsX5_level (wsV RX5 169 RX5 yX5_isSold wsX5_isSold) := goodIn_app (goodIn_of _ (by decide +kernel)) ggX5_level_X5_isSold
set_option maxRecDepth 20000 in
theorem ggX5_level_X5_levelOf : GoodIn wsX5_level wsX5_levelOf := goodIn_r _ [25, 7, 19, 20, 5, 21, 26, 27, 28, 29, 30, 31, 32, 33, 34, 35, 36, 37, 38, 39, 40, 41, 42, 43, 44, 45, 46, 47, 48, 49, 50, 51, 52, 53, 54, 55, 56] (by decide +kernel) (by decide +kernel)
set_option maxRecDepth 20000 in
theorem gX5_level_X5_levelOf : GoodIn wsX5_level (wsV RX5 178 RX5 yX5_levelOf wsX5_levelOf) := goodIn_app (goodIn_of _ (by decide +kernel)) ggX5_level_X5_levelOf
theorem dX5_level_0 : decode cX5_level 0 = .ok (.aload_n 0, 1) := by decide +kernel
theorem dX5_level_1 : decode cX5_level 1 = .ok (.iconst 0, 1) := by decide +kernel
theorem dX5_level_2 : decode cX5_level 2 = .ok (.putfield 1, 3) := by decide +kernel
theorem dX5_level_5 : decode cX5_level 5 = .ok (.aload_n 0, 1) := by decide +kernel
theorem dX5_level_6 : decode cX5_level 6 = .ok (.iload_n 1, 1) := by decide +kernel
theorem dX5_level_7 : decode cX5_level 7 = .ok (.invokevirtual 214, 3) := by decide +kernel
theorem dX5_level_10 : decode cX5_level 10 = .ok (.ifCond .eq 29, 3) := by decide +kernel
theorem dX5_level_13 : decode cX5_level 13 = .ok (.aload_n 0, 1) := by decide +kernel
theorem dX5_level_14 : decode cX5_level 14 = .ok (.iload_n 2, 1) := by decide +kernel
theorem dX5_level_15 : decode cX5_level 15 = .ok (.invokevirtual 217, 3) := by decide +kernel
theorem dX5_level_18 : decode cX5_level 18 = .ok (.ifCond .eq 21, 3) := by decide +kernel
theorem dX5_level_21 : decode cX5_level 21 = .ok (.aload_n 0, 1) := by decide +kernel
theorem dX5_level_22 : decode cX5_level 22 = .ok (.iload_n 1, 1) := by decide +kernel
theorem dX5_level_23 : decode cX5_level 23 = .ok (.iload_n 2, 1) := by decide +kernel
theorem dX5_level_24 : decode cX5_level 24 = .ok (.invokevirtual 169, 3) := by decide +kernel
theorem dX5_level_27 : decode cX5_level 27 = .ok (.ifCond .eq 12, 3) := by decide +kernel
theorem dX5_level_30 : decode cX5_level 30 = .ok (.aload_n 0, 1) := by decide +kernel
theorem dX5_level_31 : decode cX5_level 31 = .ok (.iload_n 1, 1) := by decide +kernel
theorem dX5_level_32 : decode cX5_level 32 = .ok (.iload_n 2, 1) := by decide +kernel
theorem dX5_level_33 : decode cX5_level 33 = .ok (.invokevirtual 178, 3) := by decide +kernel
theorem dX5_level_36 : decode cX5_level 36 = .ok (.goto 4, 3) := by decide +kernel
theorem dX5_level_39 : decode cX5_level 39 = .ok (.iconst (-1), 1) := by decide +kernel
theorem dX5_level_40 : decode cX5_level 40 = .ok (.ireturn, 1) := by decide +kernel
set_option maxRecDepth 20000 in
theorem ggX5_pair_X5_laysPairs : GoodIn wsX5_pair wsX5_laysPairs := goodIn_r _ [12, 2, 13, 3, 4, 5, 6, 7, 14, 15, 16, 11, 17, 18, 19, 20, 21, 22, 23, 24, 25, 26, 27, 28, 36, 37, 38, 39, 40, 41, 42, 43, 44, 45, 46, 47, 48, 49, 50, 51, 52, 53, 54, 55, 56, 57, 58, 59, 60, 61, 62, 63, 64, 65, 66] (by decide +kernel) (by decide +kernel)
set_option maxRecDepth 20000 in
theorem gX5_pair_X5_laysPairs : GoodIn wsX5_pair (wsV RX5 187 RX5 yX5_laysPairs wsX5_laysPairs) := goodIn_app (goodIn_of _ (by decide +kernel)) ggX5_pair_X5_laysPairs
set_option maxRecDepth 20000 in
theorem ggX5_pair_X5_isIn : GoodIn wsX5_pair wsX5_isIn := goodIn_r _ [31] (by decide +kernel) (by decide +kernel)
set_option maxRecDepth 20000 in
theorem gX5_pair_X5_isIn : GoodIn wsX5_pair (va_wsS RX5 113 yX5_isIn wsX5_isIn) := goodIn_app (goodIn_of _ (by decide +kernel)) ggX5_pair_X5_isIn
set_option maxRecDepth 20000 in
theorem ggX5_pair_X5_refuse : GoodIn wsX5_pair wsX5_refuse := goodIn_r _ [35, 1, 36, 37, 38, 39, 40, 41, 42, 43, 44, 45, 46, 47, 48, 49, 50, 51, 52, 53, 54, 55, 56, 57, 58, 59, 60, 61, 62, 63, 64, 65, 66] (by decide +kernel) (by decide +kernel)
set_option maxRecDepth 20000 in
theorem gX5_pair_X5_refuse : GoodIn wsX5_pair (wsV RX5 220 RX5 yX5_refuse wsX5_refuse) := goodIn_app (goodIn_of _ (by decide +kernel)) ggX5_pair_X5_refuse
theorem dX5_pair_0 : decode cX5_pair 0 = .ok (.aload_n 0, 1) := by decide +kernel
theorem dX5_pair_1 : decode cX5_pair 1 = .ok (.iconst 0, 1) := by decide +kernel
theorem dX5_pair_2 : decode cX5_pair 2 = .ok (.putfield 1, 3) := by decide +kernel
theorem dX5_pair_5 : decode cX5_pair 5 = .ok (.aload_n 0, 1) := by decide +kernel
theorem dX5_pair_6 : decode cX5_pair 6 = .ok (.iconst (-1), 1) := by decide +kernel
theorem dX5_pair_7 : decode cX5_pair 7 = .ok (.invokevirtual 187, 3) := by decide +kernel
theorem dX5_pair_10 : decode cX5_pair 10 = .ok (.iload_n 1, 1) := by decide +kernel
theorem dX5_pair_11 : decode cX5_pair 11 = .ok (.iconst 0, 1) := by decide +kernel
theorem dX5_pair_12 : decode cX5_pair 12 = .ok (.aload_n 0, 1) := by decide +kernel
theorem dX5_pair_13 : decode cX5_pair 13 = .ok (.getfield 175, 3) := by decide +kernel
theorem dX5_pair_16 : decode cX5_pair 16 = .ok (.iconst 1, 1) := by decide +kernel
theorem dX5_pair_17 : decode cX5_pair 17 = .ok (.isub, 1) := by decide +kernel
theorem dX5_pair_18 : decode cX5_pair 18 = .ok (.invokestatic 113, 3) := by decide +kernel
theorem dX5_pair_21 : decode cX5_pair 21 = .ok (.ifCond .ne 8, 3) := by decide +kernel
theorem dX5_pair_24 : decode cX5_pair 24 = .ok (.aload_n 0, 1) := by decide +kernel
theorem dX5_pair_25 : decode cX5_pair 25 = .ok (.invokevirtual 220, 3) := by decide +kernel
theorem dX5_pair_28 : decode cX5_pair 28 = .ok (.ireturn, 1) := by decide +kernel
theorem dX5_pair_29 : decode cX5_pair 29 = .ok (.iload_n 2, 1) := by decide +kernel
theorem dX5_pair_30 : decode cX5_pair 30 = .ok (.tableswitch 69 0 4 #[34, 41, 48, 55, 62], 34) := by decide +kernel
theorem dX5_pair_64 : decode cX5_pair 64 = .ok (.aload_n 0, 1) := by decide +kernel
theorem dX5_pair_65 : decode cX5_pair 65 = .ok (.getfield 79, 3) := by decide +kernel
theorem dX5_pair_68 : decode cX5_pair 68 = .ok (.iload_n 1, 1) := by decide +kernel
theorem dX5_pair_69 : decode cX5_pair 69 = .ok (.iaload, 1) := by decide +kernel
theorem dX5_pair_70 : decode cX5_pair 70 = .ok (.ireturn, 1) := by decide +kernel
theorem dX5_pair_71 : decode cX5_pair 71 = .ok (.aload_n 0, 1) := by decide +kernel
theorem dX5_pair_72 : decode cX5_pair 72 = .ok (.getfield 82, 3) := by decide +kernel
theorem dX5_pair_75 : decode cX5_pair 75 = .ok (.iload_n 1, 1) := by decide +kernel
theorem dX5_pair_76 : decode cX5_pair 76 = .ok (.iaload, 1) := by decide +kernel
theorem dX5_pair_77 : decode cX5_pair 77 = .ok (.ireturn, 1) := by decide +kernel
theorem dX5_pair_78 : decode cX5_pair 78 = .ok (.aload_n 0, 1) := by decide +kernel
theorem dX5_pair_79 : decode cX5_pair 79 = .ok (.getfield 85, 3) := by decide +kernel
theorem dX5_pair_82 : decode cX5_pair 82 = .ok (.iload_n 1, 1) := by decide +kernel
theorem dX5_pair_83 : decode cX5_pair 83 = .ok (.iaload, 1) := by decide +kernel
theorem dX5_pair_84 : decode cX5_pair 84 = .ok (.ireturn, 1) := by decide +kernel
theorem dX5_pair_85 : decode cX5_pair 85 = .ok (.aload_n 0, 1) := by decide +kernel
theorem dX5_pair_86 : decode cX5_pair 86 = .ok (.getfield 88, 3) := by decide +kernel
theorem dX5_pair_89 : decode cX5_pair 89 = .ok (.iload_n 1, 1) := by decide +kernel
theorem dX5_pair_90 : decode cX5_pair 90 = .ok (.iaload, 1) := by decide +kernel
theorem dX5_pair_91 : decode cX5_pair 91 = .ok (.ireturn, 1) := by decide +kernel
theorem dX5_pair_92 : decode cX5_pair 92 = .ok (.aload_n 0, 1) := by decide +kernel
theorem dX5_pair_93 : decode cX5_pair 93 = .ok (.getfield 91, 3) := by decide +kernel
theorem dX5_pair_96 : decode cX5_pair 96 = .ok (.iload_n 1, 1) := by decide +kernel
theorem dX5_pair_97 : decode cX5_pair 97 = .ok (.iaload, 1) := by decide +kernel
theorem dX5_pair_98 : decode cX5_pair 98 = .ok (.ireturn, 1) := by decide +kernel
theorem dX5_pair_99 : decode cX5_pair 99 = .ok (.aload_n 0, 1) := by decide +kernel
theorem dX5_pair_100 : decode cX5_pair 100 = .ok (.invokevirtual 220, 3) := by decide +kernel
theorem dX5_pair_103 : decode cX5_pair 103 = .ok (.ireturn, 1) := by decide +kernel
set_option maxRecDepth 20000 in
theorem ggX5_part_X5_laysPairs : GoodIn wsX5_part wsX5_laysPairs := goodIn_r _ [7, 8, 9, 10, 11, 12, 13, 14, 15, 16, 17, 6, 18, 19, 20, 21, 22, 23, 24, 25, 26, 27, 28, 29, 41, 42, 43, 44, 45, 46, 47, 48, 49, 50, 51, 52, 53, 54, 55, 56, 57, 58, 59, 60, 61, 62, 63, 64, 65, 66, 67, 68, 69, 70, 71] (by decide +kernel) (by decide +kernel)
set_option maxRecDepth 20000 in
theorem gX5_part_X5_laysPairs : GoodIn wsX5_part (wsV RX5 187 RX5 yX5_laysPairs wsX5_laysPairs) := goodIn_app (goodIn_of _ (by decide +kernel)) ggX5_part_X5_laysPairs
set_option maxRecDepth 20000 in
theorem ggX5_part_X5_laysParts : GoodIn wsX5_part wsX5_laysParts := goodIn_r _ [33, 2, 8, 11, 12, 41, 42, 43, 44, 45, 46, 47, 48, 49, 50, 51, 52, 53, 54, 55, 56, 57, 58, 59, 60, 61, 62, 63, 64, 65, 66, 67, 68, 69, 70, 71] (by decide +kernel) (by decide +kernel)
set_option maxRecDepth 20000 in
theorem gX5_part_X5_laysParts : GoodIn wsX5_part (wsV RX5 190 RX5 yX5_laysParts wsX5_laysParts) := goodIn_app (goodIn_of _ (by decide +kernel)) ggX5_part_X5_laysParts
set_option maxRecDepth 20000 in
theorem ggX5_part_X5_isMonth : GoodIn wsX5_part wsX5_isMonth := goodIn_r _ [37, 9, 38, 39, 6, 40, 41, 42, 43, 44, 45, 46, 47, 48, 49, 50, 51, 52, 53, 54, 55, 56, 57, 58, 59, 60, 61, 62, 63, 64, 65, 66, 67, 68, 69, 70, 71] (by decide +kernel) (by decide +kernel)
set_option maxRecDepth 20000 in
theorem gX5_part_X5_isMonth : GoodIn wsX5_part (wsV RX5 217 RX5 yX5_isMonth wsX5_isMonth) := goodIn_app (goodIn_of _ (by decide +kernel)) ggX5_part_X5_isMonth
theorem dX5_part_0 : decode cX5_part 0 = .ok (.aload_n 0, 1) := by decide +kernel
theorem dX5_part_1 : decode cX5_part 1 = .ok (.iconst 0, 1) := by decide +kernel
theorem dX5_part_2 : decode cX5_part 2 = .ok (.putfield 1, 3) := by decide +kernel
theorem dX5_part_5 : decode cX5_part 5 = .ok (.aload_n 0, 1) := by decide +kernel
theorem dX5_part_6 : decode cX5_part 6 = .ok (.iconst (-1), 1) := by decide +kernel
theorem dX5_part_7 : decode cX5_part 7 = .ok (.invokevirtual 187, 3) := by decide +kernel
theorem dX5_part_10 : decode cX5_part 10 = .ok (.aload_n 0, 1) := by decide +kernel
theorem dX5_part_11 : decode cX5_part 11 = .ok (.invokevirtual 190, 3) := by decide +kernel
theorem dX5_part_14 : decode cX5_part 14 = .ok (.aload_n 0, 1) := by decide +kernel
theorem dX5_part_15 : decode cX5_part 15 = .ok (.iload_n 1, 1) := by decide +kernel
theorem dX5_part_16 : decode cX5_part 16 = .ok (.invokevirtual 217, 3) := by decide +kernel
theorem dX5_part_19 : decode cX5_part 19 = .ok (.ifCond .eq 12, 3) := by decide +kernel
theorem dX5_part_22 : decode cX5_part 22 = .ok (.aload_n 0, 1) := by decide +kernel
theorem dX5_part_23 : decode cX5_part 23 = .ok (.getfield 94, 3) := by decide +kernel
theorem dX5_part_26 : decode cX5_part 26 = .ok (.iload_n 1, 1) := by decide +kernel
theorem dX5_part_27 : decode cX5_part 27 = .ok (.iaload, 1) := by decide +kernel
theorem dX5_part_28 : decode cX5_part 28 = .ok (.goto 4, 3) := by decide +kernel
theorem dX5_part_31 : decode cX5_part 31 = .ok (.iconst (-1), 1) := by decide +kernel
theorem dX5_part_32 : decode cX5_part 32 = .ok (.ireturn, 1) := by decide +kernel
set_option maxRecDepth 20000 in
theorem ggX5_index_X5_isMonth : GoodIn wsX5_index wsX5_isMonth := goodIn_r _ [7, 8, 9, 10, 6, 11, 74, 75, 76, 77, 78, 79, 80, 81, 82, 83, 84, 85, 86, 87, 88, 89, 90, 91, 92, 93, 94, 95, 96, 97, 98, 99, 100, 101, 102, 103, 104] (by decide +kernel) (by decide +kernel)
set_option maxRecDepth 20000 in
theorem gX5_index_X5_isMonth : GoodIn wsX5_index (wsV RX5 217 RX5 yX5_isMonth wsX5_isMonth) := goodIn_app (goodIn_of _ (by decide +kernel)) ggX5_index_X5_isMonth
set_option maxRecDepth 20000 in
theorem ggX5_index_X5_refuse : GoodIn wsX5_index wsX5_refuse := goodIn_r _ [15, 1, 74, 75, 76, 77, 78, 79, 80, 81, 82, 83, 84, 85, 86, 87, 88, 89, 90, 91, 92, 93, 94, 95, 96, 97, 98, 99, 100, 101, 102, 103, 104] (by decide +kernel) (by decide +kernel)
set_option maxRecDepth 20000 in
theorem gX5_index_X5_refuse : GoodIn wsX5_index (wsV RX5 220 RX5 yX5_refuse wsX5_refuse) := goodIn_app (goodIn_of _ (by decide +kernel)) ggX5_index_X5_refuse
set_option maxRecDepth 20000 in
theorem ggX5_index_X5_solves : GoodIn wsX5_index wsX5_solves := goodIn_r _ [19, 20, 8, 21, 22, 23, 24, 25, 26, 27, 28, 29, 2, 30, 31, 32, 6, 33, 34, 35, 36, 37, 38, 39, 40, 41, 42, 43, 44, 45, 46, 47, 48, 49, 50, 51, 52, 53, 54, 55, 56, 57, 58, 59, 60, 61, 62, 63, 64, 65, 66, 74, 75, 76, 77, 78, 79, 80, 81, 82, 83, 84, 85, 86, 87, 88, 89, 90, 91, 92, 93, 94, 95, 96, 97, 98, 99, 100, 101, 102, 103, 104] (by decide +kernel) (by decide +kernel)
set_option maxRecDepth 20000 in
theorem gX5_index_X5_solves : GoodIn wsX5_index (wsV RX5 223 RX5 yX5_solves wsX5_solves) := goodIn_app (goodIn_of _ (by decide +kernel)) ggX5_index_X5_solves
set_option maxRecDepth 20000 in
theorem ggX5_index_X5_lowest : GoodIn wsX5_index wsX5_lowest := goodIn_r _ [70, 66, 71, 72, 6, 73, 74, 75, 76, 77, 78, 79, 80, 81, 82, 83, 84, 85, 86, 87, 88, 89, 90, 91, 92, 93, 94, 95, 96, 97, 98, 99, 100, 101, 102, 103, 104] (by decide +kernel) (by decide +kernel)
set_option maxRecDepth 20000 in
theorem gX5_index_X5_lowest : GoodIn wsX5_index (wsV RX5 226 RX5 yX5_lowest wsX5_lowest) := goodIn_app (goodIn_of _ (by decide +kernel)) ggX5_index_X5_lowest
theorem dX5_index_0 : decode cX5_index 0 = .ok (.aload_n 0, 1) := by decide +kernel
theorem dX5_index_1 : decode cX5_index 1 = .ok (.iconst 0, 1) := by decide +kernel
theorem dX5_index_2 : decode cX5_index 2 = .ok (.putfield 1, 3) := by decide +kernel
theorem dX5_index_5 : decode cX5_index 5 = .ok (.aload_n 0, 1) := by decide +kernel
theorem dX5_index_6 : decode cX5_index 6 = .ok (.iload_n 1, 1) := by decide +kernel
theorem dX5_index_7 : decode cX5_index 7 = .ok (.invokevirtual 217, 3) := by decide +kernel
theorem dX5_index_10 : decode cX5_index 10 = .ok (.ifCond .ne 9, 3) := by decide +kernel
theorem dX5_index_13 : decode cX5_index 13 = .ok (.aload_n 0, 1) := by decide +kernel
theorem dX5_index_14 : decode cX5_index 14 = .ok (.invokevirtual 220, 3) := by decide +kernel
theorem dX5_index_17 : decode cX5_index 17 = .ok (.i2l, 1) := by decide +kernel
theorem dX5_index_18 : decode cX5_index 18 = .ok (.lreturn, 1) := by decide +kernel
theorem dX5_index_19 : decode cX5_index 19 = .ok (.aload_n 0, 1) := by decide +kernel
theorem dX5_index_20 : decode cX5_index 20 = .ok (.iconst (-1), 1) := by decide +kernel
theorem dX5_index_21 : decode cX5_index 21 = .ok (.invokevirtual 223, 3) := by decide +kernel
theorem dX5_index_24 : decode cX5_index 24 = .ok (.aload_n 0, 1) := by decide +kernel
theorem dX5_index_25 : decode cX5_index 25 = .ok (.aload_n 0, 1) := by decide +kernel
theorem dX5_index_26 : decode cX5_index 26 = .ok (.getfield 107, 3) := by decide +kernel
theorem dX5_index_29 : decode cX5_index 29 = .ok (.iload_n 1, 1) := by decide +kernel
theorem dX5_index_30 : decode cX5_index 30 = .ok (.laload, 1) := by decide +kernel
theorem dX5_index_31 : decode cX5_index 31 = .ok (.iload_n 2, 1) := by decide +kernel
theorem dX5_index_32 : decode cX5_index 32 = .ok (.invokevirtual 226, 3) := by decide +kernel
theorem dX5_index_35 : decode cX5_index 35 = .ok (.lreturn, 1) := by decide +kernel
set_option maxRecDepth 20000 in
theorem ggX5_off_X5_solves : GoodIn wsX5_off wsX5_solves := goodIn_r _ [7, 8, 9, 10, 11, 12, 13, 2, 14, 15, 16, 17, 18, 19, 20, 21, 6, 22, 23, 24, 25, 26, 27, 28, 29, 30, 31, 32, 33, 34, 35, 36, 37, 38, 39, 40, 41, 42, 43, 44, 45, 46, 47, 48, 49, 50, 51, 52, 53, 54, 55, 74, 75, 76, 77, 78, 79, 80, 81, 82, 83, 84, 85, 86, 87, 88, 89, 90, 91, 92, 93, 94, 95, 96, 97, 98, 99, 100, 101, 102, 103, 104] (by decide +kernel) (by decide +kernel)
set_option maxRecDepth 20000 in
theorem gX5_off_X5_solves : GoodIn wsX5_off (wsV RX5 223 RX5 yX5_solves wsX5_solves) := goodIn_app (goodIn_of _ (by decide +kernel)) ggX5_off_X5_solves
set_option maxRecDepth 20000 in
theorem ggX5_off_X5_isIn : GoodIn wsX5_off wsX5_isIn := goodIn_r _ [58] (by decide +kernel) (by decide +kernel)
set_option maxRecDepth 20000 in
theorem gX5_off_X5_isIn : GoodIn wsX5_off (va_wsS RX5 113 yX5_isIn wsX5_isIn) := goodIn_app (goodIn_of _ (by decide +kernel)) ggX5_off_X5_isIn
set_option maxRecDepth 20000 in
theorem ggX5_off_X5_refuse : GoodIn wsX5_off wsX5_refuse := goodIn_r _ [62, 1, 74, 75, 76, 77, 78, 79, 80, 81, 82, 83, 84, 85, 86, 87, 88, 89, 90, 91, 92, 93, 94, 95, 96, 97, 98, 99, 100, 101, 102, 103, 104] (by decide +kernel) (by decide +kernel)
set_option maxRecDepth 20000 in
theorem gX5_off_X5_refuse : GoodIn wsX5_off (wsV RX5 220 RX5 yX5_refuse wsX5_refuse) := goodIn_app (goodIn_of _ (by decide +kernel)) ggX5_off_X5_refuse
set_option maxRecDepth 20000 in
theorem ggX5_off_X5_offOf : GoodIn wsX5_off wsX5_offOf := goodIn_r _ [66, 17, 55, 18, 15, 14, 74, 75, 76, 77, 78, 79, 80, 81, 82, 83, 84, 85, 86, 87, 88, 89, 90, 91, 92, 93, 94, 95, 96, 97, 98, 99, 100, 101, 102, 103, 104] (by decide +kernel) (by decide +kernel)
set_option maxRecDepth 20000 in
theorem gX5_off_X5_offOf : GoodIn wsX5_off (wsV RX5 230 RX5 yX5_offOf wsX5_offOf) := goodIn_app (goodIn_of _ (by decide +kernel)) ggX5_off_X5_offOf
set_option maxRecDepth 20000 in
theorem ggX5_off_X5_lowest : GoodIn wsX5_off wsX5_lowest := goodIn_r _ [70, 55, 71, 72, 6, 73, 74, 75, 76, 77, 78, 79, 80, 81, 82, 83, 84, 85, 86, 87, 88, 89, 90, 91, 92, 93, 94, 95, 96, 97, 98, 99, 100, 101, 102, 103, 104] (by decide +kernel) (by decide +kernel)
set_option maxRecDepth 20000 in
theorem gX5_off_X5_lowest : GoodIn wsX5_off (wsV RX5 226 RX5 yX5_lowest wsX5_lowest) := goodIn_app (goodIn_of _ (by decide +kernel)) ggX5_off_X5_lowest
theorem dX5_off_0 : decode cX5_off 0 = .ok (.aload_n 0, 1) := by decide +kernel
theorem dX5_off_1 : decode cX5_off 1 = .ok (.iconst 0, 1) := by decide +kernel
theorem dX5_off_2 : decode cX5_off 2 = .ok (.putfield 1, 3) := by decide +kernel
theorem dX5_off_5 : decode cX5_off 5 = .ok (.aload_n 0, 1) := by decide +kernel
theorem dX5_off_6 : decode cX5_off 6 = .ok (.iconst (-1), 1) := by decide +kernel
theorem dX5_off_7 : decode cX5_off 7 = .ok (.invokevirtual 223, 3) := by decide +kernel
theorem dX5_off_10 : decode cX5_off 10 = .ok (.iload_n 1, 1) := by decide +kernel
theorem dX5_off_11 : decode cX5_off 11 = .ok (.iconst 0, 1) := by decide +kernel
theorem dX5_off_12 : decode cX5_off 12 = .ok (.aload_n 0, 1) := by decide +kernel
theorem dX5_off_13 : decode cX5_off 13 = .ok (.getfield 175, 3) := by decide +kernel
theorem dX5_off_16 : decode cX5_off 16 = .ok (.iconst 1, 1) := by decide +kernel
theorem dX5_off_17 : decode cX5_off 17 = .ok (.isub, 1) := by decide +kernel
theorem dX5_off_18 : decode cX5_off 18 = .ok (.invokestatic 113, 3) := by decide +kernel
theorem dX5_off_21 : decode cX5_off 21 = .ok (.ifCond .ne 9, 3) := by decide +kernel
theorem dX5_off_24 : decode cX5_off 24 = .ok (.aload_n 0, 1) := by decide +kernel
theorem dX5_off_25 : decode cX5_off 25 = .ok (.invokevirtual 220, 3) := by decide +kernel
theorem dX5_off_28 : decode cX5_off 28 = .ok (.i2l, 1) := by decide +kernel
theorem dX5_off_29 : decode cX5_off 29 = .ok (.lreturn, 1) := by decide +kernel
theorem dX5_off_30 : decode cX5_off 30 = .ok (.aload_n 0, 1) := by decide +kernel
theorem dX5_off_31 : decode cX5_off 31 = .ok (.aload_n 0, 1) := by decide +kernel
theorem dX5_off_32 : decode cX5_off 32 = .ok (.iload_n 1, 1) := by decide +kernel
theorem dX5_off_33 : decode cX5_off 33 = .ok (.invokevirtual 230, 3) := by decide +kernel
theorem dX5_off_36 : decode cX5_off 36 = .ok (.iload_n 2, 1) := by decide +kernel
theorem dX5_off_37 : decode cX5_off 37 = .ok (.invokevirtual 226, 3) := by decide +kernel
theorem dX5_off_40 : decode cX5_off 40 = .ok (.lreturn, 1) := by decide +kernel
set_option maxRecDepth 20000 in
theorem ggX5_error_X5_solves : GoodIn wsX5_error wsX5_solves := goodIn_r _ [14, 6, 15, 16, 8, 17, 9, 2, 18, 19, 4, 5, 7, 20, 21, 22, 13, 23, 24, 25, 26, 27, 28, 29, 30, 31, 32, 33, 34, 35, 36, 37, 38, 39, 40, 41, 42, 43, 44, 45, 46, 47, 48, 49, 50, 51, 52, 53, 54, 55, 3, 63, 64, 65, 66, 67, 68, 69, 70, 71, 72, 73, 74, 75, 76, 77, 78, 79, 80, 81, 82, 83, 84, 85, 86, 87, 88, 89, 90, 91, 92, 93] (by decide +kernel) (by decide +kernel)
set_option maxRecDepth 20000 in
theorem gX5_error_X5_solves : GoodIn wsX5_error (wsV RX5 223 RX5 yX5_solves wsX5_solves) := goodIn_app (goodIn_of _ (by decide +kernel)) ggX5_error_X5_solves
set_option maxRecDepth 20000 in
theorem ggX5_error_X5_lowest : GoodIn wsX5_error wsX5_lowest := goodIn_r _ [59, 3, 60, 61, 13, 62, 63, 64, 65, 66, 67, 68, 69, 70, 71, 72, 73, 74, 75, 76, 77, 78, 79, 80, 81, 82, 83, 84, 85, 86, 87, 88, 89, 90, 91, 92, 93] (by decide +kernel) (by decide +kernel)
set_option maxRecDepth 20000 in
theorem gX5_error_X5_lowest : GoodIn wsX5_error (wsV RX5 226 RX5 yX5_lowest wsX5_lowest) := goodIn_app (goodIn_of _ (by decide +kernel)) ggX5_error_X5_lowest
theorem dX5_error_0 : decode cX5_error 0 = .ok (.aload_n 0, 1) := by decide +kernel
theorem dX5_error_1 : decode cX5_error 1 = .ok (.iconst 0, 1) := by decide +kernel
theorem dX5_error_2 : decode cX5_error 2 = .ok (.putfield 1, 3) := by decide +kernel
theorem dX5_error_5 : decode cX5_error 5 = .ok (.aload_n 0, 1) := by decide +kernel
theorem dX5_error_6 : decode cX5_error 6 = .ok (.iconst (-1), 1) := by decide +kernel
theorem dX5_error_7 : decode cX5_error 7 = .ok (.invokevirtual 223, 3) := by decide +kernel
theorem dX5_error_10 : decode cX5_error 10 = .ok (.lconst 0, 1) := by decide +kernel
theorem dX5_error_11 : decode cX5_error 11 = .ok (.lstore_n 2, 1) := by decide +kernel
theorem dX5_error_12 : decode cX5_error 12 = .ok (.iconst 0, 1) := by decide +kernel
theorem dX5_error_13 : decode cX5_error 13 = .ok (.istore 4, 2) := by decide +kernel
theorem dX5_error_15 : decode cX5_error 15 = .ok (.iload 4, 2) := by decide +kernel
theorem dX5_error_17 : decode cX5_error 17 = .ok (.aload_n 0, 1) := by decide +kernel
theorem dX5_error_18 : decode cX5_error 18 = .ok (.getfield 175, 3) := by decide +kernel
theorem dX5_error_21 : decode cX5_error 21 = .ok (.if_icmp .ge 43, 3) := by decide +kernel
theorem dX5_error_24 : decode cX5_error 24 = .ok (.lload_n 2, 1) := by decide +kernel
theorem dX5_error_25 : decode cX5_error 25 = .ok (.aload_n 0, 1) := by decide +kernel
theorem dX5_error_26 : decode cX5_error 26 = .ok (.getfield 203, 3) := by decide +kernel
theorem dX5_error_29 : decode cX5_error 29 = .ok (.aload_n 0, 1) := by decide +kernel
theorem dX5_error_30 : decode cX5_error 30 = .ok (.getfield 91, 3) := by decide +kernel
theorem dX5_error_33 : decode cX5_error 33 = .ok (.iload 4, 2) := by decide +kernel
theorem dX5_error_35 : decode cX5_error 35 = .ok (.iaload, 1) := by decide +kernel
theorem dX5_error_36 : decode cX5_error 36 = .ok (.i2l, 1) := by decide +kernel
theorem dX5_error_37 : decode cX5_error 37 = .ok (.lmul, 1) := by decide +kernel
theorem dX5_error_38 : decode cX5_error 38 = .ok (.aload_n 0, 1) := by decide +kernel
theorem dX5_error_39 : decode cX5_error 39 = .ok (.getfield 88, 3) := by decide +kernel
theorem dX5_error_42 : decode cX5_error 42 = .ok (.iload 4, 2) := by decide +kernel
theorem dX5_error_44 : decode cX5_error 44 = .ok (.iaload, 1) := by decide +kernel
theorem dX5_error_45 : decode cX5_error 45 = .ok (.i2l, 1) := by decide +kernel
theorem dX5_error_46 : decode cX5_error 46 = .ok (.lmul, 1) := by decide +kernel
theorem dX5_error_47 : decode cX5_error 47 = .ok (.aload_n 0, 1) := by decide +kernel
theorem dX5_error_48 : decode cX5_error 48 = .ok (.getfield 88, 3) := by decide +kernel
theorem dX5_error_51 : decode cX5_error 51 = .ok (.iload 4, 2) := by decide +kernel
theorem dX5_error_53 : decode cX5_error 53 = .ok (.iaload, 1) := by decide +kernel
theorem dX5_error_54 : decode cX5_error 54 = .ok (.i2l, 1) := by decide +kernel
theorem dX5_error_55 : decode cX5_error 55 = .ok (.lmul, 1) := by decide +kernel
theorem dX5_error_56 : decode cX5_error 56 = .ok (.ladd, 1) := by decide +kernel
theorem dX5_error_57 : decode cX5_error 57 = .ok (.lstore_n 2, 1) := by decide +kernel
theorem dX5_error_58 : decode cX5_error 58 = .ok (.iinc 4 1, 3) := by decide +kernel
theorem dX5_error_61 : decode cX5_error 61 = .ok (.goto (-46), 3) := by decide +kernel
theorem dX5_error_64 : decode cX5_error 64 = .ok (.iconst 0, 1) := by decide +kernel
theorem dX5_error_65 : decode cX5_error 65 = .ok (.istore 4, 2) := by decide +kernel
theorem dX5_error_67 : decode cX5_error 67 = .ok (.iload 4, 2) := by decide +kernel
theorem dX5_error_69 : decode cX5_error 69 = .ok (.aload_n 0, 1) := by decide +kernel
theorem dX5_error_70 : decode cX5_error 70 = .ok (.getfield 184, 3) := by decide +kernel
theorem dX5_error_73 : decode cX5_error 73 = .ok (.if_icmp .ge 32, 3) := by decide +kernel
theorem dX5_error_76 : decode cX5_error 76 = .ok (.lload_n 2, 1) := by decide +kernel
theorem dX5_error_77 : decode cX5_error 77 = .ok (.aload_n 0, 1) := by decide +kernel
theorem dX5_error_78 : decode cX5_error 78 = .ok (.getfield 107, 3) := by decide +kernel
theorem dX5_error_81 : decode cX5_error 81 = .ok (.aload_n 0, 1) := by decide +kernel
theorem dX5_error_82 : decode cX5_error 82 = .ok (.getfield 97, 3) := by decide +kernel
theorem dX5_error_85 : decode cX5_error 85 = .ok (.iload 4, 2) := by decide +kernel
theorem dX5_error_87 : decode cX5_error 87 = .ok (.iaload, 1) := by decide +kernel
theorem dX5_error_88 : decode cX5_error 88 = .ok (.laload, 1) := by decide +kernel
theorem dX5_error_89 : decode cX5_error 89 = .ok (.aload_n 0, 1) := by decide +kernel
theorem dX5_error_90 : decode cX5_error 90 = .ok (.getfield 104, 3) := by decide +kernel
theorem dX5_error_93 : decode cX5_error 93 = .ok (.iload 4, 2) := by decide +kernel
theorem dX5_error_95 : decode cX5_error 95 = .ok (.laload, 1) := by decide +kernel
theorem dX5_error_96 : decode cX5_error 96 = .ok (.lmul, 1) := by decide +kernel
theorem dX5_error_97 : decode cX5_error 97 = .ok (.lsub, 1) := by decide +kernel
theorem dX5_error_98 : decode cX5_error 98 = .ok (.lstore_n 2, 1) := by decide +kernel
theorem dX5_error_99 : decode cX5_error 99 = .ok (.iinc 4 1, 3) := by decide +kernel
theorem dX5_error_102 : decode cX5_error 102 = .ok (.goto (-35), 3) := by decide +kernel
theorem dX5_error_105 : decode cX5_error 105 = .ok (.aload_n 0, 1) := by decide +kernel
theorem dX5_error_106 : decode cX5_error 106 = .ok (.lload_n 2, 1) := by decide +kernel
theorem dX5_error_107 : decode cX5_error 107 = .ok (.iload_n 1, 1) := by decide +kernel
theorem dX5_error_108 : decode cX5_error 108 = .ok (.invokevirtual 226, 3) := by decide +kernel
theorem dX5_error_111 : decode cX5_error 111 = .ok (.lreturn, 1) := by decide +kernel
set_option maxRecDepth 20000 in
theorem ggX5_worst_X5_solves : GoodIn wsX5_worst wsX5_solves := goodIn_r _ [8, 9, 10, 11, 12, 13, 14, 3, 15, 16, 17, 18, 19, 20, 21, 22, 7, 23, 24, 25, 26, 27, 28, 29, 30, 31, 32, 33, 34, 35, 36, 37, 38, 39, 40, 41, 42, 43, 44, 45, 46, 47, 48, 49, 50, 51, 52, 53, 54, 55, 56, 61, 62, 63, 64, 65, 66, 67, 68, 69, 70, 71, 72, 73, 74, 75, 76, 77, 78, 79, 80, 81, 82, 83, 84, 85, 86, 87, 88, 89, 90, 91] (by decide +kernel) (by decide +kernel)
set_option maxRecDepth 20000 in
theorem gX5_worst_X5_solves : GoodIn wsX5_worst (wsV RX5 223 RX5 yX5_solves wsX5_solves) := goodIn_app (goodIn_of _ (by decide +kernel)) ggX5_worst_X5_solves
set_option maxRecDepth 20000 in
theorem ggX5_worst_X5_offOf : GoodIn wsX5_worst wsX5_offOf := goodIn_r _ [60, 18, 56, 19, 16, 15, 61, 62, 63, 64, 65, 66, 67, 68, 69, 70, 71, 72, 73, 74, 75, 76, 77, 78, 79, 80, 81, 82, 83, 84, 85, 86, 87, 88, 89, 90, 91] (by decide +kernel) (by decide +kernel)
set_option maxRecDepth 20000 in
theorem gX5_worst_X5_offOf : GoodIn wsX5_worst (wsV RX5 230 RX5 yX5_offOf wsX5_offOf) := goodIn_app (goodIn_of _ (by decide +kernel)) ggX5_worst_X5_offOf
theorem dX5_worst_0 : decode cX5_worst 0 = .ok (.aload_n 0, 1) := by decide +kernel
theorem dX5_worst_1 : decode cX5_worst 1 = .ok (.iconst 0, 1) := by decide +kernel
theorem dX5_worst_2 : decode cX5_worst 2 = .ok (.putfield 1, 3) := by decide +kernel
theorem dX5_worst_5 : decode cX5_worst 5 = .ok (.aload_n 0, 1) := by decide +kernel
theorem dX5_worst_6 : decode cX5_worst 6 = .ok (.iconst (-1), 1) := by decide +kernel
theorem dX5_worst_7 : decode cX5_worst 7 = .ok (.invokevirtual 223, 3) := by decide +kernel
theorem dX5_worst_10 : decode cX5_worst 10 = .ok (.iconst (-1), 1) := by decide +kernel
theorem dX5_worst_11 : decode cX5_worst 11 = .ok (.istore_n 1, 1) := by decide +kernel
theorem dX5_worst_12 : decode cX5_worst 12 = .ok (.ldc2_w 234, 3) := by decide +kernel
theorem dX5_worst_15 : decode cX5_worst 15 = .ok (.lstore_n 2, 1) := by decide +kernel
theorem dX5_worst_16 : decode cX5_worst 16 = .ok (.iconst 0, 1) := by decide +kernel
theorem dX5_worst_17 : decode cX5_worst 17 = .ok (.istore 4, 2) := by decide +kernel
theorem dX5_worst_19 : decode cX5_worst 19 = .ok (.iload 4, 2) := by decide +kernel
theorem dX5_worst_21 : decode cX5_worst 21 = .ok (.aload_n 0, 1) := by decide +kernel
theorem dX5_worst_22 : decode cX5_worst 22 = .ok (.getfield 175, 3) := by decide +kernel
theorem dX5_worst_25 : decode cX5_worst 25 = .ok (.if_icmp .ge 54, 3) := by decide +kernel
theorem dX5_worst_28 : decode cX5_worst 28 = .ok (.aload_n 0, 1) := by decide +kernel
theorem dX5_worst_29 : decode cX5_worst 29 = .ok (.iload 4, 2) := by decide +kernel
theorem dX5_worst_31 : decode cX5_worst 31 = .ok (.invokevirtual 230, 3) := by decide +kernel
theorem dX5_worst_34 : decode cX5_worst 34 = .ok (.lconst 0, 1) := by decide +kernel
theorem dX5_worst_35 : decode cX5_worst 35 = .ok (.lcmp, 1) := by decide +kernel
theorem dX5_worst_36 : decode cX5_worst 36 = .ok (.ifCond .ge 13, 3) := by decide +kernel
theorem dX5_worst_39 : decode cX5_worst 39 = .ok (.aload_n 0, 1) := by decide +kernel
theorem dX5_worst_40 : decode cX5_worst 40 = .ok (.iload 4, 2) := by decide +kernel
theorem dX5_worst_42 : decode cX5_worst 42 = .ok (.invokevirtual 230, 3) := by decide +kernel
theorem dX5_worst_45 : decode cX5_worst 45 = .ok (.lneg, 1) := by decide +kernel
theorem dX5_worst_46 : decode cX5_worst 46 = .ok (.goto 9, 3) := by decide +kernel
theorem dX5_worst_49 : decode cX5_worst 49 = .ok (.aload_n 0, 1) := by decide +kernel
theorem dX5_worst_50 : decode cX5_worst 50 = .ok (.iload 4, 2) := by decide +kernel
theorem dX5_worst_52 : decode cX5_worst 52 = .ok (.invokevirtual 230, 3) := by decide +kernel
theorem dX5_worst_55 : decode cX5_worst 55 = .ok (.lstore 5, 2) := by decide +kernel
theorem dX5_worst_57 : decode cX5_worst 57 = .ok (.lload 5, 2) := by decide +kernel
theorem dX5_worst_59 : decode cX5_worst 59 = .ok (.lload_n 2, 1) := by decide +kernel
theorem dX5_worst_60 : decode cX5_worst 60 = .ok (.lcmp, 1) := by decide +kernel
theorem dX5_worst_61 : decode cX5_worst 61 = .ok (.ifCond .gt 6, 3) := by decide +kernel
theorem dX5_worst_64 : decode cX5_worst 64 = .ok (.goto 9, 3) := by decide +kernel
theorem dX5_worst_67 : decode cX5_worst 67 = .ok (.lload 5, 2) := by decide +kernel
theorem dX5_worst_69 : decode cX5_worst 69 = .ok (.lstore_n 2, 1) := by decide +kernel
theorem dX5_worst_70 : decode cX5_worst 70 = .ok (.iload 4, 2) := by decide +kernel
theorem dX5_worst_72 : decode cX5_worst 72 = .ok (.istore_n 1, 1) := by decide +kernel
theorem dX5_worst_73 : decode cX5_worst 73 = .ok (.iinc 4 1, 3) := by decide +kernel
theorem dX5_worst_76 : decode cX5_worst 76 = .ok (.goto (-57), 3) := by decide +kernel
theorem dX5_worst_79 : decode cX5_worst 79 = .ok (.iload_n 1, 1) := by decide +kernel
theorem dX5_worst_80 : decode cX5_worst 80 = .ok (.ireturn, 1) := by decide +kernel
set_option maxRecDepth 20000 in
theorem ggX5_without_X5_isHome : GoodIn wsX5_without wsX5_isHome := goodIn_r _ [7, 8, 9, 10, 6, 11, 78, 79, 80, 81, 82, 83, 84, 85, 86, 87, 88, 89, 90, 91, 92, 93, 94, 95, 96, 97, 98, 99, 100, 101, 102, 103, 104, 105, 106, 107, 108] (by decide +kernel) (by decide +kernel)
set_option maxRecDepth 20000 in
theorem gX5_without_X5_isHome : GoodIn wsX5_without (wsV RX5 214 RX5 yX5_isHome wsX5_isHome) := goodIn_app (goodIn_of _ (by decide +kernel)) ggX5_without_X5_isHome
set_option maxRecDepth 20000 in
theorem ggX5_without_X5_isMonth : GoodIn wsX5_without wsX5_isMonth := goodIn_r _ [15, 8, 9, 10, 6, 11, 78, 79, 80, 81, 82, 83, 84, 85, 86, 87, 88, 89, 90, 91, 92, 93, 94, 95, 96, 97, 98, 99, 100, 101, 102, 103, 104, 105, 106, 107, 108] (by decide +kernel) (by decide +kernel)
set_option maxRecDepth 20000 in
theorem gX5_without_X5_isMonth : GoodIn wsX5_without (wsV RX5 217 RX5 yX5_isMonth wsX5_isMonth) := goodIn_app (goodIn_of _ (by decide +kernel)) ggX5_without_X5_isMonth
set_option maxRecDepth 20000 in
theorem ggX5_without_X5_refuse : GoodIn wsX5_without wsX5_refuse := goodIn_r _ [19, 1, 78, 79, 80, 81, 82, 83, 84, 85, 86, 87, 88, 89, 90, 91, 92, 93, 94, 95, 96, 97, 98, 99, 100, 101, 102, 103, 104, 105, 106, 107, 108] (by decide +kernel) (by decide +kernel)
set_option maxRecDepth 20000 in
theorem gX5_without_X5_refuse : GoodIn wsX5_without (wsV RX5 220 RX5 yX5_refuse wsX5_refuse) := goodIn_app (goodIn_of _ (by decide +kernel)) ggX5_without_X5_refuse
set_option maxRecDepth 20000 in
theorem ggX5_without_X5_solves : GoodIn wsX5_without wsX5_solves := goodIn_r _ [23, 24, 8, 25, 26, 27, 28, 29, 30, 31, 32, 33, 2, 34, 35, 36, 6, 37, 38, 39, 40, 41, 42, 43, 44, 45, 46, 47, 48, 49, 50, 51, 52, 53, 54, 55, 56, 57, 58, 59, 60, 61, 62, 63, 64, 65, 66, 67, 68, 69, 70, 78, 79, 80, 81, 82, 83, 84, 85, 86, 87, 88, 89, 90, 91, 92, 93, 94, 95, 96, 97, 98, 99, 100, 101, 102, 103, 104, 105, 106, 107, 108] (by decide +kernel) (by decide +kernel)
set_option maxRecDepth 20000 in
theorem gX5_without_X5_solves : GoodIn wsX5_without (wsV RX5 223 RX5 yX5_solves wsX5_solves) := goodIn_app (goodIn_of _ (by decide +kernel)) ggX5_without_X5_solves
set_option maxRecDepth 20000 in
theorem ggX5_without_X5_lowest : GoodIn wsX5_without wsX5_lowest := goodIn_r _ [74, 70, 75, 76, 6, 77, 78, 79, 80, 81, 82, 83, 84, 85, 86, 87, 88, 89, 90, 91, 92, 93, 94, 95, 96, 97, 98, 99, 100, 101, 102, 103, 104, 105, 106, 107, 108] (by decide +kernel) (by decide +kernel)
set_option maxRecDepth 20000 in
theorem gX5_without_X5_lowest : GoodIn wsX5_without (wsV RX5 226 RX5 yX5_lowest wsX5_lowest) := goodIn_app (goodIn_of _ (by decide +kernel)) ggX5_without_X5_lowest
theorem dX5_without_0 : decode cX5_without 0 = .ok (.aload_n 0, 1) := by decide +kernel
theorem dX5_without_1 : decode cX5_without 1 = .ok (.iconst 0, 1) := by decide +kernel
theorem dX5_without_2 : decode cX5_without 2 = .ok (.putfield 1, 3) := by decide +kernel
theorem dX5_without_5 : decode cX5_without 5 = .ok (.aload_n 0, 1) := by decide +kernel
theorem dX5_without_6 : decode cX5_without 6 = .ok (.iload_n 1, 1) := by decide +kernel
theorem dX5_without_7 : decode cX5_without 7 = .ok (.invokevirtual 214, 3) := by decide +kernel
theorem dX5_without_10 : decode cX5_without 10 = .ok (.ifCond .eq 11, 3) := by decide +kernel
theorem dX5_without_13 : decode cX5_without 13 = .ok (.aload_n 0, 1) := by decide +kernel
theorem dX5_without_14 : decode cX5_without 14 = .ok (.iload_n 2, 1) := by decide +kernel
theorem dX5_without_15 : decode cX5_without 15 = .ok (.invokevirtual 217, 3) := by decide +kernel
theorem dX5_without_18 : decode cX5_without 18 = .ok (.ifCond .ne 9, 3) := by decide +kernel
theorem dX5_without_21 : decode cX5_without 21 = .ok (.aload_n 0, 1) := by decide +kernel
theorem dX5_without_22 : decode cX5_without 22 = .ok (.invokevirtual 220, 3) := by decide +kernel
theorem dX5_without_25 : decode cX5_without 25 = .ok (.i2l, 1) := by decide +kernel
theorem dX5_without_26 : decode cX5_without 26 = .ok (.lreturn, 1) := by decide +kernel
theorem dX5_without_27 : decode cX5_without 27 = .ok (.aload_n 0, 1) := by decide +kernel
theorem dX5_without_28 : decode cX5_without 28 = .ok (.iload_n 1, 1) := by decide +kernel
theorem dX5_without_29 : decode cX5_without 29 = .ok (.invokevirtual 223, 3) := by decide +kernel
theorem dX5_without_32 : decode cX5_without 32 = .ok (.aload_n 0, 1) := by decide +kernel
theorem dX5_without_33 : decode cX5_without 33 = .ok (.aload_n 0, 1) := by decide +kernel
theorem dX5_without_34 : decode cX5_without 34 = .ok (.getfield 107, 3) := by decide +kernel
theorem dX5_without_37 : decode cX5_without 37 = .ok (.iload_n 2, 1) := by decide +kernel
theorem dX5_without_38 : decode cX5_without 38 = .ok (.laload, 1) := by decide +kernel
theorem dX5_without_39 : decode cX5_without 39 = .ok (.iload_n 3, 1) := by decide +kernel
theorem dX5_without_40 : decode cX5_without 40 = .ok (.invokevirtual 226, 3) := by decide +kernel
theorem dX5_without_43 : decode cX5_without 43 = .ok (.lreturn, 1) := by decide +kernel
set_option maxRecDepth 20000 in
theorem ggX5_canSell_X5_isHome : GoodIn wsX5_canSell wsX5_isHome := goodIn_r _ [5, 6, 7, 8, 4, 9, 21, 22, 23, 24, 25, 26, 27, 28, 29, 30, 31, 32, 33, 34, 35, 36, 37, 38, 39, 40, 41, 42, 43, 44, 45, 46, 47, 48, 49, 50, 51] (by decide +kernel) (by decide +kernel)
set_option maxRecDepth 20000 in
theorem gX5_canSell_X5_isHome : GoodIn wsX5_canSell (wsV RX5 214 RX5 yX5_isHome wsX5_isHome) := goodIn_app (goodIn_of _ (by decide +kernel)) ggX5_canSell_X5_isHome
set_option maxRecDepth 20000 in
theorem ggX5_canSell_X5_isMonth : GoodIn wsX5_canSell wsX5_isMonth := goodIn_r _ [13, 6, 7, 8, 4, 9, 21, 22, 23, 24, 25, 26, 27, 28, 29, 30, 31, 32, 33, 34, 35, 36, 37, 38, 39, 40, 41, 42, 43, 44, 45, 46, 47, 48, 49, 50, 51] (by decide +kernel) (by decide +kernel)
set_option maxRecDepth 20000 in
theorem gX5_canSell_X5_isMonth : GoodIn wsX5_canSell (wsV RX5 217 RX5 yX5_isMonth wsX5_isMonth) := goodIn_app (goodIn_of _ (by decide +kernel)) ggX5_canSell_X5_isMonth
set_option maxRecDepth 20000 in
theorem ggX5_canSell_X5_isSold : GoodIn wsX5_canSell wsX5_isSold := goodIn_r _ [17, 6, 18, 19, 4, 20, 21, 22, 23, 24, 25, 26, 27, 28, 29, 30, 31, 32, 33, 34, 35, 36, 37, 38, 39, 40, 41, 42, 43, 44, 45, 46, 47, 48, 49, 50, 51] (by decide +kernel) (by decide +kernel)
set_option maxRecDepth 20000 in
theorem gX5_canSell_X5_isSold : GoodIn wsX5_canSell (wsV RX5 169 RX5 yX5_isSold wsX5_isSold) := goodIn_app (goodIn_of _ (by decide +kernel)) ggX5_canSell_X5_isSold
set_option maxRecDepth 20000 in
theorem ggX5_canSell_X5_isIn : GoodIn wsX5_canSell wsX5_isIn := goodIn_r _ [9] (by decide +kernel) (by decide +kernel)
set_option maxRecDepth 20000 in
theorem gX5_canSell_X5_isIn : GoodIn wsX5_canSell (va_wsS RX5 113 yX5_isIn wsX5_isIn) := goodIn_app (goodIn_of _ (by decide +kernel)) ggX5_canSell_X5_isIn
theorem dX5_canSell_0 : decode cX5_canSell 0 = .ok (.aload_n 0, 1) := by decide +kernel
theorem dX5_canSell_1 : decode cX5_canSell 1 = .ok (.iload_n 1, 1) := by decide +kernel
theorem dX5_canSell_2 : decode cX5_canSell 2 = .ok (.invokevirtual 214, 3) := by decide +kernel
theorem dX5_canSell_5 : decode cX5_canSell 5 = .ok (.ifCond .eq 35, 3) := by decide +kernel
theorem dX5_canSell_8 : decode cX5_canSell 8 = .ok (.aload_n 0, 1) := by decide +kernel
theorem dX5_canSell_9 : decode cX5_canSell 9 = .ok (.iload_n 2, 1) := by decide +kernel
theorem dX5_canSell_10 : decode cX5_canSell 10 = .ok (.invokevirtual 217, 3) := by decide +kernel
theorem dX5_canSell_13 : decode cX5_canSell 13 = .ok (.ifCond .eq 27, 3) := by decide +kernel
theorem dX5_canSell_16 : decode cX5_canSell 16 = .ok (.aload_n 0, 1) := by decide +kernel
theorem dX5_canSell_17 : decode cX5_canSell 17 = .ok (.iload_n 1, 1) := by decide +kernel
theorem dX5_canSell_18 : decode cX5_canSell 18 = .ok (.iload_n 2, 1) := by decide +kernel
theorem dX5_canSell_19 : decode cX5_canSell 19 = .ok (.invokevirtual 169, 3) := by decide +kernel
theorem dX5_canSell_22 : decode cX5_canSell 22 = .ok (.ifCond .ne 18, 3) := by decide +kernel
theorem dX5_canSell_25 : decode cX5_canSell 25 = .ok (.iload_n 3, 1) := by decide +kernel
theorem dX5_canSell_26 : decode cX5_canSell 26 = .ok (.iconst 0, 1) := by decide +kernel
theorem dX5_canSell_27 : decode cX5_canSell 27 = .ok (.sipush 999, 3) := by decide +kernel
theorem dX5_canSell_30 : decode cX5_canSell 30 = .ok (.invokestatic 113, 3) := by decide +kernel
theorem dX5_canSell_33 : decode cX5_canSell 33 = .ok (.ifCond .eq 7, 3) := by decide +kernel
theorem dX5_canSell_36 : decode cX5_canSell 36 = .ok (.iconst 1, 1) := by decide +kernel
theorem dX5_canSell_37 : decode cX5_canSell 37 = .ok (.goto 4, 3) := by decide +kernel
theorem dX5_canSell_40 : decode cX5_canSell 40 = .ok (.iconst 0, 1) := by decide +kernel
theorem dX5_canSell_41 : decode cX5_canSell 41 = .ok (.ireturn, 1) := by decide +kernel
set_option maxRecDepth 20000 in
theorem ggX5_revised_X5_isMonth : GoodIn wsX5_revised wsX5_isMonth := goodIn_r _ [8, 2, 9, 10, 7, 11, 82, 83, 84, 85, 86, 87, 88, 89, 90, 91, 92, 93, 94, 95, 96, 97, 98, 99, 100, 101, 102, 103, 104, 105, 106, 107, 108, 109, 110, 111, 112] (by decide +kernel) (by decide +kernel)
set_option maxRecDepth 20000 in
theorem gX5_revised_X5_isMonth : GoodIn wsX5_revised (wsV RX5 217 RX5 yX5_isMonth wsX5_isMonth) := goodIn_app (goodIn_of _ (by decide +kernel)) ggX5_revised_X5_isMonth
set_option maxRecDepth 20000 in
theorem ggX5_revised_X5_canSell : GoodIn wsX5_revised wsX5_canSell := goodIn_r _ [15, 16, 17, 18, 7, 19, 2, 9, 10, 11, 4, 5, 6, 8, 20, 21, 22, 23, 24, 25, 26, 82, 83, 84, 85, 86, 87, 88, 89, 90, 91, 92, 93, 94, 95, 96, 97, 98, 99, 100, 101, 102, 103, 104, 105, 106, 107, 108, 109, 110, 111, 112] (by decide +kernel) (by decide +kernel)
set_option maxRecDepth 20000 in
theorem gX5_revised_X5_canSell : GoodIn wsX5_revised (wsV RX5 236 RX5 yX5_canSell wsX5_canSell) := goodIn_app (goodIn_of _ (by decide +kernel)) ggX5_revised_X5_canSell
set_option maxRecDepth 20000 in
theorem ggX5_revised_X5_refuse : GoodIn wsX5_revised wsX5_refuse := goodIn_r _ [30, 1, 82, 83, 84, 85, 86, 87, 88, 89, 90, 91, 92, 93, 94, 95, 96, 97, 98, 99, 100, 101, 102, 103, 104, 105, 106, 107, 108, 109, 110, 111, 112] (by decide +kernel) (by decide +kernel)
set_option maxRecDepth 20000 in
theorem gX5_revised_X5_refuse : GoodIn wsX5_revised (wsV RX5 220 RX5 yX5_refuse wsX5_refuse) := goodIn_app (goodIn_of _ (by decide +kernel)) ggX5_revised_X5_refuse
set_option maxRecDepth 20000 in
theorem ggX5_revised_X5_at : GoodIn wsX5_revised wsX5_at := goodIn_r _ [26] (by decide +kernel) (by decide +kernel)
set_option maxRecDepth 20000 in
theorem gX5_revised_X5_at : GoodIn wsX5_revised (va_wsS RX5 165 yX5_at wsX5_at) := goodIn_app (goodIn_of _ (by decide +kernel)) ggX5_revised_X5_at
set_option maxRecDepth 20000 in
theorem ggX5_revised_X5_solves : GoodIn wsX5_revised wsX5_solves := goodIn_r _ [34, 35, 2, 36, 37, 38, 39, 40, 41, 42, 43, 44, 3, 45, 46, 47, 7, 48, 49, 20, 21, 22, 23, 24, 25, 26, 50, 51, 52, 53, 54, 55, 56, 57, 58, 59, 60, 61, 62, 63, 64, 65, 66, 67, 68, 69, 70, 71, 72, 73, 74, 82, 83, 84, 85, 86, 87, 88, 89, 90, 91, 92, 93, 94, 95, 96, 97, 98, 99, 100, 101, 102, 103, 104, 105, 106, 107, 108, 109, 110, 111, 112] (by decide +kernel) (by decide +kernel)
set_option maxRecDepth 20000 in
theorem gX5_revised_X5_solves : GoodIn wsX5_revised (wsV RX5 223 RX5 yX5_solves wsX5_solves) := goodIn_app (goodIn_of _ (by decide +kernel)) ggX5_revised_X5_solves
set_option maxRecDepth 20000 in
theorem ggX5_revised_X5_lowest : GoodIn wsX5_revised wsX5_lowest := goodIn_r _ [78, 74, 79, 80, 7, 81, 82, 83, 84, 85, 86, 87, 88, 89, 90, 91, 92, 93, 94, 95, 96, 97, 98, 99, 100, 101, 102, 103, 104, 105, 106, 107, 108, 109, 110, 111, 112] (by decide +kernel) (by decide +kernel)
set_option maxRecDepth 20000 in
theorem gX5_revised_X5_lowest : GoodIn wsX5_revised (wsV RX5 226 RX5 yX5_lowest wsX5_lowest) := goodIn_app (goodIn_of _ (by decide +kernel)) ggX5_revised_X5_lowest
theorem dX5_revised_0 : decode cX5_revised 0 = .ok (.aload_n 0, 1) := by decide +kernel
theorem dX5_revised_1 : decode cX5_revised 1 = .ok (.iconst 0, 1) := by decide +kernel
theorem dX5_revised_2 : decode cX5_revised 2 = .ok (.putfield 1, 3) := by decide +kernel
theorem dX5_revised_5 : decode cX5_revised 5 = .ok (.aload_n 0, 1) := by decide +kernel
theorem dX5_revised_6 : decode cX5_revised 6 = .ok (.iload 4, 2) := by decide +kernel
theorem dX5_revised_8 : decode cX5_revised 8 = .ok (.invokevirtual 217, 3) := by decide +kernel
theorem dX5_revised_11 : decode cX5_revised 11 = .ok (.ifCond .eq 13, 3) := by decide +kernel
theorem dX5_revised_14 : decode cX5_revised 14 = .ok (.aload_n 0, 1) := by decide +kernel
theorem dX5_revised_15 : decode cX5_revised 15 = .ok (.iload_n 1, 1) := by decide +kernel
theorem dX5_revised_16 : decode cX5_revised 16 = .ok (.iload_n 2, 1) := by decide +kernel
theorem dX5_revised_17 : decode cX5_revised 17 = .ok (.iload_n 3, 1) := by decide +kernel
theorem dX5_revised_18 : decode cX5_revised 18 = .ok (.invokevirtual 236, 3) := by decide +kernel
theorem dX5_revised_21 : decode cX5_revised 21 = .ok (.ifCond .ne 9, 3) := by decide +kernel
theorem dX5_revised_24 : decode cX5_revised 24 = .ok (.aload_n 0, 1) := by decide +kernel
theorem dX5_revised_25 : decode cX5_revised 25 = .ok (.invokevirtual 220, 3) := by decide +kernel
theorem dX5_revised_28 : decode cX5_revised 28 = .ok (.i2l, 1) := by decide +kernel
theorem dX5_revised_29 : decode cX5_revised 29 = .ok (.lreturn, 1) := by decide +kernel
theorem dX5_revised_30 : decode cX5_revised 30 = .ok (.aload_n 0, 1) := by decide +kernel
theorem dX5_revised_31 : decode cX5_revised 31 = .ok (.getfield 70, 3) := by decide +kernel
theorem dX5_revised_34 : decode cX5_revised 34 = .ok (.iload_n 1, 1) := by decide +kernel
theorem dX5_revised_35 : decode cX5_revised 35 = .ok (.iload_n 2, 1) := by decide +kernel
theorem dX5_revised_36 : decode cX5_revised 36 = .ok (.invokestatic 165, 3) := by decide +kernel
theorem dX5_revised_39 : decode cX5_revised 39 = .ok (.iload_n 3, 1) := by decide +kernel
theorem dX5_revised_40 : decode cX5_revised 40 = .ok (.iconst 1, 1) := by decide +kernel
theorem dX5_revised_41 : decode cX5_revised 41 = .ok (.iadd, 1) := by decide +kernel
theorem dX5_revised_42 : decode cX5_revised 42 = .ok (.iastore, 1) := by decide +kernel
theorem dX5_revised_43 : decode cX5_revised 43 = .ok (.aload_n 0, 1) := by decide +kernel
theorem dX5_revised_44 : decode cX5_revised 44 = .ok (.iconst (-1), 1) := by decide +kernel
theorem dX5_revised_45 : decode cX5_revised 45 = .ok (.invokevirtual 223, 3) := by decide +kernel
theorem dX5_revised_48 : decode cX5_revised 48 = .ok (.aload_n 0, 1) := by decide +kernel
theorem dX5_revised_49 : decode cX5_revised 49 = .ok (.getfield 70, 3) := by decide +kernel
theorem dX5_revised_52 : decode cX5_revised 52 = .ok (.iload_n 1, 1) := by decide +kernel
theorem dX5_revised_53 : decode cX5_revised 53 = .ok (.iload_n 2, 1) := by decide +kernel
theorem dX5_revised_54 : decode cX5_revised 54 = .ok (.invokestatic 165, 3) := by decide +kernel
theorem dX5_revised_57 : decode cX5_revised 57 = .ok (.iconst 0, 1) := by decide +kernel
theorem dX5_revised_58 : decode cX5_revised 58 = .ok (.iastore, 1) := by decide +kernel
theorem dX5_revised_59 : decode cX5_revised 59 = .ok (.aload_n 0, 1) := by decide +kernel
theorem dX5_revised_60 : decode cX5_revised 60 = .ok (.aload_n 0, 1) := by decide +kernel
theorem dX5_revised_61 : decode cX5_revised 61 = .ok (.getfield 107, 3) := by decide +kernel
theorem dX5_revised_64 : decode cX5_revised 64 = .ok (.iload 4, 2) := by decide +kernel
theorem dX5_revised_66 : decode cX5_revised 66 = .ok (.laload, 1) := by decide +kernel
theorem dX5_revised_67 : decode cX5_revised 67 = .ok (.iload 5, 2) := by decide +kernel
theorem dX5_revised_69 : decode cX5_revised 69 = .ok (.invokevirtual 226, 3) := by decide +kernel
theorem dX5_revised_72 : decode cX5_revised 72 = .ok (.lreturn, 1) := by decide +kernel
set_option maxRecDepth 20000 in
theorem ggX5_saleFor_X5_isSold : GoodIn wsX5_saleFor wsX5_isSold := goodIn_r _ [5, 6, 7, 8, 4, 9, 10, 11, 12, 13, 14, 15, 16, 17, 18, 19, 20, 21, 22, 23, 24, 25, 26, 27, 28, 29, 30, 31, 32, 33, 34, 35, 36, 37, 38, 39, 40] (by decide +kernel) (by decide +kernel)
set_option maxRecDepth 20000 in
theorem gX5_saleFor_X5_isSold : GoodIn wsX5_saleFor (wsV RX5 169 RX5 yX5_isSold wsX5_isSold) := goodIn_app (goodIn_of _ (by decide +kernel)) ggX5_saleFor_X5_isSold
theorem dX5_saleFor_0 : decode cX5_saleFor 0 = .ok (.iload_n 2, 1) := by decide +kernel
theorem dX5_saleFor_1 : decode cX5_saleFor 1 = .ok (.istore_n 3, 1) := by decide +kernel
theorem dX5_saleFor_2 : decode cX5_saleFor 2 = .ok (.iload_n 3, 1) := by decide +kernel
theorem dX5_saleFor_3 : decode cX5_saleFor 3 = .ok (.ifCond .lt 20, 3) := by decide +kernel
theorem dX5_saleFor_6 : decode cX5_saleFor 6 = .ok (.aload_n 0, 1) := by decide +kernel
theorem dX5_saleFor_7 : decode cX5_saleFor 7 = .ok (.iload_n 1, 1) := by decide +kernel
theorem dX5_saleFor_8 : decode cX5_saleFor 8 = .ok (.iload_n 3, 1) := by decide +kernel
theorem dX5_saleFor_9 : decode cX5_saleFor 9 = .ok (.invokevirtual 169, 3) := by decide +kernel
theorem dX5_saleFor_12 : decode cX5_saleFor 12 = .ok (.ifCond .eq 5, 3) := by decide +kernel
theorem dX5_saleFor_15 : decode cX5_saleFor 15 = .ok (.iload_n 3, 1) := by decide +kernel
theorem dX5_saleFor_16 : decode cX5_saleFor 16 = .ok (.ireturn, 1) := by decide +kernel
theorem dX5_saleFor_17 : decode cX5_saleFor 17 = .ok (.iinc 3 (-1), 3) := by decide +kernel
theorem dX5_saleFor_20 : decode cX5_saleFor 20 = .ok (.goto (-18), 3) := by decide +kernel
theorem dX5_saleFor_23 : decode cX5_saleFor 23 = .ok (.iload_n 2, 1) := by decide +kernel
theorem dX5_saleFor_24 : decode cX5_saleFor 24 = .ok (.istore_n 3, 1) := by decide +kernel
theorem dX5_saleFor_25 : decode cX5_saleFor 25 = .ok (.iload_n 3, 1) := by decide +kernel
theorem dX5_saleFor_26 : decode cX5_saleFor 26 = .ok (.bipush 8, 2) := by decide +kernel
theorem dX5_saleFor_28 : decode cX5_saleFor 28 = .ok (.if_icmp .ge 20, 3) := by decide +kernel
theorem dX5_saleFor_31 : decode cX5_saleFor 31 = .ok (.aload_n 0, 1) := by decide +kernel
theorem dX5_saleFor_32 : decode cX5_saleFor 32 = .ok (.iload_n 1, 1) := by decide +kernel
theorem dX5_saleFor_33 : decode cX5_saleFor 33 = .ok (.iload_n 3, 1) := by decide +kernel
theorem dX5_saleFor_34 : decode cX5_saleFor 34 = .ok (.invokevirtual 169, 3) := by decide +kernel
theorem dX5_saleFor_37 : decode cX5_saleFor 37 = .ok (.ifCond .eq 5, 3) := by decide +kernel
theorem dX5_saleFor_40 : decode cX5_saleFor 40 = .ok (.iload_n 3, 1) := by decide +kernel
theorem dX5_saleFor_41 : decode cX5_saleFor 41 = .ok (.ireturn, 1) := by decide +kernel
theorem dX5_saleFor_42 : decode cX5_saleFor 42 = .ok (.iinc 3 1, 3) := by decide +kernel
theorem dX5_saleFor_45 : decode cX5_saleFor 45 = .ok (.goto (-20), 3) := by decide +kernel
theorem dX5_saleFor_48 : decode cX5_saleFor 48 = .ok (.iconst (-1), 1) := by decide +kernel
theorem dX5_saleFor_49 : decode cX5_saleFor 49 = .ok (.ireturn, 1) := by decide +kernel
set_option maxRecDepth 20000 in
theorem ggX5_worth_X5_isHome : GoodIn wsX5_worth wsX5_isHome := goodIn_r _ [10, 11, 12, 13, 9, 14, 72, 73, 74, 75, 76, 77, 78, 79, 80, 81, 82, 83, 84, 85, 86, 87, 88, 89, 90, 91, 92, 93, 94, 95, 96, 97, 98, 99, 100, 101, 102] (by decide +kernel) (by decide +kernel)
set_option maxRecDepth 20000 in
theorem gX5_worth_X5_isHome : GoodIn wsX5_worth (wsV RX5 214 RX5 yX5_isHome wsX5_isHome) := goodIn_app (goodIn_of _ (by decide +kernel)) ggX5_worth_X5_isHome
set_option maxRecDepth 20000 in
theorem ggX5_worth_X5_isMonth : GoodIn wsX5_worth wsX5_isMonth := goodIn_r _ [18, 11, 12, 13, 9, 14, 72, 73, 74, 75, 76, 77, 78, 79, 80, 81, 82, 83, 84, 85, 86, 87, 88, 89, 90, 91, 92, 93, 94, 95, 96, 97, 98, 99, 100, 101, 102] (by decide +kernel) (by decide +kernel)
set_option maxRecDepth 20000 in
theorem gX5_worth_X5_isMonth : GoodIn wsX5_worth (wsV RX5 217 RX5 yX5_isMonth wsX5_isMonth) := goodIn_app (goodIn_of _ (by decide +kernel)) ggX5_worth_X5_isMonth
set_option maxRecDepth 20000 in
theorem ggX5_worth_X5_saleFor : GoodIn wsX5_worth wsX5_saleFor := goodIn_r _ [22, 23, 24, 25, 9, 26, 11, 27, 28, 29, 72, 73, 74, 75, 76, 77, 78, 79, 80, 81, 82, 83, 84, 85, 86, 87, 88, 89, 90, 91, 92, 93, 94, 95, 96, 97, 98, 99, 100, 101, 102] (by decide +kernel) (by decide +kernel)
set_option maxRecDepth 20000 in
theorem gX5_worth_X5_saleFor : GoodIn wsX5_worth (wsV RX5 240 RX5 yX5_saleFor wsX5_saleFor) := goodIn_app (goodIn_of _ (by decide +kernel)) ggX5_worth_X5_saleFor
set_option maxRecDepth 20000 in
theorem ggX5_worth_X5_solves : GoodIn wsX5_worth wsX5_solves := goodIn_r _ [33, 34, 11, 3, 35, 36, 37, 38, 39, 40, 41, 42, 4, 43, 44, 45, 9, 46, 47, 23, 24, 25, 26, 27, 28, 29, 48, 49, 50, 51, 52, 53, 54, 55, 56, 57, 58, 59, 60, 61, 62, 63, 64, 65, 66, 67, 68, 69, 70, 71, 5, 72, 73, 74, 75, 76, 77, 78, 79, 80, 81, 82, 83, 84, 85, 86, 87, 88, 89, 90, 91, 92, 93, 94, 95, 96, 97, 98, 99, 100, 101, 102] (by decide +kernel) (by decide +kernel)
set_option maxRecDepth 20000 in
theorem gX5_worth_X5_solves : GoodIn wsX5_worth (wsV RX5 223 RX5 yX5_solves wsX5_solves) := goodIn_app (goodIn_of _ (by decide +kernel)) ggX5_worth_X5_solves
set_option maxRecDepth 20000 in
theorem ggX5_worth_X5_levelOf : GoodIn wsX5_worth wsX5_levelOf := goodIn_r _ [51, 11, 27, 28, 9, 29, 72, 73, 74, 75, 76, 77, 78, 79, 80, 81, 82, 83, 84, 85, 86, 87, 88, 89, 90, 91, 92, 93, 94, 95, 96, 97, 98, 99, 100, 101, 102] (by decide +kernel) (by decide +kernel)
set_option maxRecDepth 20000 in
theorem gX5_worth_X5_levelOf : GoodIn wsX5_worth (wsV RX5 178 RX5 yX5_levelOf wsX5_levelOf) := goodIn_app (goodIn_of _ (by decide +kernel)) ggX5_worth_X5_levelOf
