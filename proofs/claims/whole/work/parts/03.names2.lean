theorem dX3_step_49 : decode cX3_step 49 = .ok (.putfield 127, 3) := by decide +kernel
theorem dX3_step_52 : decode cX3_step 52 = .ok (.goto 58, 3) := by decide +kernel
theorem dX3_step_55 : decode cX3_step 55 = .ok (.aload_n 0, 1) := by decide +kernel
theorem dX3_step_56 : decode cX3_step 56 = .ok (.getfield 18, 3) := by decide +kernel
theorem dX3_step_59 : decode cX3_step 59 = .ok (.aload_n 0, 1) := by decide +kernel
theorem dX3_step_60 : decode cX3_step 60 = .ok (.getfield 37, 3) := by decide +kernel
theorem dX3_step_63 : decode cX3_step 63 = .ok (.baload, 1) := by decide +kernel
theorem dX3_step_64 : decode cX3_step 64 = .ok (.invokestatic 135, 3) := by decide +kernel
theorem dX3_step_67 : decode cX3_step 67 = .ok (.ifCond .eq 10, 3) := by decide +kernel
theorem dX3_step_70 : decode cX3_step 70 = .ok (.aload_n 0, 1) := by decide +kernel
theorem dX3_step_71 : decode cX3_step 71 = .ok (.invokevirtual 138, 3) := by decide +kernel
theorem dX3_step_74 : decode cX3_step 74 = .ok (.goto 36, 3) := by decide +kernel
theorem dX3_step_77 : decode cX3_step 77 = .ok (.aload_n 0, 1) := by decide +kernel
theorem dX3_step_78 : decode cX3_step 78 = .ok (.aload_n 0, 1) := by decide +kernel
theorem dX3_step_79 : decode cX3_step 79 = .ok (.getfield 18, 3) := by decide +kernel
theorem dX3_step_82 : decode cX3_step 82 = .ok (.aload_n 0, 1) := by decide +kernel
theorem dX3_step_83 : decode cX3_step 83 = .ok (.getfield 37, 3) := by decide +kernel
theorem dX3_step_86 : decode cX3_step 86 = .ok (.baload, 1) := by decide +kernel
theorem dX3_step_87 : decode cX3_step 87 = .ok (.bipush 59, 2) := by decide +kernel
theorem dX3_step_89 : decode cX3_step 89 = .ok (.if_icmp .ne 7, 3) := by decide +kernel
theorem dX3_step_92 : decode cX3_step 92 = .ok (.iconst 3, 1) := by decide +kernel
theorem dX3_step_93 : decode cX3_step 93 = .ok (.goto 4, 3) := by decide +kernel
theorem dX3_step_96 : decode cX3_step 96 = .ok (.iconst 1, 1) := by decide +kernel
theorem dX3_step_97 : decode cX3_step 97 = .ok (.putfield 46, 3) := by decide +kernel
theorem dX3_step_100 : decode cX3_step 100 = .ok (.aload_n 0, 1) := by decide +kernel
theorem dX3_step_101 : decode cX3_step 101 = .ok (.dup, 1) := by decide +kernel
theorem dX3_step_102 : decode cX3_step 102 = .ok (.getfield 37, 3) := by decide +kernel
theorem dX3_step_105 : decode cX3_step 105 = .ok (.iconst 1, 1) := by decide +kernel
theorem dX3_step_106 : decode cX3_step 106 = .ok (.iadd, 1) := by decide +kernel
theorem dX3_step_107 : decode cX3_step 107 = .ok (.putfield 37, 3) := by decide +kernel
theorem dX3_step_110 : decode cX3_step 110 = .ok (.return_, 1) := by decide +kernel
theorem dX3_skipBlanks_0 : decode cX3_skipBlanks 0 = .ok (.aload_n 0, 1) := by decide +kernel
theorem dX3_skipBlanks_1 : decode cX3_skipBlanks 1 = .ok (.getfield 37, 3) := by decide +kernel
theorem dX3_skipBlanks_4 : decode cX3_skipBlanks 4 = .ok (.aload_n 0, 1) := by decide +kernel
theorem dX3_skipBlanks_5 : decode cX3_skipBlanks 5 = .ok (.getfield 22, 3) := by decide +kernel
theorem dX3_skipBlanks_8 : decode cX3_skipBlanks 8 = .ok (.if_icmp .ge 44, 3) := by decide +kernel
theorem dX3_skipBlanks_11 : decode cX3_skipBlanks 11 = .ok (.aload_n 0, 1) := by decide +kernel
theorem dX3_skipBlanks_12 : decode cX3_skipBlanks 12 = .ok (.getfield 18, 3) := by decide +kernel
theorem dX3_skipBlanks_15 : decode cX3_skipBlanks 15 = .ok (.aload_n 0, 1) := by decide +kernel
theorem dX3_skipBlanks_16 : decode cX3_skipBlanks 16 = .ok (.getfield 37, 3) := by decide +kernel
theorem dX3_skipBlanks_19 : decode cX3_skipBlanks 19 = .ok (.baload, 1) := by decide +kernel
theorem dX3_skipBlanks_20 : decode cX3_skipBlanks 20 = .ok (.bipush 32, 2) := by decide +kernel
theorem dX3_skipBlanks_22 : decode cX3_skipBlanks 22 = .ok (.if_icmp .eq 17, 3) := by decide +kernel
theorem dX3_skipBlanks_25 : decode cX3_skipBlanks 25 = .ok (.aload_n 0, 1) := by decide +kernel
theorem dX3_skipBlanks_26 : decode cX3_skipBlanks 26 = .ok (.getfield 18, 3) := by decide +kernel
theorem dX3_skipBlanks_29 : decode cX3_skipBlanks 29 = .ok (.aload_n 0, 1) := by decide +kernel
theorem dX3_skipBlanks_30 : decode cX3_skipBlanks 30 = .ok (.getfield 37, 3) := by decide +kernel
theorem dX3_skipBlanks_33 : decode cX3_skipBlanks 33 = .ok (.baload, 1) := by decide +kernel
theorem dX3_skipBlanks_34 : decode cX3_skipBlanks 34 = .ok (.bipush 10, 2) := by decide +kernel
theorem dX3_skipBlanks_36 : decode cX3_skipBlanks 36 = .ok (.if_icmp .ne 16, 3) := by decide +kernel
theorem dX3_skipBlanks_39 : decode cX3_skipBlanks 39 = .ok (.aload_n 0, 1) := by decide +kernel
theorem dX3_skipBlanks_40 : decode cX3_skipBlanks 40 = .ok (.dup, 1) := by decide +kernel
theorem dX3_skipBlanks_41 : decode cX3_skipBlanks 41 = .ok (.getfield 37, 3) := by decide +kernel
theorem dX3_skipBlanks_44 : decode cX3_skipBlanks 44 = .ok (.iconst 1, 1) := by decide +kernel
theorem dX3_skipBlanks_45 : decode cX3_skipBlanks 45 = .ok (.iadd, 1) := by decide +kernel
theorem dX3_skipBlanks_46 : decode cX3_skipBlanks 46 = .ok (.putfield 37, 3) := by decide +kernel
theorem dX3_skipBlanks_49 : decode cX3_skipBlanks 49 = .ok (.goto (-49), 3) := by decide +kernel
theorem dX3_skipBlanks_52 : decode cX3_skipBlanks 52 = .ok (.return_, 1) := by decide +kernel
set_option maxRecDepth 20000 in
theorem ggX3_readRun_X3_isOfRun : GoodIn wsX3_readRun wsX3_isOfRun := goodIn_r _ [10, 11, 12, 9, 13] (by decide +kernel) (by decide +kernel)
set_option maxRecDepth 20000 in
theorem gX3_readRun_X3_isOfRun : GoodIn wsX3_readRun (va_wsS RX3 135 yX3_isOfRun wsX3_isOfRun) := goodIn_app (goodIn_of _ (by decide +kernel)) ggX3_readRun_X3_isOfRun
set_option maxRecDepth 20000 in
theorem ggX3_readRun_X3_isDigit : GoodIn wsX3_readRun wsX3_isDigit := goodIn_r _ [13] (by decide +kernel) (by decide +kernel)
set_option maxRecDepth 20000 in
theorem gX3_readRun_X3_isDigit : GoodIn wsX3_readRun (va_wsS RX3 141 yX3_isDigit wsX3_isDigit) := goodIn_app (goodIn_of _ (by decide +kernel)) ggX3_readRun_X3_isDigit
set_option maxRecDepth 20000 in
theorem ggX3_readRun_X3_findWord : GoodIn wsX3_readRun wsX3_findWord := goodIn_r _ [17, 18, 19, 20, 9, 21, 2, 6, 4, 22, 23, 24, 25, 26, 27, 28, 29, 30, 31, 32, 33, 34, 35, 36, 37, 38, 39, 40, 41, 42, 43, 44, 45, 46, 47, 48, 49, 50, 51, 52, 53, 54, 55, 56, 57, 58, 59, 60, 61, 62, 63, 64, 65, 66, 67, 68, 69, 70, 71, 72, 73, 74, 75, 76, 77, 78, 79, 80, 81] (by decide +kernel) (by decide +kernel)
set_option maxRecDepth 20000 in
theorem gX3_readRun_X3_findWord : GoodIn wsX3_readRun (wsV RX3 144 RX3 yX3_findWord wsX3_findWord) := goodIn_app (goodIn_of _ (by decide +kernel)) ggX3_readRun_X3_findWord
theorem dX3_readRun_0 : decode cX3_readRun 0 = .ok (.iconst 0, 1) := by decide +kernel
theorem dX3_readRun_1 : decode cX3_readRun 1 = .ok (.istore_n 1, 1) := by decide +kernel
theorem dX3_readRun_2 : decode cX3_readRun 2 = .ok (.aload_n 0, 1) := by decide +kernel
theorem dX3_readRun_3 : decode cX3_readRun 3 = .ok (.iconst 0, 1) := by decide +kernel
theorem dX3_readRun_4 : decode cX3_readRun 4 = .ok (.putfield 93, 3) := by decide +kernel
theorem dX3_readRun_7 : decode cX3_readRun 7 = .ok (.aload_n 0, 1) := by decide +kernel
theorem dX3_readRun_8 : decode cX3_readRun 8 = .ok (.getfield 37, 3) := by decide +kernel
theorem dX3_readRun_11 : decode cX3_readRun 11 = .ok (.aload_n 0, 1) := by decide +kernel
theorem dX3_readRun_12 : decode cX3_readRun 12 = .ok (.getfield 22, 3) := by decide +kernel
theorem dX3_readRun_15 : decode cX3_readRun 15 = .ok (.if_icmp .ge 73, 3) := by decide +kernel
theorem dX3_readRun_18 : decode cX3_readRun 18 = .ok (.aload_n 0, 1) := by decide +kernel
theorem dX3_readRun_19 : decode cX3_readRun 19 = .ok (.getfield 18, 3) := by decide +kernel
theorem dX3_readRun_22 : decode cX3_readRun 22 = .ok (.aload_n 0, 1) := by decide +kernel
theorem dX3_readRun_23 : decode cX3_readRun 23 = .ok (.getfield 37, 3) := by decide +kernel
theorem dX3_readRun_26 : decode cX3_readRun 26 = .ok (.baload, 1) := by decide +kernel
theorem dX3_readRun_27 : decode cX3_readRun 27 = .ok (.invokestatic 135, 3) := by decide +kernel
theorem dX3_readRun_30 : decode cX3_readRun 30 = .ok (.ifCond .eq 58, 3) := by decide +kernel
theorem dX3_readRun_33 : decode cX3_readRun 33 = .ok (.aload_n 0, 1) := by decide +kernel
theorem dX3_readRun_34 : decode cX3_readRun 34 = .ok (.getfield 18, 3) := by decide +kernel
theorem dX3_readRun_37 : decode cX3_readRun 37 = .ok (.aload_n 0, 1) := by decide +kernel
theorem dX3_readRun_38 : decode cX3_readRun 38 = .ok (.getfield 37, 3) := by decide +kernel
theorem dX3_readRun_41 : decode cX3_readRun 41 = .ok (.baload, 1) := by decide +kernel
theorem dX3_readRun_42 : decode cX3_readRun 42 = .ok (.invokestatic 141, 3) := by decide +kernel
theorem dX3_readRun_45 : decode cX3_readRun 45 = .ok (.ifCond .eq 30, 3) := by decide +kernel
theorem dX3_readRun_48 : decode cX3_readRun 48 = .ok (.iinc 1 1, 3) := by decide +kernel
theorem dX3_readRun_51 : decode cX3_readRun 51 = .ok (.aload_n 0, 1) := by decide +kernel
theorem dX3_readRun_52 : decode cX3_readRun 52 = .ok (.aload_n 0, 1) := by decide +kernel
theorem dX3_readRun_53 : decode cX3_readRun 53 = .ok (.getfield 93, 3) := by decide +kernel
theorem dX3_readRun_56 : decode cX3_readRun 56 = .ok (.bipush 10, 2) := by decide +kernel
theorem dX3_readRun_58 : decode cX3_readRun 58 = .ok (.imul, 1) := by decide +kernel
theorem dX3_readRun_59 : decode cX3_readRun 59 = .ok (.aload_n 0, 1) := by decide +kernel
theorem dX3_readRun_60 : decode cX3_readRun 60 = .ok (.getfield 18, 3) := by decide +kernel
theorem dX3_readRun_63 : decode cX3_readRun 63 = .ok (.aload_n 0, 1) := by decide +kernel
theorem dX3_readRun_64 : decode cX3_readRun 64 = .ok (.getfield 37, 3) := by decide +kernel
theorem dX3_readRun_67 : decode cX3_readRun 67 = .ok (.baload, 1) := by decide +kernel
theorem dX3_readRun_68 : decode cX3_readRun 68 = .ok (.bipush 48, 2) := by decide +kernel
theorem dX3_readRun_70 : decode cX3_readRun 70 = .ok (.isub, 1) := by decide +kernel
theorem dX3_readRun_71 : decode cX3_readRun 71 = .ok (.iadd, 1) := by decide +kernel
theorem dX3_readRun_72 : decode cX3_readRun 72 = .ok (.putfield 93, 3) := by decide +kernel
theorem dX3_readRun_75 : decode cX3_readRun 75 = .ok (.aload_n 0, 1) := by decide +kernel
theorem dX3_readRun_76 : decode cX3_readRun 76 = .ok (.dup, 1) := by decide +kernel
theorem dX3_readRun_77 : decode cX3_readRun 77 = .ok (.getfield 37, 3) := by decide +kernel
theorem dX3_readRun_80 : decode cX3_readRun 80 = .ok (.iconst 1, 1) := by decide +kernel
theorem dX3_readRun_81 : decode cX3_readRun 81 = .ok (.iadd, 1) := by decide +kernel
theorem dX3_readRun_82 : decode cX3_readRun 82 = .ok (.putfield 37, 3) := by decide +kernel
theorem dX3_readRun_85 : decode cX3_readRun 85 = .ok (.goto (-78), 3) := by decide +kernel
theorem dX3_readRun_88 : decode cX3_readRun 88 = .ok (.iload_n 1, 1) := by decide +kernel
theorem dX3_readRun_89 : decode cX3_readRun 89 = .ok (.ifCond .ne 14, 3) := by decide +kernel
theorem dX3_readRun_92 : decode cX3_readRun 92 = .ok (.aload_n 0, 1) := by decide +kernel
theorem dX3_readRun_93 : decode cX3_readRun 93 = .ok (.aload_n 0, 1) := by decide +kernel
theorem dX3_readRun_94 : decode cX3_readRun 94 = .ok (.invokevirtual 144, 3) := by decide +kernel
theorem dX3_readRun_97 : decode cX3_readRun 97 = .ok (.putfield 46, 3) := by decide +kernel
theorem dX3_readRun_100 : decode cX3_readRun 100 = .ok (.goto 30, 3) := by decide +kernel
theorem dX3_readRun_103 : decode cX3_readRun 103 = .ok (.aload_n 0, 1) := by decide +kernel
theorem dX3_readRun_104 : decode cX3_readRun 104 = .ok (.iload_n 1, 1) := by decide +kernel
theorem dX3_readRun_105 : decode cX3_readRun 105 = .ok (.aload_n 0, 1) := by decide +kernel
theorem dX3_readRun_106 : decode cX3_readRun 106 = .ok (.getfield 37, 3) := by decide +kernel
theorem dX3_readRun_109 : decode cX3_readRun 109 = .ok (.aload_n 0, 1) := by decide +kernel
theorem dX3_readRun_110 : decode cX3_readRun 110 = .ok (.getfield 127, 3) := by decide +kernel
theorem dX3_readRun_113 : decode cX3_readRun 113 = .ok (.isub, 1) := by decide +kernel
theorem dX3_readRun_114 : decode cX3_readRun 114 = .ok (.if_icmp .ne 12, 3) := by decide +kernel
theorem dX3_readRun_117 : decode cX3_readRun 117 = .ok (.iload_n 1, 1) := by decide +kernel
theorem dX3_readRun_118 : decode cX3_readRun 118 = .ok (.iconst 3, 1) := by decide +kernel
theorem dX3_readRun_119 : decode cX3_readRun 119 = .ok (.if_icmp .gt 7, 3) := by decide +kernel
theorem dX3_readRun_122 : decode cX3_readRun 122 = .ok (.iconst 2, 1) := by decide +kernel
theorem dX3_readRun_123 : decode cX3_readRun 123 = .ok (.goto 4, 3) := by decide +kernel
theorem dX3_readRun_126 : decode cX3_readRun 126 = .ok (.iconst 1, 1) := by decide +kernel
theorem dX3_readRun_127 : decode cX3_readRun 127 = .ok (.putfield 46, 3) := by decide +kernel
theorem dX3_readRun_130 : decode cX3_readRun 130 = .ok (.return_, 1) := by decide +kernel
set_option maxRecDepth 20000 in
theorem ggX3_findWord_X3_spells : GoodIn wsX3_findWord wsX3_spells := goodIn_r _ [5, 6, 7, 8, 9, 10, 11, 12, 13, 14, 15, 16, 17, 18, 19, 20, 21, 22, 23, 24, 25, 26, 27, 28, 29, 30, 31, 32, 33, 34, 35, 36, 37, 38, 39, 40, 41, 42, 43, 44, 45, 46, 47, 48, 49, 50, 51, 52, 53, 54, 55, 56, 57, 58, 59, 60, 61, 62, 63, 64, 65, 66, 67, 68] (by decide +kernel) (by decide +kernel)
set_option maxRecDepth 20000 in
theorem gX3_findWord_X3_spells : GoodIn wsX3_findWord (wsV RX3 148 RX3 yX3_spells wsX3_spells) := goodIn_app (goodIn_of _ (by decide +kernel)) ggX3_findWord_X3_spells
theorem dX3_findWord_0 : decode cX3_findWord 0 = .ok (.aload_n 0, 1) := by decide +kernel
theorem dX3_findWord_1 : decode cX3_findWord 1 = .ok (.ldc 147, 2) := by decide +kernel
theorem dX3_findWord_3 : decode cX3_findWord 3 = .ok (.invokevirtual 148, 3) := by decide +kernel
theorem dX3_findWord_6 : decode cX3_findWord 6 = .ok (.ifCond .eq 5, 3) := by decide +kernel
theorem dX3_findWord_9 : decode cX3_findWord 9 = .ok (.iconst 4, 1) := by decide +kernel
theorem dX3_findWord_10 : decode cX3_findWord 10 = .ok (.ireturn, 1) := by decide +kernel
theorem dX3_findWord_11 : decode cX3_findWord 11 = .ok (.aload_n 0, 1) := by decide +kernel
theorem dX3_findWord_12 : decode cX3_findWord 12 = .ok (.ldc 152, 2) := by decide +kernel
theorem dX3_findWord_14 : decode cX3_findWord 14 = .ok (.invokevirtual 148, 3) := by decide +kernel
theorem dX3_findWord_17 : decode cX3_findWord 17 = .ok (.ifCond .eq 5, 3) := by decide +kernel
theorem dX3_findWord_20 : decode cX3_findWord 20 = .ok (.iconst 5, 1) := by decide +kernel
theorem dX3_findWord_21 : decode cX3_findWord 21 = .ok (.ireturn, 1) := by decide +kernel
theorem dX3_findWord_22 : decode cX3_findWord 22 = .ok (.aload_n 0, 1) := by decide +kernel
theorem dX3_findWord_23 : decode cX3_findWord 23 = .ok (.ldc 154, 2) := by decide +kernel
theorem dX3_findWord_25 : decode cX3_findWord 25 = .ok (.invokevirtual 148, 3) := by decide +kernel
theorem dX3_findWord_28 : decode cX3_findWord 28 = .ok (.ifCond .eq 6, 3) := by decide +kernel
theorem dX3_findWord_31 : decode cX3_findWord 31 = .ok (.bipush 6, 2) := by decide +kernel
theorem dX3_findWord_33 : decode cX3_findWord 33 = .ok (.ireturn, 1) := by decide +kernel
theorem dX3_findWord_34 : decode cX3_findWord 34 = .ok (.aload_n 0, 1) := by decide +kernel
theorem dX3_findWord_35 : decode cX3_findWord 35 = .ok (.ldc 156, 2) := by decide +kernel
theorem dX3_findWord_37 : decode cX3_findWord 37 = .ok (.invokevirtual 148, 3) := by decide +kernel
theorem dX3_findWord_40 : decode cX3_findWord 40 = .ok (.ifCond .eq 8, 3) := by decide +kernel
theorem dX3_findWord_43 : decode cX3_findWord 43 = .ok (.bipush 7, 2) := by decide +kernel
theorem dX3_findWord_45 : decode cX3_findWord 45 = .ok (.goto 4, 3) := by decide +kernel
theorem dX3_findWord_48 : decode cX3_findWord 48 = .ok (.iconst 1, 1) := by decide +kernel
theorem dX3_findWord_49 : decode cX3_findWord 49 = .ok (.ireturn, 1) := by decide +kernel
set_option maxRecDepth 20000 in
theorem ggX3_spells_J0_length_8abf5 : GoodIn wsX3_spells wsJ0_length_8abf5 := goodIn_r _ [8, 9, 10, 11, 12, 7, 13, 14, 15] (by decide +kernel) (by decide +kernel)
set_option maxRecDepth 20000 in
theorem gX3_spells_J0_length_8abf5 : GoodIn wsX3_spells (wsV RX3 158 RJ0 yJ0_length_8abf5 wsJ0_length_8abf5) := goodIn_app (goodIn_of _ (by decide +kernel)) ggX3_spells_J0_length_8abf5
set_option maxRecDepth 20000 in
theorem ggX3_spells_J0_charAt_5068e : GoodIn wsX3_spells wsJ0_charAt_5068e := goodIn_r _ [19, 9, 20, 21, 22, 7, 23, 14, 15, 24, 25, 26, 27, 28, 29, 30, 31, 32, 33, 34, 35, 36, 37, 38, 39, 40, 41, 42, 43, 44, 45, 46, 47, 48, 49, 50, 51, 52] (by decide +kernel) (by decide +kernel)
set_option maxRecDepth 20000 in
theorem gX3_spells_J0_charAt_5068e : GoodIn wsX3_spells (wsV RX3 162 RJ0 yJ0_charAt_5068e wsJ0_charAt_5068e) := goodIn_app (goodIn_of _ (by decide +kernel)) ggX3_spells_J0_charAt_5068e
theorem dX3_spells_0 : decode cX3_spells 0 = .ok (.aload_n 1, 1) := by decide +kernel
theorem dX3_spells_1 : decode cX3_spells 1 = .ok (.invokevirtual 158, 3) := by decide +kernel
theorem dX3_spells_4 : decode cX3_spells 4 = .ok (.aload_n 0, 1) := by decide +kernel
theorem dX3_spells_5 : decode cX3_spells 5 = .ok (.getfield 37, 3) := by decide +kernel
theorem dX3_spells_8 : decode cX3_spells 8 = .ok (.aload_n 0, 1) := by decide +kernel
theorem dX3_spells_9 : decode cX3_spells 9 = .ok (.getfield 127, 3) := by decide +kernel
theorem dX3_spells_12 : decode cX3_spells 12 = .ok (.isub, 1) := by decide +kernel
theorem dX3_spells_13 : decode cX3_spells 13 = .ok (.if_icmp .eq 5, 3) := by decide +kernel
theorem dX3_spells_16 : decode cX3_spells 16 = .ok (.iconst 0, 1) := by decide +kernel
theorem dX3_spells_17 : decode cX3_spells 17 = .ok (.ireturn, 1) := by decide +kernel
theorem dX3_spells_18 : decode cX3_spells 18 = .ok (.aload_n 0, 1) := by decide +kernel
theorem dX3_spells_19 : decode cX3_spells 19 = .ok (.getfield 127, 3) := by decide +kernel
theorem dX3_spells_22 : decode cX3_spells 22 = .ok (.istore_n 2, 1) := by decide +kernel
theorem dX3_spells_23 : decode cX3_spells 23 = .ok (.iload_n 2, 1) := by decide +kernel
theorem dX3_spells_24 : decode cX3_spells 24 = .ok (.aload_n 0, 1) := by decide +kernel
theorem dX3_spells_25 : decode cX3_spells 25 = .ok (.getfield 37, 3) := by decide +kernel
theorem dX3_spells_28 : decode cX3_spells 28 = .ok (.if_icmp .ge 30, 3) := by decide +kernel
theorem dX3_spells_31 : decode cX3_spells 31 = .ok (.aload_n 0, 1) := by decide +kernel
theorem dX3_spells_32 : decode cX3_spells 32 = .ok (.getfield 18, 3) := by decide +kernel
theorem dX3_spells_35 : decode cX3_spells 35 = .ok (.iload_n 2, 1) := by decide +kernel
theorem dX3_spells_36 : decode cX3_spells 36 = .ok (.baload, 1) := by decide +kernel
theorem dX3_spells_37 : decode cX3_spells 37 = .ok (.aload_n 1, 1) := by decide +kernel
theorem dX3_spells_38 : decode cX3_spells 38 = .ok (.iload_n 2, 1) := by decide +kernel
theorem dX3_spells_39 : decode cX3_spells 39 = .ok (.aload_n 0, 1) := by decide +kernel
theorem dX3_spells_40 : decode cX3_spells 40 = .ok (.getfield 127, 3) := by decide +kernel
theorem dX3_spells_43 : decode cX3_spells 43 = .ok (.isub, 1) := by decide +kernel
theorem dX3_spells_44 : decode cX3_spells 44 = .ok (.invokevirtual 162, 3) := by decide +kernel
theorem dX3_spells_47 : decode cX3_spells 47 = .ok (.if_icmp .eq 5, 3) := by decide +kernel
theorem dX3_spells_50 : decode cX3_spells 50 = .ok (.iconst 0, 1) := by decide +kernel
theorem dX3_spells_51 : decode cX3_spells 51 = .ok (.ireturn, 1) := by decide +kernel
theorem dX3_spells_52 : decode cX3_spells 52 = .ok (.iinc 2 1, 3) := by decide +kernel
theorem dX3_spells_55 : decode cX3_spells 55 = .ok (.goto (-32), 3) := by decide +kernel
theorem dX3_spells_58 : decode cX3_spells 58 = .ok (.iconst 1, 1) := by decide +kernel
theorem dX3_spells_59 : decode cX3_spells 59 = .ok (.ireturn, 1) := by decide +kernel
set_option maxRecDepth 20000 in
theorem ggX3_isOfRun_X3_isDigit : GoodIn wsX3_isOfRun wsX3_isDigit := goodIn_r _ [4] (by decide +kernel) (by decide +kernel)
set_option maxRecDepth 20000 in
theorem gX3_isOfRun_X3_isDigit : GoodIn wsX3_isOfRun (va_wsS RX3 141 yX3_isDigit wsX3_isDigit) := goodIn_app (goodIn_of _ (by decide +kernel)) ggX3_isOfRun_X3_isDigit
theorem dX3_isOfRun_0 : decode cX3_isOfRun 0 = .ok (.iload_n 0, 1) := by decide +kernel
theorem dX3_isOfRun_1 : decode cX3_isOfRun 1 = .ok (.bipush 97, 2) := by decide +kernel
theorem dX3_isOfRun_3 : decode cX3_isOfRun 3 = .ok (.if_icmp .lt 9, 3) := by decide +kernel
theorem dX3_isOfRun_6 : decode cX3_isOfRun 6 = .ok (.iload_n 0, 1) := by decide +kernel
theorem dX3_isOfRun_7 : decode cX3_isOfRun 7 = .ok (.bipush 122, 2) := by decide +kernel
theorem dX3_isOfRun_9 : decode cX3_isOfRun 9 = .ok (.if_icmp .le 10, 3) := by decide +kernel
theorem dX3_isOfRun_12 : decode cX3_isOfRun 12 = .ok (.iload_n 0, 1) := by decide +kernel
theorem dX3_isOfRun_13 : decode cX3_isOfRun 13 = .ok (.invokestatic 141, 3) := by decide +kernel
theorem dX3_isOfRun_16 : decode cX3_isOfRun 16 = .ok (.ifCond .eq 7, 3) := by decide +kernel
theorem dX3_isOfRun_19 : decode cX3_isOfRun 19 = .ok (.iconst 1, 1) := by decide +kernel
theorem dX3_isOfRun_20 : decode cX3_isOfRun 20 = .ok (.goto 4, 3) := by decide +kernel
theorem dX3_isOfRun_23 : decode cX3_isOfRun 23 = .ok (.iconst 0, 1) := by decide +kernel
theorem dX3_isOfRun_24 : decode cX3_isOfRun 24 = .ok (.ireturn, 1) := by decide +kernel
theorem dX3_isDigit_0 : decode cX3_isDigit 0 = .ok (.iload_n 0, 1) := by decide +kernel
theorem dX3_isDigit_1 : decode cX3_isDigit 1 = .ok (.bipush 48, 2) := by decide +kernel
theorem dX3_isDigit_3 : decode cX3_isDigit 3 = .ok (.if_icmp .lt 13, 3) := by decide +kernel
theorem dX3_isDigit_6 : decode cX3_isDigit 6 = .ok (.iload_n 0, 1) := by decide +kernel
theorem dX3_isDigit_7 : decode cX3_isDigit 7 = .ok (.bipush 57, 2) := by decide +kernel
theorem dX3_isDigit_9 : decode cX3_isDigit 9 = .ok (.if_icmp .gt 7, 3) := by decide +kernel
theorem dX3_isDigit_12 : decode cX3_isDigit 12 = .ok (.iconst 1, 1) := by decide +kernel
theorem dX3_isDigit_13 : decode cX3_isDigit 13 = .ok (.goto 4, 3) := by decide +kernel
theorem dX3_isDigit_16 : decode cX3_isDigit 16 = .ok (.iconst 0, 1) := by decide +kernel
theorem dX3_isDigit_17 : decode cX3_isDigit 17 = .ok (.ireturn, 1) := by decide +kernel
set_option maxRecDepth 20000 in
theorem ggX4_init_X3_init : GoodIn wsX4_init wsX3_init := goodIn_r _ [25, 26, 2, 3, 27, 9, 10, 28, 29, 30, 31, 32, 33, 34, 35, 36, 37, 38, 39, 40, 41, 42, 43, 44, 86, 87, 88, 89, 90, 68, 69, 70, 71, 72, 73, 74, 75, 76, 77, 78] (by decide +kernel) (by decide +kernel)
set_option maxRecDepth 20000 in
theorem gX4_init_X3_init : GoodIn wsX4_init (wsX3_init) := ggX4_init_X3_init
set_option maxRecDepth 20000 in
theorem ggX4_init_X0_init : GoodIn wsX4_init wsX0_init := goodIn_r _ [33, 34, 2, 3, 35, 36, 37, 38, 39, 40, 10, 41, 42, 43, 44, 86, 87, 88, 89, 90] (by decide +kernel) (by decide +kernel)
set_option maxRecDepth 20000 in
theorem gX4_init_X0_init : GoodIn wsX4_init (wsX0_init) := ggX4_init_X0_init
set_option maxRecDepth 20000 in
theorem ggX4_init_X1_init : GoodIn wsX4_init wsX1_init := goodIn_r _ [48, 49, 2, 3, 50, 35, 51, 52, 53, 54, 55, 56, 57, 58, 91, 92, 93, 94, 95, 96, 97, 98] (by decide +kernel) (by decide +kernel)
set_option maxRecDepth 20000 in
theorem gX4_init_X1_init : GoodIn wsX4_init (wsX1_init) := ggX4_init_X1_init
set_option maxRecDepth 20000 in
theorem ggX4_init_X2_init : GoodIn wsX4_init wsX2_init := goodIn_r _ [61, 62, 2, 3, 63, 64, 65, 66, 9, 10, 67, 32, 33, 34, 35, 36, 37, 38, 39, 40, 41, 42, 43, 44, 99, 100, 101, 86, 87, 88, 89, 90] (by decide +kernel) (by decide +kernel)
set_option maxRecDepth 20000 in
theorem gX4_init_X2_init : GoodIn wsX4_init (wsX2_init) := ggX4_init_X2_init
theorem dX4_init_0 : decode cX4_init 0 = .ok (.aload_n 0, 1) := by decide +kernel
theorem dX4_init_1 : decode cX4_init 1 = .ok (.invokespecial 3, 3) := by decide +kernel
theorem dX4_init_4 : decode cX4_init 4 = .ok (.aload_n 0, 1) := by decide +kernel
theorem dX4_init_5 : decode cX4_init 5 = .ok (.new 9, 3) := by decide +kernel
theorem dX4_init_8 : decode cX4_init 8 = .ok (.dup, 1) := by decide +kernel
theorem dX4_init_9 : decode cX4_init 9 = .ok (.invokespecial 11, 3) := by decide +kernel
theorem dX4_init_12 : decode cX4_init 12 = .ok (.putfield 12, 3) := by decide +kernel
theorem dX4_init_15 : decode cX4_init 15 = .ok (.aload_n 0, 1) := by decide +kernel
theorem dX4_init_16 : decode cX4_init 16 = .ok (.new 16, 3) := by decide +kernel
theorem dX4_init_19 : decode cX4_init 19 = .ok (.dup, 1) := by decide +kernel
theorem dX4_init_20 : decode cX4_init 20 = .ok (.invokespecial 18, 3) := by decide +kernel
theorem dX4_init_23 : decode cX4_init 23 = .ok (.putfield 19, 3) := by decide +kernel
theorem dX4_init_26 : decode cX4_init 26 = .ok (.aload_n 0, 1) := by decide +kernel
theorem dX4_init_27 : decode cX4_init 27 = .ok (.new 16, 3) := by decide +kernel
theorem dX4_init_30 : decode cX4_init 30 = .ok (.dup, 1) := by decide +kernel
theorem dX4_init_31 : decode cX4_init 31 = .ok (.invokespecial 18, 3) := by decide +kernel
theorem dX4_init_34 : decode cX4_init 34 = .ok (.putfield 23, 3) := by decide +kernel
theorem dX4_init_37 : decode cX4_init 37 = .ok (.aload_n 0, 1) := by decide +kernel
theorem dX4_init_38 : decode cX4_init 38 = .ok (.new 26, 3) := by decide +kernel
theorem dX4_init_41 : decode cX4_init 41 = .ok (.dup, 1) := by decide +kernel
theorem dX4_init_42 : decode cX4_init 42 = .ok (.invokespecial 28, 3) := by decide +kernel
theorem dX4_init_45 : decode cX4_init 45 = .ok (.putfield 29, 3) := by decide +kernel
theorem dX4_init_48 : decode cX4_init 48 = .ok (.aload_n 0, 1) := by decide +kernel
theorem dX4_init_49 : decode cX4_init 49 = .ok (.new 26, 3) := by decide +kernel
theorem dX4_init_52 : decode cX4_init 52 = .ok (.dup, 1) := by decide +kernel
theorem dX4_init_53 : decode cX4_init 53 = .ok (.invokespecial 28, 3) := by decide +kernel
theorem dX4_init_56 : decode cX4_init 56 = .ok (.putfield 33, 3) := by decide +kernel
theorem dX4_init_59 : decode cX4_init 59 = .ok (.aload_n 0, 1) := by decide +kernel
theorem dX4_init_60 : decode cX4_init 60 = .ok (.iconst 0, 1) := by decide +kernel
theorem dX4_init_61 : decode cX4_init 61 = .ok (.putfield 36, 3) := by decide +kernel
theorem dX4_init_64 : decode cX4_init 64 = .ok (.aload_n 0, 1) := by decide +kernel
theorem dX4_init_65 : decode cX4_init 65 = .ok (.new 40, 3) := by decide +kernel
theorem dX4_init_68 : decode cX4_init 68 = .ok (.dup, 1) := by decide +kernel
theorem dX4_init_69 : decode cX4_init 69 = .ok (.invokespecial 42, 3) := by decide +kernel
theorem dX4_init_72 : decode cX4_init 72 = .ok (.putfield 43, 3) := by decide +kernel
theorem dX4_init_75 : decode cX4_init 75 = .ok (.return_, 1) := by decide +kernel
set_option maxRecDepth 20000 in
theorem ggX4_feed_X3_hasRoom : GoodIn wsX4_feed wsX3_hasRoom := goodIn_r _ [7, 8, 22, 23, 24, 25, 26, 27, 28, 29, 30, 31, 32] (by decide +kernel) (by decide +kernel)
set_option maxRecDepth 20000 in
theorem gX4_feed_X3_hasRoom : GoodIn wsX4_feed (wsV RX4 47 RX3 yX3_hasRoom wsX3_hasRoom) := goodIn_app (goodIn_of _ (by decide +kernel)) ggX4_feed_X3_hasRoom
set_option maxRecDepth 20000 in
theorem ggX4_feed_X3_addNumber : GoodIn wsX4_feed wsX3_addNumber := goodIn_r _ [12, 13, 8, 14, 4, 5, 6, 7, 22, 23, 24, 25, 26, 27, 28, 29, 30, 31, 32] (by decide +kernel) (by decide +kernel)
set_option maxRecDepth 20000 in
theorem gX4_feed_X3_addNumber : GoodIn wsX4_feed (wsV RX4 51 RX3 yX3_addNumber wsX3_addNumber) := goodIn_app (goodIn_of _ (by decide +kernel)) ggX4_feed_X3_addNumber
theorem dX4_feed_0 : decode cX4_feed 0 = .ok (.aload_n 0, 1) := by decide +kernel
theorem dX4_feed_1 : decode cX4_feed 1 = .ok (.getfield 12, 3) := by decide +kernel
theorem dX4_feed_4 : decode cX4_feed 4 = .ok (.bipush 20, 2) := by decide +kernel
theorem dX4_feed_6 : decode cX4_feed 6 = .ok (.invokevirtual 47, 3) := by decide +kernel
theorem dX4_feed_9 : decode cX4_feed 9 = .ok (.ifCond .ne 5, 3) := by decide +kernel
theorem dX4_feed_12 : decode cX4_feed 12 = .ok (.iconst (-1), 1) := by decide +kernel
theorem dX4_feed_13 : decode cX4_feed 13 = .ok (.ireturn, 1) := by decide +kernel
theorem dX4_feed_14 : decode cX4_feed 14 = .ok (.aload_n 0, 1) := by decide +kernel
theorem dX4_feed_15 : decode cX4_feed 15 = .ok (.getfield 12, 3) := by decide +kernel
theorem dX4_feed_18 : decode cX4_feed 18 = .ok (.iload_n 1, 1) := by decide +kernel
theorem dX4_feed_19 : decode cX4_feed 19 = .ok (.invokevirtual 51, 3) := by decide +kernel
theorem dX4_feed_22 : decode cX4_feed 22 = .ok (.aload_n 0, 1) := by decide +kernel
theorem dX4_feed_23 : decode cX4_feed 23 = .ok (.getfield 12, 3) := by decide +kernel
theorem dX4_feed_26 : decode cX4_feed 26 = .ok (.iload_n 2, 1) := by decide +kernel
theorem dX4_feed_27 : decode cX4_feed 27 = .ok (.invokevirtual 51, 3) := by decide +kernel
theorem dX4_feed_30 : decode cX4_feed 30 = .ok (.aload_n 0, 1) := by decide +kernel
theorem dX4_feed_31 : decode cX4_feed 31 = .ok (.getfield 12, 3) := by decide +kernel
theorem dX4_feed_34 : decode cX4_feed 34 = .ok (.iload_n 3, 1) := by decide +kernel
theorem dX4_feed_35 : decode cX4_feed 35 = .ok (.invokevirtual 51, 3) := by decide +kernel
theorem dX4_feed_38 : decode cX4_feed 38 = .ok (.aload_n 0, 1) := by decide +kernel
theorem dX4_feed_39 : decode cX4_feed 39 = .ok (.getfield 12, 3) := by decide +kernel
theorem dX4_feed_42 : decode cX4_feed 42 = .ok (.iload 4, 2) := by decide +kernel
theorem dX4_feed_44 : decode cX4_feed 44 = .ok (.invokevirtual 51, 3) := by decide +kernel
theorem dX4_feed_47 : decode cX4_feed 47 = .ok (.aload_n 0, 1) := by decide +kernel
theorem dX4_feed_48 : decode cX4_feed 48 = .ok (.getfield 12, 3) := by decide +kernel
theorem dX4_feed_51 : decode cX4_feed 51 = .ok (.iload 5, 2) := by decide +kernel
theorem dX4_feed_53 : decode cX4_feed 53 = .ok (.invokevirtual 51, 3) := by decide +kernel
theorem dX4_feed_56 : decode cX4_feed 56 = .ok (.aload_n 0, 1) := by decide +kernel
theorem dX4_feed_57 : decode cX4_feed 57 = .ok (.getfield 12, 3) := by decide +kernel
theorem dX4_feed_60 : decode cX4_feed 60 = .ok (.getfield 55, 3) := by decide +kernel
theorem dX4_feed_63 : decode cX4_feed 63 = .ok (.ireturn, 1) := by decide +kernel
theorem dX4_end_0 : decode cX4_end 0 = .ok (.iload_n 1, 1) := by decide +kernel
theorem dX4_end_1 : decode cX4_end 1 = .ok (.ifCond .lt 14, 3) := by decide +kernel
theorem dX4_end_4 : decode cX4_end 4 = .ok (.iload_n 1, 1) := by decide +kernel
theorem dX4_end_5 : decode cX4_end 5 = .ok (.aload_n 0, 1) := by decide +kernel
theorem dX4_end_6 : decode cX4_end 6 = .ok (.getfield 12, 3) := by decide +kernel
theorem dX4_end_9 : decode cX4_end 9 = .ok (.getfield 55, 3) := by decide +kernel
theorem dX4_end_12 : decode cX4_end 12 = .ok (.if_icmp .le 5, 3) := by decide +kernel
theorem dX4_end_15 : decode cX4_end 15 = .ok (.iconst 0, 1) := by decide +kernel
theorem dX4_end_16 : decode cX4_end 16 = .ok (.ireturn, 1) := by decide +kernel
theorem dX4_end_17 : decode cX4_end 17 = .ok (.aload_n 0, 1) := by decide +kernel
theorem dX4_end_18 : decode cX4_end 18 = .ok (.getfield 12, 3) := by decide +kernel
theorem dX4_end_21 : decode cX4_end 21 = .ok (.iload_n 1, 1) := by decide +kernel
theorem dX4_end_22 : decode cX4_end 22 = .ok (.putfield 55, 3) := by decide +kernel
theorem dX4_end_25 : decode cX4_end 25 = .ok (.iconst 1, 1) := by decide +kernel
theorem dX4_end_26 : decode cX4_end 26 = .ok (.ireturn, 1) := by decide +kernel
set_option maxRecDepth 20000 in
theorem ggX4_text_X3_read : GoodIn wsX4_text wsX3_read := goodIn_r _ [13, 14, 15, 16, 17, 18, 19, 20, 21, 22, 23, 24, 25, 26, 27, 28, 29, 30, 31, 32, 12, 33, 34, 35, 36, 37, 38, 39, 40, 41, 42, 43, 44, 45, 46, 47, 48, 49, 50, 51, 52, 53, 54, 55, 56, 57, 58, 59, 60, 61, 62, 63, 64, 65, 66, 67, 68, 69, 70, 71, 72, 73, 74, 75, 76, 77, 78, 79, 80, 81, 82, 83, 84, 85, 86, 87, 88, 89, 90, 91, 92, 93, 94, 95, 96, 97, 98, 99, 100, 101, 102, 103, 104, 105, 106, 107, 108, 109, 110, 111, 112, 113, 114, 115, 116, 117, 118, 119, 120, 121, 122, 123, 124, 125, 126, 127, 128, 129, 130, 131, 132, 133, 134, 135, 136, 137, 138, 139, 140, 141, 142, 143, 144, 145, 146, 147, 148, 149, 150, 151, 152, 153, 154, 155, 156, 157, 158, 159, 160, 161, 162, 163, 164, 165, 166, 167, 168, 169, 170, 171, 172, 173, 174, 175, 176, 177, 178, 179, 180, 181, 182, 183, 184, 185, 186, 187, 209, 210, 211, 212, 213, 214, 215, 216, 217, 218, 219, 220, 221, 222, 223, 224] (by decide +kernel) (by decide +kernel)
set_option maxRecDepth 20000 in
theorem gX4_text_X3_read : GoodIn wsX4_text (wsV RX4 59 RX3 yX3_read wsX3_read) := goodIn_app (goodIn_of _ (by decide +kernel)) ggX4_text_X3_read
set_option maxRecDepth 20000 in
theorem ggX4_text_X0_copyFrom : GoodIn wsX4_text wsX0_copyFrom := goodIn_r _ [191, 25, 26, 27, 28, 192, 193, 194, 195, 29, 220, 221, 222, 223, 224] (by decide +kernel) (by decide +kernel)
set_option maxRecDepth 20000 in
theorem gX4_text_X0_copyFrom : GoodIn wsX4_text (wsV RX4 69 RX0 yX0_copyFrom wsX0_copyFrom) := goodIn_app (goodIn_of _ (by decide +kernel)) ggX4_text_X0_copyFrom
set_option maxRecDepth 20000 in
theorem ggX4_text_X2_forget : GoodIn wsX4_text wsX2_forget := goodIn_r _ [200, 201, 225, 226, 227] (by decide +kernel) (by decide +kernel)
set_option maxRecDepth 20000 in
theorem gX4_text_X2_forget : GoodIn wsX4_text (wsV RX4 73 RX2 yX2_forget wsX2_forget) := goodIn_app (goodIn_of _ (by decide +kernel)) ggX4_text_X2_forget
theorem dX4_text_0 : decode cX4_text 0 = .ok (.aload_n 0, 1) := by decide +kernel
theorem dX4_text_1 : decode cX4_text 1 = .ok (.getfield 12, 3) := by decide +kernel
theorem dX4_text_4 : decode cX4_text 4 = .ok (.invokevirtual 59, 3) := by decide +kernel
theorem dX4_text_7 : decode cX4_text 7 = .ok (.istore_n 1, 1) := by decide +kernel
theorem dX4_text_8 : decode cX4_text 8 = .ok (.aload_n 0, 1) := by decide +kernel
theorem dX4_text_9 : decode cX4_text 9 = .ok (.getfield 12, 3) := by decide +kernel
theorem dX4_text_12 : decode cX4_text 12 = .ok (.iconst 0, 1) := by decide +kernel
theorem dX4_text_13 : decode cX4_text 13 = .ok (.putfield 55, 3) := by decide +kernel
theorem dX4_text_16 : decode cX4_text 16 = .ok (.iload_n 1, 1) := by decide +kernel
theorem dX4_text_17 : decode cX4_text 17 = .ok (.ifCond .ne 13, 3) := by decide +kernel
theorem dX4_text_20 : decode cX4_text 20 = .ok (.iconst (-1), 1) := by decide +kernel
theorem dX4_text_21 : decode cX4_text 21 = .ok (.aload_n 0, 1) := by decide +kernel
theorem dX4_text_22 : decode cX4_text 22 = .ok (.getfield 12, 3) := by decide +kernel
theorem dX4_text_25 : decode cX4_text 25 = .ok (.getfield 63, 3) := by decide +kernel
theorem dX4_text_28 : decode cX4_text 28 = .ok (.isub, 1) := by decide +kernel
theorem dX4_text_29 : decode cX4_text 29 = .ok (.ireturn, 1) := by decide +kernel
theorem dX4_text_30 : decode cX4_text 30 = .ok (.aload_n 0, 1) := by decide +kernel
theorem dX4_text_31 : decode cX4_text 31 = .ok (.getfield 19, 3) := by decide +kernel
theorem dX4_text_34 : decode cX4_text 34 = .ok (.aload_n 0, 1) := by decide +kernel
theorem dX4_text_35 : decode cX4_text 35 = .ok (.getfield 12, 3) := by decide +kernel
theorem dX4_text_38 : decode cX4_text 38 = .ok (.getfield 66, 3) := by decide +kernel
theorem dX4_text_41 : decode cX4_text 41 = .ok (.invokevirtual 69, 3) := by decide +kernel
theorem dX4_text_44 : decode cX4_text 44 = .ok (.aload_n 0, 1) := by decide +kernel
theorem dX4_text_45 : decode cX4_text 45 = .ok (.getfield 43, 3) := by decide +kernel
theorem dX4_text_48 : decode cX4_text 48 = .ok (.invokevirtual 73, 3) := by decide +kernel
theorem dX4_text_51 : decode cX4_text 51 = .ok (.aload_n 0, 1) := by decide +kernel
theorem dX4_text_52 : decode cX4_text 52 = .ok (.iconst 0, 1) := by decide +kernel
theorem dX4_text_53 : decode cX4_text 53 = .ok (.putfield 36, 3) := by decide +kernel
theorem dX4_text_56 : decode cX4_text 56 = .ok (.aload_n 0, 1) := by decide +kernel
theorem dX4_text_57 : decode cX4_text 57 = .ok (.getfield 12, 3) := by decide +kernel
theorem dX4_text_60 : decode cX4_text 60 = .ok (.getfield 76, 3) := by decide +kernel
theorem dX4_text_63 : decode cX4_text 63 = .ok (.ireturn, 1) := by decide +kernel
theorem dX4_fault_0 : decode cX4_fault 0 = .ok (.aload_n 0, 1) := by decide +kernel
theorem dX4_fault_1 : decode cX4_fault 1 = .ok (.getfield 12, 3) := by decide +kernel
theorem dX4_fault_4 : decode cX4_fault 4 = .ok (.getfield 79, 3) := by decide +kernel
theorem dX4_fault_7 : decode cX4_fault 7 = .ok (.ireturn, 1) := by decide +kernel
set_option maxRecDepth 20000 in
theorem ggX4_now_X4_fitNow : GoodIn wsX4_now wsX4_fitNow := goodIn_r _ [14, 15, 16, 1, 17, 18, 19, 20, 21, 22, 23, 24, 25, 26, 27, 28, 29, 30, 31, 32, 33, 34, 35, 36, 37, 38, 39, 40, 41, 42, 43, 44, 45, 46, 47, 48, 49, 50, 51, 52, 53, 54, 55, 56, 57, 58, 59, 60, 61, 62, 63, 64, 65, 66, 67, 68, 69, 70, 71, 72, 73, 74, 75, 76, 77, 78, 79, 80, 81, 82, 83, 84, 85, 86, 87, 88, 89, 90, 91, 92, 93, 94, 95, 96, 97, 98, 99, 100, 101, 102, 103, 104, 105, 106, 107, 108, 109, 110, 111, 116, 117, 118, 119, 120, 121, 122, 123, 124, 125, 126, 127, 128, 129, 130, 131, 132, 133, 134, 135] (by decide +kernel) (by decide +kernel)
set_option maxRecDepth 20000 in
theorem gX4_now_X4_fitNow : GoodIn wsX4_now (wsV RX4 91 RX4 yX4_fitNow wsX4_fitNow) := goodIn_app (goodIn_of _ (by decide +kernel)) ggX4_now_X4_fitNow
set_option maxRecDepth 20000 in
theorem ggX4_now_X1_countParts : GoodIn wsX4_now wsX1_countParts := goodIn_r _ [115, 23, 64, 128, 129, 130, 131, 132, 133, 134, 135] (by decide +kernel) (by decide +kernel)
set_option maxRecDepth 20000 in
theorem gX4_now_X1_countParts : GoodIn wsX4_now (wsV RX4 98 RX1 yX1_countParts wsX1_countParts) := goodIn_app (goodIn_of _ (by decide +kernel)) ggX4_now_X1_countParts
theorem dX4_now_0 : decode cX4_now 0 = .ok (.iload_n 1, 1) := by decide +kernel
theorem dX4_now_1 : decode cX4_now 1 = .ok (.tableswitch 99 0 6 #[43, 51, 59, 67, 75, 83, 91], 43) := by decide +kernel
theorem dX4_now_44 : decode cX4_now 44 = .ok (.aload_n 0, 1) := by decide +kernel
theorem dX4_now_45 : decode cX4_now 45 = .ok (.getfield 19, 3) := by decide +kernel
theorem dX4_now_48 : decode cX4_now 48 = .ok (.getfield 82, 3) := by decide +kernel
theorem dX4_now_51 : decode cX4_now 51 = .ok (.ireturn, 1) := by decide +kernel
theorem dX4_now_52 : decode cX4_now 52 = .ok (.aload_n 0, 1) := by decide +kernel
theorem dX4_now_53 : decode cX4_now 53 = .ok (.getfield 19, 3) := by decide +kernel
theorem dX4_now_56 : decode cX4_now 56 = .ok (.getfield 85, 3) := by decide +kernel
theorem dX4_now_59 : decode cX4_now 59 = .ok (.ireturn, 1) := by decide +kernel
theorem dX4_now_60 : decode cX4_now 60 = .ok (.aload_n 0, 1) := by decide +kernel
theorem dX4_now_61 : decode cX4_now 61 = .ok (.getfield 19, 3) := by decide +kernel
theorem dX4_now_64 : decode cX4_now 64 = .ok (.getfield 88, 3) := by decide +kernel
theorem dX4_now_67 : decode cX4_now 67 = .ok (.ireturn, 1) := by decide +kernel
theorem dX4_now_68 : decode cX4_now 68 = .ok (.aload_n 0, 1) := by decide +kernel
theorem dX4_now_69 : decode cX4_now 69 = .ok (.invokevirtual 91, 3) := by decide +kernel
theorem dX4_now_72 : decode cX4_now 72 = .ok (.getfield 95, 3) := by decide +kernel
theorem dX4_now_75 : decode cX4_now 75 = .ok (.ireturn, 1) := by decide +kernel
theorem dX4_now_76 : decode cX4_now 76 = .ok (.aload_n 0, 1) := by decide +kernel
theorem dX4_now_77 : decode cX4_now 77 = .ok (.invokevirtual 91, 3) := by decide +kernel
theorem dX4_now_80 : decode cX4_now 80 = .ok (.invokevirtual 98, 3) := by decide +kernel
theorem dX4_now_83 : decode cX4_now 83 = .ok (.ireturn, 1) := by decide +kernel
theorem dX4_now_84 : decode cX4_now 84 = .ok (.aload_n 0, 1) := by decide +kernel
theorem dX4_now_85 : decode cX4_now 85 = .ok (.getfield 43, 3) := by decide +kernel
theorem dX4_now_88 : decode cX4_now 88 = .ok (.getfield 102, 3) := by decide +kernel
theorem dX4_now_91 : decode cX4_now 91 = .ok (.ireturn, 1) := by decide +kernel
theorem dX4_now_92 : decode cX4_now 92 = .ok (.aload_n 0, 1) := by decide +kernel
theorem dX4_now_93 : decode cX4_now 93 = .ok (.getfield 12, 3) := by decide +kernel
theorem dX4_now_96 : decode cX4_now 96 = .ok (.getfield 55, 3) := by decide +kernel
theorem dX4_now_99 : decode cX4_now 99 = .ok (.ireturn, 1) := by decide +kernel
theorem dX4_now_100 : decode cX4_now 100 = .ok (.iconst (-1), 1) := by decide +kernel
theorem dX4_now_101 : decode cX4_now 101 = .ok (.ireturn, 1) := by decide +kernel
set_option maxRecDepth 20000 in
theorem ggX4_level_X0_levelAt : GoodIn wsX4_level wsX0_levelAt := goodIn_r _ [6, 7, 8, 9, 10, 5, 11, 12, 13, 14, 15, 16, 17, 25, 26, 27, 28, 29] (by decide +kernel) (by decide +kernel)
set_option maxRecDepth 20000 in
theorem gX4_level_X0_levelAt : GoodIn wsX4_level (wsV RX4 105 RX0 yX0_levelAt wsX0_levelAt) := goodIn_app (goodIn_of _ (by decide +kernel)) ggX4_level_X0_levelAt
theorem dX4_level_0 : decode cX4_level 0 = .ok (.aload_n 0, 1) := by decide +kernel
theorem dX4_level_1 : decode cX4_level 1 = .ok (.getfield 19, 3) := by decide +kernel
theorem dX4_level_4 : decode cX4_level 4 = .ok (.iload_n 1, 1) := by decide +kernel
theorem dX4_level_5 : decode cX4_level 5 = .ok (.iload_n 2, 1) := by decide +kernel
theorem dX4_level_6 : decode cX4_level 6 = .ok (.invokevirtual 105, 3) := by decide +kernel
theorem dX4_level_9 : decode cX4_level 9 = .ok (.ireturn, 1) := by decide +kernel
set_option maxRecDepth 20000 in
theorem ggX4_pair_X4_fitNow : GoodIn wsX4_pair wsX4_fitNow := goodIn_r _ [8, 9, 10, 11, 12, 13, 14, 15, 16, 17, 18, 19, 20, 21, 22, 23, 24, 25, 26, 27, 28, 29, 30, 31, 32, 33, 34, 35, 36, 37, 38, 39, 40, 41, 42, 43, 44, 45, 46, 47, 48, 49, 50, 51, 52, 53, 54, 55, 56, 57, 58, 59, 60, 61, 62, 63, 64, 65, 66, 67, 68, 69, 70, 71, 72, 73, 74, 75, 76, 77, 78, 79, 80, 81, 82, 83, 84, 85, 86, 87, 88, 89, 90, 91, 92, 93, 94, 95, 96, 97, 98, 99, 100, 101, 102, 103, 104, 105, 106, 119, 120, 121, 122, 123, 124, 125, 126, 127, 128, 129, 130, 111, 112, 113, 114, 115, 116, 117, 118] (by decide +kernel) (by decide +kernel)
set_option maxRecDepth 20000 in
theorem gX4_pair_X4_fitNow : GoodIn wsX4_pair (wsV RX4 91 RX4 yX4_fitNow wsX4_fitNow) := goodIn_app (goodIn_of _ (by decide +kernel)) ggX4_pair_X4_fitNow
set_option maxRecDepth 20000 in
theorem ggX4_pair_X1_hasPair : GoodIn wsX4_pair wsX1_hasPair := goodIn_r _ [110, 23, 111, 112, 113, 114, 115, 116, 117, 118] (by decide +kernel) (by decide +kernel)
set_option maxRecDepth 20000 in
theorem gX4_pair_X1_hasPair : GoodIn wsX4_pair (wsV RX4 109 RX1 yX1_hasPair wsX1_hasPair) := goodIn_app (goodIn_of _ (by decide +kernel)) ggX4_pair_X1_hasPair
theorem dX4_pair_0 : decode cX4_pair 0 = .ok (.aload_n 0, 1) := by decide +kernel
theorem dX4_pair_1 : decode cX4_pair 1 = .ok (.invokevirtual 91, 3) := by decide +kernel
theorem dX4_pair_4 : decode cX4_pair 4 = .ok (.astore_n 3, 1) := by decide +kernel
theorem dX4_pair_5 : decode cX4_pair 5 = .ok (.aload_n 3, 1) := by decide +kernel
theorem dX4_pair_6 : decode cX4_pair 6 = .ok (.iload_n 1, 1) := by decide +kernel
theorem dX4_pair_7 : decode cX4_pair 7 = .ok (.invokevirtual 109, 3) := by decide +kernel
theorem dX4_pair_10 : decode cX4_pair 10 = .ok (.ifCond .eq 12, 3) := by decide +kernel
theorem dX4_pair_13 : decode cX4_pair 13 = .ok (.iload_n 2, 1) := by decide +kernel
theorem dX4_pair_14 : decode cX4_pair 14 = .ok (.ifCond .lt 8, 3) := by decide +kernel
theorem dX4_pair_17 : decode cX4_pair 17 = .ok (.iload_n 2, 1) := by decide +kernel
theorem dX4_pair_18 : decode cX4_pair 18 = .ok (.iconst 5, 1) := by decide +kernel
theorem dX4_pair_19 : decode cX4_pair 19 = .ok (.if_icmp .lt 11, 3) := by decide +kernel
theorem dX4_pair_22 : decode cX4_pair 22 = .ok (.new 112, 3) := by decide +kernel
theorem dX4_pair_25 : decode cX4_pair 25 = .ok (.dup, 1) := by decide +kernel
theorem dX4_pair_26 : decode cX4_pair 26 = .ok (.invokespecial 114, 3) := by decide +kernel
theorem dX4_pair_29 : decode cX4_pair 29 = .ok (.athrow, 1) := by decide +kernel
theorem dX4_pair_30 : decode cX4_pair 30 = .ok (.aload_n 3, 1) := by decide +kernel
theorem dX4_pair_31 : decode cX4_pair 31 = .ok (.getfield 115, 3) := by decide +kernel
theorem dX4_pair_34 : decode cX4_pair 34 = .ok (.iload_n 1, 1) := by decide +kernel
theorem dX4_pair_35 : decode cX4_pair 35 = .ok (.aaload, 1) := by decide +kernel
theorem dX4_pair_36 : decode cX4_pair 36 = .ok (.iload_n 2, 1) := by decide +kernel
theorem dX4_pair_37 : decode cX4_pair 37 = .ok (.iaload, 1) := by decide +kernel
theorem dX4_pair_38 : decode cX4_pair 38 = .ok (.ireturn, 1) := by decide +kernel
set_option maxRecDepth 20000 in
theorem ggX4_part_X0_hasMonth : GoodIn wsX4_part wsX0_hasMonth := goodIn_r _ [7, 8, 121, 122, 123, 124, 125] (by decide +kernel) (by decide +kernel)
set_option maxRecDepth 20000 in
theorem gX4_part_X0_hasMonth : GoodIn wsX4_part (wsV RX4 119 RX0 yX0_hasMonth wsX0_hasMonth) := goodIn_app (goodIn_of _ (by decide +kernel)) ggX4_part_X0_hasMonth
set_option maxRecDepth 20000 in
theorem ggX4_part_X4_fitNow : GoodIn wsX4_part wsX4_fitNow := goodIn_r _ [13, 14, 15, 1, 16, 17, 18, 19, 20, 21, 22, 23, 24, 25, 26, 27, 28, 29, 30, 31, 6, 32, 33, 34, 35, 36, 37, 38, 39, 4, 5, 7, 8, 40, 41, 42, 43, 44, 45, 46, 47, 48, 49, 50, 51, 52, 53, 54, 55, 56, 57, 58, 59, 60, 61, 62, 63, 64, 65, 66, 67, 68, 69, 70, 71, 72, 73, 74, 75, 76, 77, 78, 79, 80, 81, 82, 83, 84, 85, 86, 87, 88, 89, 90, 91, 92, 93, 94, 95, 96, 97, 98, 99, 100, 101, 102, 103, 104, 105, 106, 107, 108, 109, 110, 111, 112, 121, 122, 123, 124, 125, 113, 114, 115, 116, 117, 118, 119, 120] (by decide +kernel) (by decide +kernel)
set_option maxRecDepth 20000 in
theorem gX4_part_X4_fitNow : GoodIn wsX4_part (wsV RX4 91 RX4 yX4_fitNow wsX4_fitNow) := goodIn_app (goodIn_of _ (by decide +kernel)) ggX4_part_X4_fitNow
theorem dX4_part_0 : decode cX4_part 0 = .ok (.aload_n 0, 1) := by decide +kernel
theorem dX4_part_1 : decode cX4_part 1 = .ok (.getfield 19, 3) := by decide +kernel
theorem dX4_part_4 : decode cX4_part 4 = .ok (.iload_n 1, 1) := by decide +kernel
theorem dX4_part_5 : decode cX4_part 5 = .ok (.invokevirtual 119, 3) := by decide +kernel
theorem dX4_part_8 : decode cX4_part 8 = .ok (.ifCond .ne 5, 3) := by decide +kernel
theorem dX4_part_11 : decode cX4_part 11 = .ok (.iconst (-1), 1) := by decide +kernel
theorem dX4_part_12 : decode cX4_part 12 = .ok (.ireturn, 1) := by decide +kernel
theorem dX4_part_13 : decode cX4_part 13 = .ok (.aload_n 0, 1) := by decide +kernel
theorem dX4_part_14 : decode cX4_part 14 = .ok (.invokevirtual 91, 3) := by decide +kernel
theorem dX4_part_17 : decode cX4_part 17 = .ok (.getfield 122, 3) := by decide +kernel
theorem dX4_part_20 : decode cX4_part 20 = .ok (.iload_n 1, 1) := by decide +kernel
theorem dX4_part_21 : decode cX4_part 21 = .ok (.iaload, 1) := by decide +kernel
theorem dX4_part_22 : decode cX4_part 22 = .ok (.ireturn, 1) := by decide +kernel
set_option maxRecDepth 20000 in
theorem ggX4_index_X0_hasMonth : GoodIn wsX4_index wsX0_hasMonth := goodIn_r _ [8, 9, 126, 127, 128, 129, 130] (by decide +kernel) (by decide +kernel)
set_option maxRecDepth 20000 in
theorem gX4_index_X0_hasMonth : GoodIn wsX4_index (wsV RX4 119 RX0 yX0_hasMonth wsX0_hasMonth) := goodIn_app (goodIn_of _ (by decide +kernel)) ggX4_index_X0_hasMonth
set_option maxRecDepth 20000 in
theorem ggX4_index_X4_fitNow : GoodIn wsX4_index wsX4_fitNow := goodIn_r _ [14, 15, 16, 3, 17, 18, 19, 20, 21, 22, 23, 24, 25, 26, 27, 28, 29, 30, 31, 32, 7, 33, 34, 35, 36, 37, 38, 39, 40, 5, 6, 8, 9, 41, 42, 43, 44, 45, 46, 47, 48, 49, 50, 51, 52, 53, 54, 55, 56, 57, 58, 59, 60, 61, 62, 63, 64, 65, 66, 67, 68, 69, 70, 71, 72, 73, 74, 75, 76, 77, 78, 79, 80, 81, 82, 83, 84, 85, 86, 87, 88, 89, 90, 91, 92, 93, 94, 95, 96, 97, 98, 99, 100, 101, 102, 103, 104, 105, 106, 119, 120, 121, 122, 123, 124, 125, 126, 127, 128, 129, 130, 131, 132, 133, 134, 135, 136, 137, 138] (by decide +kernel) (by decide +kernel)
set_option maxRecDepth 20000 in
theorem gX4_index_X4_fitNow : GoodIn wsX4_index (wsV RX4 91 RX4 yX4_fitNow wsX4_fitNow) := goodIn_app (goodIn_of _ (by decide +kernel)) ggX4_index_X4_fitNow
set_option maxRecDepth 20000 in
theorem ggX4_index_X1_tellIndex : GoodIn wsX4_index wsX1_tellIndex := goodIn_r _ [110, 106, 97, 111, 13, 112, 113, 114, 62, 115, 116, 117, 118, 131, 132, 133, 134, 135, 136, 137, 138] (by decide +kernel) (by decide +kernel)
set_option maxRecDepth 20000 in
theorem gX4_index_X1_tellIndex : GoodIn wsX4_index (wsV RX4 126 RX1 yX1_tellIndex wsX1_tellIndex) := goodIn_app (goodIn_of _ (by decide +kernel)) ggX4_index_X1_tellIndex
theorem dX4_index_0 : decode cX4_index 0 = .ok (.aload_n 0, 1) := by decide +kernel
theorem dX4_index_1 : decode cX4_index 1 = .ok (.getfield 19, 3) := by decide +kernel
theorem dX4_index_4 : decode cX4_index 4 = .ok (.iload_n 1, 1) := by decide +kernel
theorem dX4_index_5 : decode cX4_index 5 = .ok (.invokevirtual 119, 3) := by decide +kernel
theorem dX4_index_8 : decode cX4_index 8 = .ok (.ifCond .ne 11, 3) := by decide +kernel
theorem dX4_index_11 : decode cX4_index 11 = .ok (.new 112, 3) := by decide +kernel
theorem dX4_index_14 : decode cX4_index 14 = .ok (.dup, 1) := by decide +kernel
theorem dX4_index_15 : decode cX4_index 15 = .ok (.invokespecial 114, 3) := by decide +kernel
theorem dX4_index_18 : decode cX4_index 18 = .ok (.athrow, 1) := by decide +kernel
theorem dX4_index_19 : decode cX4_index 19 = .ok (.aload_n 0, 1) := by decide +kernel
theorem dX4_index_20 : decode cX4_index 20 = .ok (.invokevirtual 91, 3) := by decide +kernel
theorem dX4_index_23 : decode cX4_index 23 = .ok (.iload_n 1, 1) := by decide +kernel
theorem dX4_index_24 : decode cX4_index 24 = .ok (.iload_n 2, 1) := by decide +kernel
theorem dX4_index_25 : decode cX4_index 25 = .ok (.invokevirtual 126, 3) := by decide +kernel
theorem dX4_index_28 : decode cX4_index 28 = .ok (.lreturn, 1) := by decide +kernel
set_option maxRecDepth 20000 in
theorem ggX4_off_X4_fitNow : GoodIn wsX4_off wsX4_fitNow := goodIn_r _ [8, 9, 10, 11, 12, 13, 14, 15, 16, 17, 18, 19, 20, 21, 22, 23, 24, 25, 26, 27, 28, 29, 30, 31, 32, 33, 34, 35, 36, 37, 38, 39, 40, 41, 42, 43, 44, 45, 46, 47, 48, 49, 50, 51, 52, 53, 54, 55, 56, 57, 58, 59, 60, 61, 62, 63, 64, 65, 66, 67, 68, 69, 70, 71, 72, 73, 74, 75, 76, 77, 78, 79, 80, 81, 82, 83, 84, 85, 86, 87, 88, 89, 90, 91, 92, 93, 94, 95, 96, 97, 98, 99, 100, 101, 102, 103, 104, 105, 106, 132, 133, 134, 135, 136, 137, 138, 139, 140, 141, 142, 143, 124, 125, 126, 127, 128, 129, 130, 131] (by decide +kernel) (by decide +kernel)
set_option maxRecDepth 20000 in
theorem gX4_off_X4_fitNow : GoodIn wsX4_off (wsV RX4 91 RX4 yX4_fitNow wsX4_fitNow) := goodIn_app (goodIn_of _ (by decide +kernel)) ggX4_off_X4_fitNow
set_option maxRecDepth 20000 in
theorem ggX4_off_X1_hasPair : GoodIn wsX4_off wsX1_hasPair := goodIn_r _ [110, 23, 124, 125, 126, 127, 128, 129, 130, 131] (by decide +kernel) (by decide +kernel)
set_option maxRecDepth 20000 in
theorem gX4_off_X1_hasPair : GoodIn wsX4_off (wsV RX4 109 RX1 yX1_hasPair wsX1_hasPair) := goodIn_app (goodIn_of _ (by decide +kernel)) ggX4_off_X1_hasPair
set_option maxRecDepth 20000 in
theorem ggX4_off_X1_offTop : GoodIn wsX4_off wsX1_offTop := goodIn_r _ [114, 45, 97, 106, 124, 125, 126, 127, 128, 129, 130, 131] (by decide +kernel) (by decide +kernel)
set_option maxRecDepth 20000 in
theorem gX4_off_X1_offTop : GoodIn wsX4_off (wsV RX4 130 RX1 yX1_offTop wsX1_offTop) := goodIn_app (goodIn_of _ (by decide +kernel)) ggX4_off_X1_offTop
set_option maxRecDepth 20000 in
theorem ggX4_off_X4_lowestTerms : GoodIn wsX4_off wsX4_lowestTerms := goodIn_r _ [117, 118, 119, 62, 120, 121, 122, 7, 123] (by decide +kernel) (by decide +kernel)
set_option maxRecDepth 20000 in
theorem gX4_off_X4_lowestTerms : GoodIn wsX4_off (va_wsS RX4 138 yX4_lowestTerms wsX4_lowestTerms) := goodIn_app (goodIn_of _ (by decide +kernel)) ggX4_off_X4_lowestTerms
theorem dX4_off_0 : decode cX4_off 0 = .ok (.aload_n 0, 1) := by decide +kernel
theorem dX4_off_1 : decode cX4_off 1 = .ok (.invokevirtual 91, 3) := by decide +kernel
theorem dX4_off_4 : decode cX4_off 4 = .ok (.astore_n 3, 1) := by decide +kernel
theorem dX4_off_5 : decode cX4_off 5 = .ok (.aload_n 3, 1) := by decide +kernel
theorem dX4_off_6 : decode cX4_off 6 = .ok (.iload_n 1, 1) := by decide +kernel
theorem dX4_off_7 : decode cX4_off 7 = .ok (.invokevirtual 109, 3) := by decide +kernel
theorem dX4_off_10 : decode cX4_off 10 = .ok (.ifCond .ne 11, 3) := by decide +kernel
theorem dX4_off_13 : decode cX4_off 13 = .ok (.new 112, 3) := by decide +kernel
theorem dX4_off_16 : decode cX4_off 16 = .ok (.dup, 1) := by decide +kernel
theorem dX4_off_17 : decode cX4_off 17 = .ok (.invokespecial 114, 3) := by decide +kernel
theorem dX4_off_20 : decode cX4_off 20 = .ok (.athrow, 1) := by decide +kernel
theorem dX4_off_21 : decode cX4_off 21 = .ok (.aload_n 3, 1) := by decide +kernel
theorem dX4_off_22 : decode cX4_off 22 = .ok (.iload_n 1, 1) := by decide +kernel
theorem dX4_off_23 : decode cX4_off 23 = .ok (.invokevirtual 130, 3) := by decide +kernel
theorem dX4_off_26 : decode cX4_off 26 = .ok (.aload_n 3, 1) := by decide +kernel
theorem dX4_off_27 : decode cX4_off 27 = .ok (.getfield 134, 3) := by decide +kernel
theorem dX4_off_30 : decode cX4_off 30 = .ok (.iload_n 2, 1) := by decide +kernel
theorem dX4_off_31 : decode cX4_off 31 = .ok (.invokestatic 138, 3) := by decide +kernel
theorem dX4_off_34 : decode cX4_off 34 = .ok (.lreturn, 1) := by decide +kernel
set_option maxRecDepth 20000 in
theorem ggX4_error_X4_fitNow : GoodIn wsX4_error wsX4_fitNow := goodIn_r _ [6, 7, 8, 9, 10, 11, 12, 13, 14, 15, 16, 17, 18, 19, 20, 21, 22, 23, 24, 25, 26, 27, 28, 29, 30, 31, 32, 33, 34, 35, 36, 37, 38, 39, 40, 41, 42, 43, 44, 45, 46, 47, 48, 49, 50, 51, 52, 53, 54, 55, 56, 57, 58, 59, 60, 61, 62, 63, 64, 65, 66, 67, 68, 69, 70, 71, 72, 73, 74, 75, 76, 77, 78, 79, 80, 81, 82, 83, 84, 85, 86, 87, 88, 89, 90, 91, 92, 93, 94, 95, 96, 97, 98, 99, 100, 101, 102, 103, 104, 130, 131, 132, 133, 134, 135, 136, 137, 138, 139, 140, 141, 122, 123, 124, 125, 126, 127, 128, 129] (by decide +kernel) (by decide +kernel)
set_option maxRecDepth 20000 in
theorem gX4_error_X4_fitNow : GoodIn wsX4_error (wsV RX4 91 RX4 yX4_fitNow wsX4_fitNow) := goodIn_app (goodIn_of _ (by decide +kernel)) ggX4_error_X4_fitNow
set_option maxRecDepth 20000 in
theorem ggX4_error_X1_errorTop : GoodIn wsX4_error wsX1_errorTop := goodIn_r _ [108, 21, 43, 109, 110, 111, 13, 112, 95, 104, 122, 123, 124, 125, 126, 127, 128, 129] (by decide +kernel) (by decide +kernel)
set_option maxRecDepth 20000 in
theorem gX4_error_X1_errorTop : GoodIn wsX4_error (wsV RX4 142 RX1 yX1_errorTop wsX1_errorTop) := goodIn_app (goodIn_of _ (by decide +kernel)) ggX4_error_X1_errorTop
set_option maxRecDepth 20000 in
theorem ggX4_error_X4_lowestTerms : GoodIn wsX4_error wsX4_lowestTerms := goodIn_r _ [115, 116, 117, 60, 118, 119, 120, 5, 121] (by decide +kernel) (by decide +kernel)
set_option maxRecDepth 20000 in
theorem gX4_error_X4_lowestTerms : GoodIn wsX4_error (va_wsS RX4 138 yX4_lowestTerms wsX4_lowestTerms) := goodIn_app (goodIn_of _ (by decide +kernel)) ggX4_error_X4_lowestTerms
theorem dX4_error_0 : decode cX4_error 0 = .ok (.aload_n 0, 1) := by decide +kernel
theorem dX4_error_1 : decode cX4_error 1 = .ok (.invokevirtual 91, 3) := by decide +kernel
theorem dX4_error_4 : decode cX4_error 4 = .ok (.astore_n 2, 1) := by decide +kernel
theorem dX4_error_5 : decode cX4_error 5 = .ok (.aload_n 2, 1) := by decide +kernel
theorem dX4_error_6 : decode cX4_error 6 = .ok (.invokevirtual 142, 3) := by decide +kernel
theorem dX4_error_9 : decode cX4_error 9 = .ok (.aload_n 2, 1) := by decide +kernel
theorem dX4_error_10 : decode cX4_error 10 = .ok (.getfield 134, 3) := by decide +kernel
theorem dX4_error_13 : decode cX4_error 13 = .ok (.iload_n 1, 1) := by decide +kernel
theorem dX4_error_14 : decode cX4_error 14 = .ok (.invokestatic 138, 3) := by decide +kernel
theorem dX4_error_17 : decode cX4_error 17 = .ok (.lreturn, 1) := by decide +kernel
set_option maxRecDepth 20000 in
theorem ggX4_worst_X4_fitNow : GoodIn wsX4_worst wsX4_fitNow := goodIn_r _ [5, 6, 7, 8, 9, 10, 11, 12, 13, 14, 15, 16, 17, 18, 19, 20, 21, 22, 23, 24, 25, 26, 27, 28, 29, 30, 31, 32, 33, 34, 35, 36, 37, 38, 39, 40, 41, 42, 43, 44, 45, 46, 47, 48, 49, 50, 51, 52, 53, 54, 55, 56, 57, 58, 59, 60, 61, 62, 63, 64, 65, 66, 67, 68, 69, 70, 71, 72, 73, 74, 75, 76, 77, 78, 79, 80, 81, 82, 83, 84, 85, 86, 87, 88, 89, 90, 91, 92, 93, 94, 95, 96, 97, 98, 99, 100, 101, 102, 103, 116, 117, 118, 119, 120, 121, 122, 123, 124, 125, 126, 127, 128, 129, 130, 131, 132, 133, 134, 135] (by decide +kernel) (by decide +kernel)
set_option maxRecDepth 20000 in
theorem gX4_worst_X4_fitNow : GoodIn wsX4_worst (wsV RX4 91 RX4 yX4_fitNow wsX4_fitNow) := goodIn_app (goodIn_of _ (by decide +kernel)) ggX4_worst_X4_fitNow
set_option maxRecDepth 20000 in
theorem ggX4_worst_X1_findWorst : GoodIn wsX4_worst wsX1_findWorst := goodIn_r _ [107, 108, 20, 109, 110, 59, 111, 112, 113, 114, 12, 115, 42, 94, 103, 128, 129, 130, 131, 132, 133, 134, 135] (by decide +kernel) (by decide +kernel)
set_option maxRecDepth 20000 in
theorem gX4_worst_X1_findWorst : GoodIn wsX4_worst (wsV RX4 146 RX1 yX1_findWorst wsX1_findWorst) := goodIn_app (goodIn_of _ (by decide +kernel)) ggX4_worst_X1_findWorst
theorem dX4_worst_0 : decode cX4_worst 0 = .ok (.aload_n 0, 1) := by decide +kernel
theorem dX4_worst_1 : decode cX4_worst 1 = .ok (.invokevirtual 91, 3) := by decide +kernel
theorem dX4_worst_4 : decode cX4_worst 4 = .ok (.invokevirtual 146, 3) := by decide +kernel
theorem dX4_worst_7 : decode cX4_worst 7 = .ok (.ireturn, 1) := by decide +kernel
set_option maxRecDepth 20000 in
theorem ggX4_without_X0_hasHome : GoodIn wsX4_without wsX0_hasHome := goodIn_r _ [10, 11, 141, 142, 143, 144, 145] (by decide +kernel) (by decide +kernel)
set_option maxRecDepth 20000 in
theorem gX4_without_X0_hasHome : GoodIn wsX4_without (wsV RX4 149 RX0 yX0_hasHome wsX0_hasHome) := goodIn_app (goodIn_of _ (by decide +kernel)) ggX4_without_X0_hasHome
set_option maxRecDepth 20000 in
theorem ggX4_without_X0_hasMonth : GoodIn wsX4_without wsX0_hasMonth := goodIn_r _ [15, 16, 141, 142, 143, 144, 145] (by decide +kernel) (by decide +kernel)
set_option maxRecDepth 20000 in
theorem gX4_without_X0_hasMonth : GoodIn wsX4_without (wsV RX4 119 RX0 yX0_hasMonth wsX0_hasMonth) := goodIn_app (goodIn_of _ (by decide +kernel)) ggX4_without_X0_hasMonth
set_option maxRecDepth 20000 in
theorem ggX4_without_X0_copyFrom : GoodIn wsX4_without wsX0_copyFrom := goodIn_r _ [20, 16, 11, 21, 22, 23, 24, 25, 26, 27, 141, 142, 143, 144, 145] (by decide +kernel) (by decide +kernel)
set_option maxRecDepth 20000 in
theorem gX4_without_X0_copyFrom : GoodIn wsX4_without (wsV RX4 69 RX0 yX0_copyFrom wsX0_copyFrom) := goodIn_app (goodIn_of _ (by decide +kernel)) ggX4_without_X0_copyFrom
set_option maxRecDepth 20000 in
theorem ggX4_without_X0_clearHome : GoodIn wsX4_without wsX0_clearHome := goodIn_r _ [31, 16, 32, 33, 34, 9, 35, 27, 21, 36, 37, 38, 39, 40, 7, 8, 10, 11, 41, 13, 14, 15, 141, 142, 143, 144, 145] (by decide +kernel) (by decide +kernel)
set_option maxRecDepth 20000 in
theorem gX4_without_X0_clearHome : GoodIn wsX4_without (wsV RX4 152 RX0 yX0_clearHome wsX0_clearHome) := goodIn_app (goodIn_of _ (by decide +kernel)) ggX4_without_X0_clearHome
set_option maxRecDepth 20000 in
theorem ggX4_without_X1_solve : GoodIn wsX4_without wsX1_solve := goodIn_r _ [46, 47, 48, 49, 50, 51, 45, 52, 53, 54, 55, 37, 38, 9, 39, 27, 40, 7, 8, 10, 11, 41, 13, 14, 15, 16, 56, 57, 58, 59, 60, 61, 62, 63, 64, 22, 65, 66, 67, 68, 69, 70, 71, 72, 73, 74, 75, 76, 77, 78, 79, 80, 81, 82, 83, 84, 85, 86, 87, 88, 89, 90, 91, 92, 93, 94, 95, 96, 97, 98, 99, 100, 101, 102, 103, 104, 105, 106, 107, 108, 109, 110, 111, 112, 113, 114, 115, 116, 117, 118, 119, 120, 141, 142, 143, 144, 145, 146, 147, 148, 149, 150, 151, 152, 153] (by decide +kernel) (by decide +kernel)
set_option maxRecDepth 20000 in
theorem gX4_without_X1_solve : GoodIn wsX4_without (wsV RX4 155 RX1 yX1_solve wsX1_solve) := goodIn_app (goodIn_of _ (by decide +kernel)) ggX4_without_X1_solve
set_option maxRecDepth 20000 in
theorem ggX4_without_X1_tellIndex : GoodIn wsX4_without wsX1_tellIndex := goodIn_r _ [124, 120, 111, 125, 126, 127, 128, 129, 76, 130, 131, 132, 133, 146, 147, 148, 149, 150, 151, 152, 153] (by decide +kernel) (by decide +kernel)
set_option maxRecDepth 20000 in
theorem gX4_without_X1_tellIndex : GoodIn wsX4_without (wsV RX4 126 RX1 yX1_tellIndex wsX1_tellIndex) := goodIn_app (goodIn_of _ (by decide +kernel)) ggX4_without_X1_tellIndex
theorem dX4_without_0 : decode cX4_without 0 = .ok (.aload_n 0, 1) := by decide +kernel
theorem dX4_without_1 : decode cX4_without 1 = .ok (.getfield 19, 3) := by decide +kernel
theorem dX4_without_4 : decode cX4_without 4 = .ok (.iload_n 1, 1) := by decide +kernel
theorem dX4_without_5 : decode cX4_without 5 = .ok (.invokevirtual 149, 3) := by decide +kernel
theorem dX4_without_8 : decode cX4_without 8 = .ok (.ifCond .eq 14, 3) := by decide +kernel
theorem dX4_without_11 : decode cX4_without 11 = .ok (.aload_n 0, 1) := by decide +kernel
theorem dX4_without_12 : decode cX4_without 12 = .ok (.getfield 19, 3) := by decide +kernel
theorem dX4_without_15 : decode cX4_without 15 = .ok (.iload_n 2, 1) := by decide +kernel
theorem dX4_without_16 : decode cX4_without 16 = .ok (.invokevirtual 119, 3) := by decide +kernel
theorem dX4_without_19 : decode cX4_without 19 = .ok (.ifCond .ne 11, 3) := by decide +kernel
theorem dX4_without_22 : decode cX4_without 22 = .ok (.new 112, 3) := by decide +kernel
theorem dX4_without_25 : decode cX4_without 25 = .ok (.dup, 1) := by decide +kernel
theorem dX4_without_26 : decode cX4_without 26 = .ok (.invokespecial 114, 3) := by decide +kernel
theorem dX4_without_29 : decode cX4_without 29 = .ok (.athrow, 1) := by decide +kernel
theorem dX4_without_30 : decode cX4_without 30 = .ok (.aload_n 0, 1) := by decide +kernel
theorem dX4_without_31 : decode cX4_without 31 = .ok (.getfield 23, 3) := by decide +kernel
theorem dX4_without_34 : decode cX4_without 34 = .ok (.aload_n 0, 1) := by decide +kernel
theorem dX4_without_35 : decode cX4_without 35 = .ok (.getfield 19, 3) := by decide +kernel
theorem dX4_without_38 : decode cX4_without 38 = .ok (.invokevirtual 69, 3) := by decide +kernel
theorem dX4_without_41 : decode cX4_without 41 = .ok (.aload_n 0, 1) := by decide +kernel
theorem dX4_without_42 : decode cX4_without 42 = .ok (.getfield 23, 3) := by decide +kernel
theorem dX4_without_45 : decode cX4_without 45 = .ok (.iload_n 1, 1) := by decide +kernel
theorem dX4_without_46 : decode cX4_without 46 = .ok (.invokevirtual 152, 3) := by decide +kernel
theorem dX4_without_49 : decode cX4_without 49 = .ok (.aload_n 0, 1) := by decide +kernel
theorem dX4_without_50 : decode cX4_without 50 = .ok (.getfield 33, 3) := by decide +kernel
theorem dX4_without_53 : decode cX4_without 53 = .ok (.aload_n 0, 1) := by decide +kernel
theorem dX4_without_54 : decode cX4_without 54 = .ok (.getfield 23, 3) := by decide +kernel
theorem dX4_without_57 : decode cX4_without 57 = .ok (.invokevirtual 155, 3) := by decide +kernel
theorem dX4_without_60 : decode cX4_without 60 = .ok (.aload_n 0, 1) := by decide +kernel
theorem dX4_without_61 : decode cX4_without 61 = .ok (.getfield 33, 3) := by decide +kernel
theorem dX4_without_64 : decode cX4_without 64 = .ok (.iload_n 2, 1) := by decide +kernel
theorem dX4_without_65 : decode cX4_without 65 = .ok (.iload_n 3, 1) := by decide +kernel
theorem dX4_without_66 : decode cX4_without 66 = .ok (.invokevirtual 126, 3) := by decide +kernel
theorem dX4_without_69 : decode cX4_without 69 = .ok (.lreturn, 1) := by decide +kernel
set_option maxRecDepth 20000 in
theorem ggX4_revised_X0_hasMonth : GoodIn wsX4_revised wsX0_hasMonth := goodIn_r _ [10, 11, 140, 141, 142, 143, 144] (by decide +kernel) (by decide +kernel)
set_option maxRecDepth 20000 in
theorem gX4_revised_X0_hasMonth : GoodIn wsX4_revised (wsV RX4 119 RX0 yX0_hasMonth wsX0_hasMonth) := goodIn_app (goodIn_of _ (by decide +kernel)) ggX4_revised_X0_hasMonth
set_option maxRecDepth 20000 in
theorem ggX4_revised_X0_canTake : GoodIn wsX4_revised wsX0_canTake := goodIn_r _ [15, 16, 17, 18, 19, 9, 20, 21, 22, 7, 8, 10, 11, 140, 141, 142, 143, 144] (by decide +kernel) (by decide +kernel)
set_option maxRecDepth 20000 in
theorem gX4_revised_X0_canTake : GoodIn wsX4_revised (wsV RX4 158 RX0 yX0_canTake wsX0_canTake) := goodIn_app (goodIn_of _ (by decide +kernel)) ggX4_revised_X0_canTake
set_option maxRecDepth 20000 in
theorem ggX4_revised_X0_copyFrom : GoodIn wsX4_revised wsX0_copyFrom := goodIn_r _ [26, 11, 21, 27, 28, 29, 30, 31, 32, 16, 140, 141, 142, 143, 144] (by decide +kernel) (by decide +kernel)
set_option maxRecDepth 20000 in
theorem gX4_revised_X0_copyFrom : GoodIn wsX4_revised (wsV RX4 69 RX0 yX0_copyFrom wsX0_copyFrom) := goodIn_app (goodIn_of _ (by decide +kernel)) ggX4_revised_X0_copyFrom
set_option maxRecDepth 20000 in
theorem ggX4_revised_X0_putSale : GoodIn wsX4_revised wsX0_putSale := goodIn_r _ [36, 16, 27, 37, 13, 14, 9, 15, 17, 18, 19, 20, 21, 22, 7, 8, 10, 11, 140, 141, 142, 143, 144] (by decide +kernel) (by decide +kernel)
set_option maxRecDepth 20000 in
theorem gX4_revised_X0_putSale : GoodIn wsX4_revised (wsV RX4 162 RX0 yX0_putSale wsX0_putSale) := goodIn_app (goodIn_of _ (by decide +kernel)) ggX4_revised_X0_putSale
set_option maxRecDepth 20000 in
theorem ggX4_revised_X1_solve : GoodIn wsX4_revised wsX1_solve := goodIn_r _ [42, 43, 44, 45, 46, 47, 41, 48, 49, 50, 51, 52, 53, 9, 54, 16, 17, 18, 19, 20, 21, 22, 7, 8, 10, 11, 55, 56, 57, 58, 59, 60, 61, 62, 63, 28, 64, 65, 66, 67, 68, 69, 70, 71, 72, 73, 74, 75, 76, 77, 78, 79, 80, 81, 82, 83, 84, 85, 86, 87, 88, 89, 90, 91, 92, 93, 94, 95, 96, 97, 98, 99, 100, 101, 102, 103, 104, 105, 106, 107, 108, 109, 110, 111, 112, 113, 114, 115, 116, 117, 118, 119, 140, 141, 142, 143, 144, 145, 146, 147, 148, 149, 150, 151, 152] (by decide +kernel) (by decide +kernel)
set_option maxRecDepth 20000 in
theorem gX4_revised_X1_solve : GoodIn wsX4_revised (wsV RX4 155 RX1 yX1_solve wsX1_solve) := goodIn_app (goodIn_of _ (by decide +kernel)) ggX4_revised_X1_solve
set_option maxRecDepth 20000 in
theorem ggX4_revised_X1_tellIndex : GoodIn wsX4_revised wsX1_tellIndex := goodIn_r _ [123, 119, 110, 124, 125, 126, 127, 128, 75, 129, 130, 131, 132, 145, 146, 147, 148, 149, 150, 151, 152] (by decide +kernel) (by decide +kernel)
set_option maxRecDepth 20000 in
theorem gX4_revised_X1_tellIndex : GoodIn wsX4_revised (wsV RX4 126 RX1 yX1_tellIndex wsX1_tellIndex) := goodIn_app (goodIn_of _ (by decide +kernel)) ggX4_revised_X1_tellIndex
theorem dX4_revised_0 : decode cX4_revised 0 = .ok (.aload_n 0, 1) := by decide +kernel
theorem dX4_revised_1 : decode cX4_revised 1 = .ok (.getfield 19, 3) := by decide +kernel
theorem dX4_revised_4 : decode cX4_revised 4 = .ok (.iload 4, 2) := by decide +kernel
theorem dX4_revised_6 : decode cX4_revised 6 = .ok (.invokevirtual 119, 3) := by decide +kernel
theorem dX4_revised_9 : decode cX4_revised 9 = .ok (.ifCond .eq 16, 3) := by decide +kernel
theorem dX4_revised_12 : decode cX4_revised 12 = .ok (.aload_n 0, 1) := by decide +kernel
theorem dX4_revised_13 : decode cX4_revised 13 = .ok (.getfield 19, 3) := by decide +kernel
theorem dX4_revised_16 : decode cX4_revised 16 = .ok (.iload_n 1, 1) := by decide +kernel
theorem dX4_revised_17 : decode cX4_revised 17 = .ok (.iload_n 2, 1) := by decide +kernel
theorem dX4_revised_18 : decode cX4_revised 18 = .ok (.iload_n 3, 1) := by decide +kernel
theorem dX4_revised_19 : decode cX4_revised 19 = .ok (.invokevirtual 158, 3) := by decide +kernel
theorem dX4_revised_22 : decode cX4_revised 22 = .ok (.ifCond .ne 11, 3) := by decide +kernel
theorem dX4_revised_25 : decode cX4_revised 25 = .ok (.new 112, 3) := by decide +kernel
theorem dX4_revised_28 : decode cX4_revised 28 = .ok (.dup, 1) := by decide +kernel
theorem dX4_revised_29 : decode cX4_revised 29 = .ok (.invokespecial 114, 3) := by decide +kernel
theorem dX4_revised_32 : decode cX4_revised 32 = .ok (.athrow, 1) := by decide +kernel
theorem dX4_revised_33 : decode cX4_revised 33 = .ok (.aload_n 0, 1) := by decide +kernel
theorem dX4_revised_34 : decode cX4_revised 34 = .ok (.getfield 23, 3) := by decide +kernel
theorem dX4_revised_37 : decode cX4_revised 37 = .ok (.aload_n 0, 1) := by decide +kernel
theorem dX4_revised_38 : decode cX4_revised 38 = .ok (.getfield 19, 3) := by decide +kernel
theorem dX4_revised_41 : decode cX4_revised 41 = .ok (.invokevirtual 69, 3) := by decide +kernel
theorem dX4_revised_44 : decode cX4_revised 44 = .ok (.aload_n 0, 1) := by decide +kernel
theorem dX4_revised_45 : decode cX4_revised 45 = .ok (.getfield 23, 3) := by decide +kernel
theorem dX4_revised_48 : decode cX4_revised 48 = .ok (.iload_n 1, 1) := by decide +kernel
theorem dX4_revised_49 : decode cX4_revised 49 = .ok (.iload_n 2, 1) := by decide +kernel
theorem dX4_revised_50 : decode cX4_revised 50 = .ok (.iload_n 3, 1) := by decide +kernel
theorem dX4_revised_51 : decode cX4_revised 51 = .ok (.invokevirtual 162, 3) := by decide +kernel
theorem dX4_revised_54 : decode cX4_revised 54 = .ok (.aload_n 0, 1) := by decide +kernel
theorem dX4_revised_55 : decode cX4_revised 55 = .ok (.getfield 33, 3) := by decide +kernel
theorem dX4_revised_58 : decode cX4_revised 58 = .ok (.aload_n 0, 1) := by decide +kernel
theorem dX4_revised_59 : decode cX4_revised 59 = .ok (.getfield 23, 3) := by decide +kernel
theorem dX4_revised_62 : decode cX4_revised 62 = .ok (.invokevirtual 155, 3) := by decide +kernel
theorem dX4_revised_65 : decode cX4_revised 65 = .ok (.aload_n 0, 1) := by decide +kernel
theorem dX4_revised_66 : decode cX4_revised 66 = .ok (.getfield 33, 3) := by decide +kernel
theorem dX4_revised_69 : decode cX4_revised 69 = .ok (.iload 4, 2) := by decide +kernel
theorem dX4_revised_71 : decode cX4_revised 71 = .ok (.iload 5, 2) := by decide +kernel
theorem dX4_revised_73 : decode cX4_revised 73 = .ok (.invokevirtual 126, 3) := by decide +kernel
theorem dX4_revised_76 : decode cX4_revised 76 = .ok (.lreturn, 1) := by decide +kernel
set_option maxRecDepth 20000 in
theorem ggX4_worth_X0_hasHome : GoodIn wsX4_worth wsX0_hasHome := goodIn_r _ [10, 11, 135, 136, 137, 138, 139] (by decide +kernel) (by decide +kernel)
set_option maxRecDepth 20000 in
theorem gX4_worth_X0_hasHome : GoodIn wsX4_worth (wsV RX4 149 RX0 yX0_hasHome wsX0_hasHome) := goodIn_app (goodIn_of _ (by decide +kernel)) ggX4_worth_X0_hasHome
set_option maxRecDepth 20000 in
theorem ggX4_worth_X0_hasMonth : GoodIn wsX4_worth wsX0_hasMonth := goodIn_r _ [15, 16, 135, 136, 137, 138, 139] (by decide +kernel) (by decide +kernel)
set_option maxRecDepth 20000 in
theorem gX4_worth_X0_hasMonth : GoodIn wsX4_worth (wsV RX4 119 RX0 yX0_hasMonth wsX0_hasMonth) := goodIn_app (goodIn_of _ (by decide +kernel)) ggX4_worth_X0_hasMonth
set_option maxRecDepth 20000 in
theorem ggX4_worth_X0_saleNearest : GoodIn wsX4_worth wsX0_saleNearest := goodIn_r _ [20, 16, 21, 22, 23, 9, 24, 25, 26, 7, 8, 10, 11, 27, 13, 14, 15, 135, 136, 137, 138, 139] (by decide +kernel) (by decide +kernel)
set_option maxRecDepth 20000 in
theorem gX4_worth_X0_saleNearest : GoodIn wsX4_worth (wsV RX4 167 RX0 yX0_saleNearest wsX0_saleNearest) := goodIn_app (goodIn_of _ (by decide +kernel)) ggX4_worth_X0_saleNearest
set_option maxRecDepth 20000 in
theorem ggX4_worth_X4_fitNow : GoodIn wsX4_worth wsX4_fitNow := goodIn_r _ [32, 33, 34, 1, 35, 36, 37, 38, 39, 40, 41, 42, 43, 44, 45, 46, 47, 48, 22, 23, 9, 24, 25, 26, 7, 8, 10, 11, 27, 13, 14, 15, 16, 49, 50, 51, 52, 53, 54, 55, 56, 57, 58, 59, 60, 61, 62, 63, 64, 65, 66, 67, 68, 69, 70, 71, 72, 73, 74, 75, 76, 77, 78, 79, 80, 81, 82, 83, 84, 85, 86, 87, 88, 89, 90, 91, 92, 93, 94, 95, 96, 97, 98, 99, 100, 101, 102, 103, 104, 105, 106, 107, 108, 109, 110, 111, 112, 113, 114, 120, 121, 122, 123, 124, 125, 126, 135, 136, 137, 138, 139, 127, 128, 129, 130, 131, 132, 133, 134] (by decide +kernel) (by decide +kernel)
set_option maxRecDepth 20000 in
theorem gX4_worth_X4_fitNow : GoodIn wsX4_worth (wsV RX4 91 RX4 yX4_fitNow wsX4_fitNow) := goodIn_app (goodIn_of _ (by decide +kernel)) ggX4_worth_X4_fitNow
set_option maxRecDepth 20000 in
theorem ggX4_worth_X0_levelAt : GoodIn wsX4_worth wsX0_levelAt := goodIn_r _ [24, 25, 26, 7, 8, 9, 10, 11, 27, 13, 14, 15, 16, 135, 136, 137, 138, 139] (by decide +kernel) (by decide +kernel)
set_option maxRecDepth 20000 in
theorem gX4_worth_X0_levelAt : GoodIn wsX4_worth (wsV RX4 105 RX0 yX0_levelAt wsX0_levelAt) := goodIn_app (goodIn_of _ (by decide +kernel)) ggX4_worth_X0_levelAt
set_option maxRecDepth 20000 in
theorem ggX4_worth_J9_floorDiv_f86c9 : GoodIn wsX4_worth wsJ9_floorDiv_f86c9 := goodIn_r _ [119] (by decide +kernel) (by decide +kernel)
set_option maxRecDepth 20000 in
theorem gX4_worth_J9_floorDiv_f86c9 : GoodIn wsX4_worth (va_wsS RX4 174 yJ9_floorDiv_f86c9 wsJ9_floorDiv_f86c9) := goodIn_app (goodIn_of _ (by decide +kernel)) ggX4_worth_J9_floorDiv_f86c9
theorem dX4_worth_0 : decode cX4_worth 0 = .ok (.aload_n 0, 1) := by decide +kernel
theorem dX4_worth_1 : decode cX4_worth 1 = .ok (.getfield 19, 3) := by decide +kernel
theorem dX4_worth_4 : decode cX4_worth 4 = .ok (.iload_n 1, 1) := by decide +kernel
theorem dX4_worth_5 : decode cX4_worth 5 = .ok (.invokevirtual 149, 3) := by decide +kernel
theorem dX4_worth_8 : decode cX4_worth 8 = .ok (.ifCond .eq 14, 3) := by decide +kernel
theorem dX4_worth_11 : decode cX4_worth 11 = .ok (.aload_n 0, 1) := by decide +kernel
theorem dX4_worth_12 : decode cX4_worth 12 = .ok (.getfield 19, 3) := by decide +kernel
theorem dX4_worth_15 : decode cX4_worth 15 = .ok (.iload_n 2, 1) := by decide +kernel
theorem dX4_worth_16 : decode cX4_worth 16 = .ok (.invokevirtual 119, 3) := by decide +kernel
theorem dX4_worth_19 : decode cX4_worth 19 = .ok (.ifCond .ne 6, 3) := by decide +kernel
theorem dX4_worth_22 : decode cX4_worth 22 = .ok (.ldc 166, 2) := by decide +kernel
theorem dX4_worth_24 : decode cX4_worth 24 = .ok (.ireturn, 1) := by decide +kernel
theorem dX4_worth_25 : decode cX4_worth 25 = .ok (.aload_n 0, 1) := by decide +kernel
theorem dX4_worth_26 : decode cX4_worth 26 = .ok (.getfield 19, 3) := by decide +kernel
theorem dX4_worth_29 : decode cX4_worth 29 = .ok (.iload_n 1, 1) := by decide +kernel
theorem dX4_worth_30 : decode cX4_worth 30 = .ok (.iload_n 2, 1) := by decide +kernel
theorem dX4_worth_31 : decode cX4_worth 31 = .ok (.invokevirtual 167, 3) := by decide +kernel
theorem dX4_worth_34 : decode cX4_worth 34 = .ok (.istore_n 3, 1) := by decide +kernel
theorem dX4_worth_35 : decode cX4_worth 35 = .ok (.aload_n 0, 1) := by decide +kernel
theorem dX4_worth_36 : decode cX4_worth 36 = .ok (.invokevirtual 91, 3) := by decide +kernel
theorem dX4_worth_39 : decode cX4_worth 39 = .ok (.astore 4, 2) := by decide +kernel
theorem dX4_worth_41 : decode cX4_worth 41 = .ok (.iload_n 3, 1) := by decide +kernel
theorem dX4_worth_42 : decode cX4_worth 42 = .ok (.iconst (-1), 1) := by decide +kernel
theorem dX4_worth_43 : decode cX4_worth 43 = .ok (.if_icmp .eq 30, 3) := by decide +kernel
theorem dX4_worth_46 : decode cX4_worth 46 = .ok (.aload 4, 2) := by decide +kernel
theorem dX4_worth_48 : decode cX4_worth 48 = .ok (.getfield 122, 3) := by decide +kernel
theorem dX4_worth_51 : decode cX4_worth 51 = .ok (.iload_n 3, 1) := by decide +kernel
theorem dX4_worth_52 : decode cX4_worth 52 = .ok (.iaload, 1) := by decide +kernel
theorem dX4_worth_53 : decode cX4_worth 53 = .ok (.aload 4, 2) := by decide +kernel
theorem dX4_worth_55 : decode cX4_worth 55 = .ok (.getfield 122, 3) := by decide +kernel
theorem dX4_worth_58 : decode cX4_worth 58 = .ok (.iload_n 2, 1) := by decide +kernel
theorem dX4_worth_59 : decode cX4_worth 59 = .ok (.iaload, 1) := by decide +kernel
theorem dX4_worth_60 : decode cX4_worth 60 = .ok (.if_icmp .ne 13, 3) := by decide +kernel
theorem dX4_worth_63 : decode cX4_worth 63 = .ok (.aload 4, 2) := by decide +kernel
theorem dX4_worth_65 : decode cX4_worth 65 = .ok (.getfield 134, 3) := by decide +kernel
theorem dX4_worth_68 : decode cX4_worth 68 = .ok (.lconst 0, 1) := by decide +kernel
theorem dX4_worth_69 : decode cX4_worth 69 = .ok (.lcmp, 1) := by decide +kernel
theorem dX4_worth_70 : decode cX4_worth 70 = .ok (.ifCond .gt 6, 3) := by decide +kernel
theorem dX4_worth_73 : decode cX4_worth 73 = .ok (.ldc 166, 2) := by decide +kernel
theorem dX4_worth_75 : decode cX4_worth 75 = .ok (.ireturn, 1) := by decide +kernel
theorem dX4_worth_76 : decode cX4_worth 76 = .ok (.aload 4, 2) := by decide +kernel
theorem dX4_worth_78 : decode cX4_worth 78 = .ok (.getfield 170, 3) := by decide +kernel
theorem dX4_worth_81 : decode cX4_worth 81 = .ok (.iload_n 2, 1) := by decide +kernel
theorem dX4_worth_82 : decode cX4_worth 82 = .ok (.laload, 1) := by decide +kernel
theorem dX4_worth_83 : decode cX4_worth 83 = .ok (.aload 4, 2) := by decide +kernel
theorem dX4_worth_85 : decode cX4_worth 85 = .ok (.getfield 170, 3) := by decide +kernel
theorem dX4_worth_88 : decode cX4_worth 88 = .ok (.iload_n 3, 1) := by decide +kernel
theorem dX4_worth_89 : decode cX4_worth 89 = .ok (.laload, 1) := by decide +kernel
theorem dX4_worth_90 : decode cX4_worth 90 = .ok (.lsub, 1) := by decide +kernel
theorem dX4_worth_91 : decode cX4_worth 91 = .ok (.lstore 5, 2) := by decide +kernel
theorem dX4_worth_93 : decode cX4_worth 93 = .ok (.aload_n 0, 1) := by decide +kernel
theorem dX4_worth_94 : decode cX4_worth 94 = .ok (.getfield 19, 3) := by decide +kernel
theorem dX4_worth_97 : decode cX4_worth 97 = .ok (.iload_n 1, 1) := by decide +kernel
theorem dX4_worth_98 : decode cX4_worth 98 = .ok (.iload_n 3, 1) := by decide +kernel
theorem dX4_worth_99 : decode cX4_worth 99 = .ok (.invokevirtual 105, 3) := by decide +kernel
theorem dX4_worth_102 : decode cX4_worth 102 = .ok (.lload 5, 2) := by decide +kernel
theorem dX4_worth_104 : decode cX4_worth 104 = .ok (.aload 4, 2) := by decide +kernel
theorem dX4_worth_106 : decode cX4_worth 106 = .ok (.getfield 134, 3) := by decide +kernel
theorem dX4_worth_109 : decode cX4_worth 109 = .ok (.invokestatic 174, 3) := by decide +kernel
theorem dX4_worth_112 : decode cX4_worth 112 = .ok (.l2i, 1) := by decide +kernel
theorem dX4_worth_113 : decode cX4_worth 113 = .ok (.iadd, 1) := by decide +kernel
theorem dX4_worth_114 : decode cX4_worth 114 = .ok (.ireturn, 1) := by decide +kernel
set_option maxRecDepth 20000 in
theorem ggX4_home_X4_beginAct : GoodIn wsX4_home wsX4_beginAct := goodIn_r _ [7, 8, 1, 9, 10, 11, 12, 13, 14, 15, 16, 17, 18, 19, 20, 21, 22, 23, 24, 25, 26, 27, 28, 29, 30, 31, 32, 33, 34, 35, 40, 41, 42, 43, 44, 45, 46, 52, 53, 54, 47, 48, 49, 50, 51] (by decide +kernel) (by decide +kernel)
set_option maxRecDepth 20000 in
theorem gX4_home_X4_beginAct : GoodIn wsX4_home (wsV RX4 180 RX4 yX4_beginAct wsX4_beginAct) := goodIn_app (goodIn_of _ (by decide +kernel)) ggX4_home_X4_beginAct
set_option maxRecDepth 20000 in
theorem ggX4_home_X0_addHome : GoodIn wsX4_home wsX0_addHome := goodIn_r _ [39, 28, 47, 48, 49, 50, 51] (by decide +kernel) (by decide +kernel)
set_option maxRecDepth 20000 in
theorem gX4_home_X0_addHome : GoodIn wsX4_home (wsV RX4 183 RX0 yX0_addHome wsX0_addHome) := goodIn_app (goodIn_of _ (by decide +kernel)) ggX4_home_X0_addHome
theorem dX4_home_0 : decode cX4_home 0 = .ok (.aload_n 0, 1) := by decide +kernel
theorem dX4_home_1 : decode cX4_home 1 = .ok (.getfield 19, 3) := by decide +kernel
theorem dX4_home_4 : decode cX4_home 4 = .ok (.getfield 85, 3) := by decide +kernel
theorem dX4_home_7 : decode cX4_home 7 = .ok (.bipush 6, 2) := by decide +kernel
theorem dX4_home_9 : decode cX4_home 9 = .ok (.if_icmp .lt 6, 3) := by decide +kernel
theorem dX4_home_12 : decode cX4_home 12 = .ok (.bipush (-2), 2) := by decide +kernel
theorem dX4_home_14 : decode cX4_home 14 = .ok (.ireturn, 1) := by decide +kernel
theorem dX4_home_15 : decode cX4_home 15 = .ok (.aload_n 0, 1) := by decide +kernel
theorem dX4_home_16 : decode cX4_home 16 = .ok (.invokevirtual 180, 3) := by decide +kernel
theorem dX4_home_19 : decode cX4_home 19 = .ok (.aload_n 0, 1) := by decide +kernel
theorem dX4_home_20 : decode cX4_home 20 = .ok (.getfield 19, 3) := by decide +kernel
theorem dX4_home_23 : decode cX4_home 23 = .ok (.invokevirtual 183, 3) := by decide +kernel
theorem dX4_home_26 : decode cX4_home 26 = .ok (.ireturn, 1) := by decide +kernel
set_option maxRecDepth 20000 in
theorem ggX4_sale_X0_canTake : GoodIn wsX4_sale wsX0_canTake := goodIn_r _ [7, 8, 9, 10, 11, 6, 12, 13, 14, 15, 16, 17, 18, 60, 61, 62, 63, 64] (by decide +kernel) (by decide +kernel)
set_option maxRecDepth 20000 in
theorem gX4_sale_X0_canTake : GoodIn wsX4_sale (wsV RX4 158 RX0 yX0_canTake wsX0_canTake) := goodIn_app (goodIn_of _ (by decide +kernel)) ggX4_sale_X0_canTake
set_option maxRecDepth 20000 in
theorem ggX4_sale_X4_beginAct : GoodIn wsX4_sale wsX4_beginAct := goodIn_r _ [23, 24, 1, 25, 26, 27, 28, 29, 30, 31, 32, 33, 34, 35, 36, 37, 38, 39, 40, 6, 41, 18, 13, 42, 43, 44, 45, 46, 47, 8, 53, 54, 55, 56, 57, 58, 59, 65, 66, 67, 60, 61, 62, 63, 64] (by decide +kernel) (by decide +kernel)
set_option maxRecDepth 20000 in
theorem gX4_sale_X4_beginAct : GoodIn wsX4_sale (wsV RX4 180 RX4 yX4_beginAct wsX4_beginAct) := goodIn_app (goodIn_of _ (by decide +kernel)) ggX4_sale_X4_beginAct
set_option maxRecDepth 20000 in
theorem ggX4_sale_X0_putSale : GoodIn wsX4_sale wsX0_putSale := goodIn_r _ [51, 8, 42, 52, 4, 5, 6, 7, 9, 10, 11, 12, 13, 14, 15, 16, 17, 18, 60, 61, 62, 63, 64] (by decide +kernel) (by decide +kernel)
set_option maxRecDepth 20000 in
theorem gX4_sale_X0_putSale : GoodIn wsX4_sale (wsV RX4 162 RX0 yX0_putSale wsX0_putSale) := goodIn_app (goodIn_of _ (by decide +kernel)) ggX4_sale_X0_putSale
theorem dX4_sale_0 : decode cX4_sale 0 = .ok (.aload_n 0, 1) := by decide +kernel
theorem dX4_sale_1 : decode cX4_sale 1 = .ok (.getfield 19, 3) := by decide +kernel
theorem dX4_sale_4 : decode cX4_sale 4 = .ok (.iload_n 1, 1) := by decide +kernel
theorem dX4_sale_5 : decode cX4_sale 5 = .ok (.iload_n 2, 1) := by decide +kernel
theorem dX4_sale_6 : decode cX4_sale 6 = .ok (.iload_n 3, 1) := by decide +kernel
theorem dX4_sale_7 : decode cX4_sale 7 = .ok (.invokevirtual 158, 3) := by decide +kernel
theorem dX4_sale_10 : decode cX4_sale 10 = .ok (.ifCond .ne 5, 3) := by decide +kernel
theorem dX4_sale_13 : decode cX4_sale 13 = .ok (.iconst (-1), 1) := by decide +kernel
theorem dX4_sale_14 : decode cX4_sale 14 = .ok (.ireturn, 1) := by decide +kernel
theorem dX4_sale_15 : decode cX4_sale 15 = .ok (.aload_n 0, 1) := by decide +kernel
theorem dX4_sale_16 : decode cX4_sale 16 = .ok (.getfield 19, 3) := by decide +kernel
theorem dX4_sale_19 : decode cX4_sale 19 = .ok (.getfield 88, 3) := by decide +kernel
theorem dX4_sale_22 : decode cX4_sale 22 = .ok (.bipush 18, 2) := by decide +kernel
theorem dX4_sale_24 : decode cX4_sale 24 = .ok (.if_icmp .lt 6, 3) := by decide +kernel
theorem dX4_sale_27 : decode cX4_sale 27 = .ok (.bipush (-2), 2) := by decide +kernel
theorem dX4_sale_29 : decode cX4_sale 29 = .ok (.ireturn, 1) := by decide +kernel
theorem dX4_sale_30 : decode cX4_sale 30 = .ok (.aload_n 0, 1) := by decide +kernel
theorem dX4_sale_31 : decode cX4_sale 31 = .ok (.invokevirtual 180, 3) := by decide +kernel
theorem dX4_sale_34 : decode cX4_sale 34 = .ok (.aload_n 0, 1) := by decide +kernel
theorem dX4_sale_35 : decode cX4_sale 35 = .ok (.getfield 19, 3) := by decide +kernel
theorem dX4_sale_38 : decode cX4_sale 38 = .ok (.iload_n 1, 1) := by decide +kernel
theorem dX4_sale_39 : decode cX4_sale 39 = .ok (.iload_n 2, 1) := by decide +kernel
theorem dX4_sale_40 : decode cX4_sale 40 = .ok (.iload_n 3, 1) := by decide +kernel
theorem dX4_sale_41 : decode cX4_sale 41 = .ok (.invokevirtual 162, 3) := by decide +kernel
theorem dX4_sale_44 : decode cX4_sale 44 = .ok (.aload_n 0, 1) := by decide +kernel
theorem dX4_sale_45 : decode cX4_sale 45 = .ok (.getfield 19, 3) := by decide +kernel
theorem dX4_sale_48 : decode cX4_sale 48 = .ok (.getfield 88, 3) := by decide +kernel
theorem dX4_sale_51 : decode cX4_sale 51 = .ok (.ireturn, 1) := by decide +kernel
set_option maxRecDepth 20000 in
theorem ggX4_drop_X0_levelAt : GoodIn wsX4_drop wsX0_levelAt := goodIn_r _ [7, 8, 9, 10, 11, 6, 12, 13, 14, 15, 16, 17, 18, 60, 61, 62, 63, 64] (by decide +kernel) (by decide +kernel)
set_option maxRecDepth 20000 in
theorem gX4_drop_X0_levelAt : GoodIn wsX4_drop (wsV RX4 105 RX0 yX0_levelAt wsX0_levelAt) := goodIn_app (goodIn_of _ (by decide +kernel)) ggX4_drop_X0_levelAt
set_option maxRecDepth 20000 in
theorem ggX4_drop_X4_beginAct : GoodIn wsX4_drop wsX4_beginAct := goodIn_r _ [23, 24, 1, 25, 26, 27, 28, 29, 30, 31, 32, 33, 34, 35, 36, 37, 38, 39, 40, 6, 41, 18, 13, 42, 43, 44, 45, 46, 47, 8, 53, 54, 55, 56, 57, 58, 59, 65, 66, 67, 60, 61, 62, 63, 64] (by decide +kernel) (by decide +kernel)
set_option maxRecDepth 20000 in
theorem gX4_drop_X4_beginAct : GoodIn wsX4_drop (wsV RX4 180 RX4 yX4_beginAct wsX4_beginAct) := goodIn_app (goodIn_of _ (by decide +kernel)) ggX4_drop_X4_beginAct
set_option maxRecDepth 20000 in
theorem ggX4_drop_X0_takeSale : GoodIn wsX4_drop wsX0_takeSale := goodIn_r _ [51, 8, 42, 52, 4, 5, 6, 7, 9, 10, 11, 12, 13, 14, 15, 16, 17, 18, 60, 61, 62, 63, 64] (by decide +kernel) (by decide +kernel)
set_option maxRecDepth 20000 in
theorem gX4_drop_X0_takeSale : GoodIn wsX4_drop (wsV RX4 186 RX0 yX0_takeSale wsX0_takeSale) := goodIn_app (goodIn_of _ (by decide +kernel)) ggX4_drop_X0_takeSale
theorem dX4_drop_0 : decode cX4_drop 0 = .ok (.aload_n 0, 1) := by decide +kernel
theorem dX4_drop_1 : decode cX4_drop 1 = .ok (.getfield 19, 3) := by decide +kernel
theorem dX4_drop_4 : decode cX4_drop 4 = .ok (.iload_n 1, 1) := by decide +kernel
theorem dX4_drop_5 : decode cX4_drop 5 = .ok (.iload_n 2, 1) := by decide +kernel
theorem dX4_drop_6 : decode cX4_drop 6 = .ok (.invokevirtual 105, 3) := by decide +kernel
theorem dX4_drop_9 : decode cX4_drop 9 = .ok (.iconst (-1), 1) := by decide +kernel
theorem dX4_drop_10 : decode cX4_drop 10 = .ok (.if_icmp .ne 5, 3) := by decide +kernel
theorem dX4_drop_13 : decode cX4_drop 13 = .ok (.iconst (-1), 1) := by decide +kernel
theorem dX4_drop_14 : decode cX4_drop 14 = .ok (.ireturn, 1) := by decide +kernel
theorem dX4_drop_15 : decode cX4_drop 15 = .ok (.aload_n 0, 1) := by decide +kernel
theorem dX4_drop_16 : decode cX4_drop 16 = .ok (.invokevirtual 180, 3) := by decide +kernel
theorem dX4_drop_19 : decode cX4_drop 19 = .ok (.aload_n 0, 1) := by decide +kernel
theorem dX4_drop_20 : decode cX4_drop 20 = .ok (.getfield 19, 3) := by decide +kernel
theorem dX4_drop_23 : decode cX4_drop 23 = .ok (.iload_n 1, 1) := by decide +kernel
theorem dX4_drop_24 : decode cX4_drop 24 = .ok (.iload_n 2, 1) := by decide +kernel
theorem dX4_drop_25 : decode cX4_drop 25 = .ok (.invokevirtual 186, 3) := by decide +kernel
theorem dX4_drop_28 : decode cX4_drop 28 = .ok (.aload_n 0, 1) := by decide +kernel
theorem dX4_drop_29 : decode cX4_drop 29 = .ok (.getfield 19, 3) := by decide +kernel
theorem dX4_drop_32 : decode cX4_drop 32 = .ok (.getfield 88, 3) := by decide +kernel
theorem dX4_drop_35 : decode cX4_drop 35 = .ok (.ireturn, 1) := by decide +kernel
set_option maxRecDepth 20000 in
theorem ggX4_shift_X0_hasHome : GoodIn wsX4_shift wsX0_hasHome := goodIn_r _ [6, 7, 63, 64, 65, 66, 67] (by decide +kernel) (by decide +kernel)
set_option maxRecDepth 20000 in
theorem gX4_shift_X0_hasHome : GoodIn wsX4_shift (wsV RX4 149 RX0 yX0_hasHome wsX0_hasHome) := goodIn_app (goodIn_of _ (by decide +kernel)) ggX4_shift_X0_hasHome
set_option maxRecDepth 20000 in
theorem ggX4_shift_X0_canMove : GoodIn wsX4_shift wsX0_canMove := goodIn_r _ [11, 12, 13, 14, 15, 5, 16, 17, 18, 3, 4, 6, 7, 19, 20, 21, 22, 63, 64, 65, 66, 67] (by decide +kernel) (by decide +kernel)
set_option maxRecDepth 20000 in
theorem gX4_shift_X0_canMove : GoodIn wsX4_shift (wsV RX4 190 RX0 yX0_canMove wsX0_canMove) := goodIn_app (goodIn_of _ (by decide +kernel)) ggX4_shift_X0_canMove
set_option maxRecDepth 20000 in
theorem ggX4_shift_X4_beginAct : GoodIn wsX4_shift wsX4_beginAct := goodIn_r _ [27, 28, 1, 29, 30, 31, 32, 33, 34, 35, 36, 37, 38, 39, 40, 41, 42, 43, 44, 5, 45, 12, 7, 46, 47, 48, 49, 50, 51, 17, 56, 57, 58, 59, 60, 61, 62, 68, 69, 70, 63, 64, 65, 66, 67] (by decide +kernel) (by decide +kernel)
set_option maxRecDepth 20000 in
theorem gX4_shift_X4_beginAct : GoodIn wsX4_shift (wsV RX4 180 RX4 yX4_beginAct wsX4_beginAct) := goodIn_app (goodIn_of _ (by decide +kernel)) ggX4_shift_X4_beginAct
set_option maxRecDepth 20000 in
theorem ggX4_shift_X0_moveLevels : GoodIn wsX4_shift wsX0_moveLevels := goodIn_r _ [55, 12, 17, 13, 14, 15, 5, 16, 18, 3, 4, 6, 7, 19, 20, 21, 22, 63, 64, 65, 66, 67] (by decide +kernel) (by decide +kernel)
set_option maxRecDepth 20000 in
theorem gX4_shift_X0_moveLevels : GoodIn wsX4_shift (wsV RX4 194 RX0 yX0_moveLevels wsX0_moveLevels) := goodIn_app (goodIn_of _ (by decide +kernel)) ggX4_shift_X0_moveLevels
theorem dX4_shift_0 : decode cX4_shift 0 = .ok (.aload_n 0, 1) := by decide +kernel
theorem dX4_shift_1 : decode cX4_shift 1 = .ok (.getfield 19, 3) := by decide +kernel
theorem dX4_shift_4 : decode cX4_shift 4 = .ok (.iload_n 1, 1) := by decide +kernel
theorem dX4_shift_5 : decode cX4_shift 5 = .ok (.invokevirtual 149, 3) := by decide +kernel
theorem dX4_shift_8 : decode cX4_shift 8 = .ok (.ifCond .eq 29, 3) := by decide +kernel
theorem dX4_shift_11 : decode cX4_shift 11 = .ok (.iload_n 2, 1) := by decide +kernel
theorem dX4_shift_12 : decode cX4_shift 12 = .ok (.sipush (-999), 3) := by decide +kernel
theorem dX4_shift_15 : decode cX4_shift 15 = .ok (.if_icmp .lt 22, 3) := by decide +kernel
theorem dX4_shift_18 : decode cX4_shift 18 = .ok (.iload_n 2, 1) := by decide +kernel
theorem dX4_shift_19 : decode cX4_shift 19 = .ok (.sipush 999, 3) := by decide +kernel
theorem dX4_shift_22 : decode cX4_shift 22 = .ok (.if_icmp .gt 15, 3) := by decide +kernel
theorem dX4_shift_25 : decode cX4_shift 25 = .ok (.aload_n 0, 1) := by decide +kernel
theorem dX4_shift_26 : decode cX4_shift 26 = .ok (.getfield 19, 3) := by decide +kernel
theorem dX4_shift_29 : decode cX4_shift 29 = .ok (.iload_n 1, 1) := by decide +kernel
theorem dX4_shift_30 : decode cX4_shift 30 = .ok (.iload_n 2, 1) := by decide +kernel
theorem dX4_shift_31 : decode cX4_shift 31 = .ok (.invokevirtual 190, 3) := by decide +kernel
theorem dX4_shift_34 : decode cX4_shift 34 = .ok (.ifCond .ne 5, 3) := by decide +kernel
theorem dX4_shift_37 : decode cX4_shift 37 = .ok (.iconst (-1), 1) := by decide +kernel
theorem dX4_shift_38 : decode cX4_shift 38 = .ok (.ireturn, 1) := by decide +kernel
theorem dX4_shift_39 : decode cX4_shift 39 = .ok (.aload_n 0, 1) := by decide +kernel
theorem dX4_shift_40 : decode cX4_shift 40 = .ok (.invokevirtual 180, 3) := by decide +kernel
theorem dX4_shift_43 : decode cX4_shift 43 = .ok (.aload_n 0, 1) := by decide +kernel
theorem dX4_shift_44 : decode cX4_shift 44 = .ok (.getfield 19, 3) := by decide +kernel
theorem dX4_shift_47 : decode cX4_shift 47 = .ok (.iload_n 1, 1) := by decide +kernel
theorem dX4_shift_48 : decode cX4_shift 48 = .ok (.iload_n 2, 1) := by decide +kernel
theorem dX4_shift_49 : decode cX4_shift 49 = .ok (.invokevirtual 194, 3) := by decide +kernel
theorem dX4_shift_52 : decode cX4_shift 52 = .ok (.ireturn, 1) := by decide +kernel
set_option maxRecDepth 20000 in
theorem ggX4_weigh_X0_hasGap : GoodIn wsX4_weigh wsX0_hasGap := goodIn_r _ [7, 8, 47, 48, 49, 50, 51] (by decide +kernel) (by decide +kernel)
set_option maxRecDepth 20000 in
theorem gX4_weigh_X0_hasGap : GoodIn wsX4_weigh (wsV RX4 197 RX0 yX0_hasGap wsX0_hasGap) := goodIn_app (goodIn_of _ (by decide +kernel)) ggX4_weigh_X0_hasGap
set_option maxRecDepth 20000 in
theorem ggX4_weigh_X4_beginAct : GoodIn wsX4_weigh wsX4_beginAct := goodIn_r _ [13, 14, 1, 15, 16, 17, 18, 19, 20, 21, 22, 23, 24, 25, 26, 27, 28, 29, 30, 6, 31, 8, 32, 33, 34, 35, 36, 37, 38, 39, 40, 41, 42, 43, 44, 45, 46, 52, 53, 54, 47, 48, 49, 50, 51] (by decide +kernel) (by decide +kernel)
set_option maxRecDepth 20000 in
theorem gX4_weigh_X4_beginAct : GoodIn wsX4_weigh (wsV RX4 180 RX4 yX4_beginAct wsX4_beginAct) := goodIn_app (goodIn_of _ (by decide +kernel)) ggX4_weigh_X4_beginAct
theorem dX4_weigh_0 : decode cX4_weigh 0 = .ok (.aload_n 0, 1) := by decide +kernel
theorem dX4_weigh_1 : decode cX4_weigh 1 = .ok (.getfield 19, 3) := by decide +kernel
theorem dX4_weigh_4 : decode cX4_weigh 4 = .ok (.iload_n 1, 1) := by decide +kernel
theorem dX4_weigh_5 : decode cX4_weigh 5 = .ok (.invokevirtual 197, 3) := by decide +kernel
theorem dX4_weigh_8 : decode cX4_weigh 8 = .ok (.ifCond .eq 12, 3) := by decide +kernel
theorem dX4_weigh_11 : decode cX4_weigh 11 = .ok (.iload_n 2, 1) := by decide +kernel
theorem dX4_weigh_12 : decode cX4_weigh 12 = .ok (.ifCond .lt 8, 3) := by decide +kernel
theorem dX4_weigh_15 : decode cX4_weigh 15 = .ok (.iload_n 2, 1) := by decide +kernel
theorem dX4_weigh_16 : decode cX4_weigh 16 = .ok (.iconst 3, 1) := by decide +kernel
theorem dX4_weigh_17 : decode cX4_weigh 17 = .ok (.if_icmp .le 5, 3) := by decide +kernel
theorem dX4_weigh_20 : decode cX4_weigh 20 = .ok (.iconst (-1), 1) := by decide +kernel
theorem dX4_weigh_21 : decode cX4_weigh 21 = .ok (.ireturn, 1) := by decide +kernel
theorem dX4_weigh_22 : decode cX4_weigh 22 = .ok (.aload_n 0, 1) := by decide +kernel
theorem dX4_weigh_23 : decode cX4_weigh 23 = .ok (.invokevirtual 180, 3) := by decide +kernel
theorem dX4_weigh_26 : decode cX4_weigh 26 = .ok (.aload_n 0, 1) := by decide +kernel
theorem dX4_weigh_27 : decode cX4_weigh 27 = .ok (.getfield 19, 3) := by decide +kernel
theorem dX4_weigh_30 : decode cX4_weigh 30 = .ok (.getfield 200, 3) := by decide +kernel
theorem dX4_weigh_33 : decode cX4_weigh 33 = .ok (.iload_n 1, 1) := by decide +kernel
theorem dX4_weigh_34 : decode cX4_weigh 34 = .ok (.iaload, 1) := by decide +kernel
theorem dX4_weigh_35 : decode cX4_weigh 35 = .ok (.istore_n 3, 1) := by decide +kernel
theorem dX4_weigh_36 : decode cX4_weigh 36 = .ok (.aload_n 0, 1) := by decide +kernel
theorem dX4_weigh_37 : decode cX4_weigh 37 = .ok (.getfield 19, 3) := by decide +kernel
theorem dX4_weigh_40 : decode cX4_weigh 40 = .ok (.getfield 200, 3) := by decide +kernel
theorem dX4_weigh_43 : decode cX4_weigh 43 = .ok (.iload_n 1, 1) := by decide +kernel
theorem dX4_weigh_44 : decode cX4_weigh 44 = .ok (.iload_n 2, 1) := by decide +kernel
theorem dX4_weigh_45 : decode cX4_weigh 45 = .ok (.iastore, 1) := by decide +kernel
theorem dX4_weigh_46 : decode cX4_weigh 46 = .ok (.iload_n 3, 1) := by decide +kernel
theorem dX4_weigh_47 : decode cX4_weigh 47 = .ok (.ireturn, 1) := by decide +kernel
set_option maxRecDepth 20000 in
theorem ggX4_undo_X2_giveBack : GoodIn wsX4_undo wsX2_giveBack := goodIn_r _ [9, 10, 11, 12, 13, 14, 15, 16, 17, 18, 19, 20, 21, 22, 23, 24, 25, 26, 34, 35, 36, 37, 38, 39, 40, 41] (by decide +kernel) (by decide +kernel)
set_option maxRecDepth 20000 in
theorem gX4_undo_X2_giveBack : GoodIn wsX4_undo (wsV RX4 203 RX2 yX2_giveBack wsX2_giveBack) := goodIn_app (goodIn_of _ (by decide +kernel)) ggX4_undo_X2_giveBack
theorem dX4_undo_0 : decode cX4_undo 0 = .ok (.aload_n 0, 1) := by decide +kernel
theorem dX4_undo_1 : decode cX4_undo 1 = .ok (.getfield 43, 3) := by decide +kernel
theorem dX4_undo_4 : decode cX4_undo 4 = .ok (.aload_n 0, 1) := by decide +kernel
theorem dX4_undo_5 : decode cX4_undo 5 = .ok (.getfield 19, 3) := by decide +kernel
theorem dX4_undo_8 : decode cX4_undo 8 = .ok (.invokevirtual 203, 3) := by decide +kernel
theorem dX4_undo_11 : decode cX4_undo 11 = .ok (.ifCond .ne 5, 3) := by decide +kernel
theorem dX4_undo_14 : decode cX4_undo 14 = .ok (.iconst (-1), 1) := by decide +kernel
theorem dX4_undo_15 : decode cX4_undo 15 = .ok (.ireturn, 1) := by decide +kernel
theorem dX4_undo_16 : decode cX4_undo 16 = .ok (.aload_n 0, 1) := by decide +kernel
theorem dX4_undo_17 : decode cX4_undo 17 = .ok (.iconst 0, 1) := by decide +kernel
theorem dX4_undo_18 : decode cX4_undo 18 = .ok (.putfield 36, 3) := by decide +kernel
theorem dX4_undo_21 : decode cX4_undo 21 = .ok (.aload_n 0, 1) := by decide +kernel
theorem dX4_undo_22 : decode cX4_undo 22 = .ok (.getfield 43, 3) := by decide +kernel
theorem dX4_undo_25 : decode cX4_undo 25 = .ok (.getfield 102, 3) := by decide +kernel
theorem dX4_undo_28 : decode cX4_undo 28 = .ok (.ireturn, 1) := by decide +kernel
set_option maxRecDepth 20000 in
theorem ggX4_beginAct_X2_keep : GoodIn wsX4_beginAct wsX2_keep := goodIn_r _ [8, 9, 10, 11, 12, 13, 14, 15, 16, 17, 18, 19, 20, 21, 22, 23, 24, 25, 26, 27, 28, 29, 37, 38, 39, 40, 41, 42, 43, 44] (by decide +kernel) (by decide +kernel)
set_option maxRecDepth 20000 in
theorem gX4_beginAct_X2_keep : GoodIn wsX4_beginAct (wsV RX4 207 RX2 yX2_keep wsX2_keep) := goodIn_app (goodIn_of _ (by decide +kernel)) ggX4_beginAct_X2_keep
theorem dX4_beginAct_0 : decode cX4_beginAct 0 = .ok (.aload_n 0, 1) := by decide +kernel
theorem dX4_beginAct_1 : decode cX4_beginAct 1 = .ok (.getfield 43, 3) := by decide +kernel
theorem dX4_beginAct_4 : decode cX4_beginAct 4 = .ok (.aload_n 0, 1) := by decide +kernel
theorem dX4_beginAct_5 : decode cX4_beginAct 5 = .ok (.getfield 19, 3) := by decide +kernel
theorem dX4_beginAct_8 : decode cX4_beginAct 8 = .ok (.invokevirtual 207, 3) := by decide +kernel
theorem dX4_beginAct_11 : decode cX4_beginAct 11 = .ok (.aload_n 0, 1) := by decide +kernel
theorem dX4_beginAct_12 : decode cX4_beginAct 12 = .ok (.iconst 0, 1) := by decide +kernel
theorem dX4_beginAct_13 : decode cX4_beginAct 13 = .ok (.putfield 36, 3) := by decide +kernel
theorem dX4_beginAct_16 : decode cX4_beginAct 16 = .ok (.return_, 1) := by decide +kernel
set_option maxRecDepth 20000 in
theorem ggX4_fitNow_X1_solve : GoodIn wsX4_fitNow wsX1_solve := goodIn_r _ [8, 9, 10, 11, 12, 13, 7, 14, 15, 16, 17, 18, 19, 20, 21, 22, 23, 24, 25, 26, 27, 28, 29, 30, 31, 32, 33, 34, 35, 36, 37, 38, 39, 40, 41, 42, 43, 44, 45, 46, 47, 48, 49, 50, 51, 52, 53, 54, 55, 56, 57, 58, 59, 60, 61, 62, 63, 64, 65, 66, 67, 68, 69, 70, 71, 72, 73, 74, 75, 76, 77, 78, 79, 80, 81, 82, 83, 84, 85, 86, 87, 88, 89, 90, 91, 92, 93, 94, 95, 96, 97, 98, 106, 107, 108, 109, 110, 111, 112, 113, 114, 115, 116, 117, 118] (by decide +kernel) (by decide +kernel)
set_option maxRecDepth 20000 in
theorem gX4_fitNow_X1_solve : GoodIn wsX4_fitNow (wsV RX4 155 RX1 yX1_solve wsX1_solve) := goodIn_app (goodIn_of _ (by decide +kernel)) ggX4_fitNow_X1_solve
theorem dX4_fitNow_0 : decode cX4_fitNow 0 = .ok (.aload_n 0, 1) := by decide +kernel
theorem dX4_fitNow_1 : decode cX4_fitNow 1 = .ok (.getfield 36, 3) := by decide +kernel
theorem dX4_fitNow_4 : decode cX4_fitNow 4 = .ok (.ifCond .ne 19, 3) := by decide +kernel
theorem dX4_fitNow_7 : decode cX4_fitNow 7 = .ok (.aload_n 0, 1) := by decide +kernel
theorem dX4_fitNow_8 : decode cX4_fitNow 8 = .ok (.getfield 29, 3) := by decide +kernel
theorem dX4_fitNow_11 : decode cX4_fitNow 11 = .ok (.aload_n 0, 1) := by decide +kernel
theorem dX4_fitNow_12 : decode cX4_fitNow 12 = .ok (.getfield 19, 3) := by decide +kernel
theorem dX4_fitNow_15 : decode cX4_fitNow 15 = .ok (.invokevirtual 155, 3) := by decide +kernel
theorem dX4_fitNow_18 : decode cX4_fitNow 18 = .ok (.aload_n 0, 1) := by decide +kernel
theorem dX4_fitNow_19 : decode cX4_fitNow 19 = .ok (.iconst 1, 1) := by decide +kernel
theorem dX4_fitNow_20 : decode cX4_fitNow 20 = .ok (.putfield 36, 3) := by decide +kernel
theorem dX4_fitNow_23 : decode cX4_fitNow 23 = .ok (.aload_n 0, 1) := by decide +kernel
theorem dX4_fitNow_24 : decode cX4_fitNow 24 = .ok (.getfield 29, 3) := by decide +kernel
theorem dX4_fitNow_27 : decode cX4_fitNow 27 = .ok (.areturn, 1) := by decide +kernel
set_option maxRecDepth 20000 in
theorem ggX4_lowestTerms_X4_greatestCommon : GoodIn wsX4_lowestTerms wsX4_greatestCommon := goodIn_r _ [8] (by decide +kernel) (by decide +kernel)
set_option maxRecDepth 20000 in
theorem gX4_lowestTerms_X4_greatestCommon : GoodIn wsX4_lowestTerms (va_wsS RX4 214 yX4_greatestCommon wsX4_greatestCommon) := goodIn_app (goodIn_of _ (by decide +kernel)) ggX4_lowestTerms_X4_greatestCommon
theorem dX4_lowestTerms_0 : decode cX4_lowestTerms 0 = .ok (.lload_n 0, 1) := by decide +kernel
theorem dX4_lowestTerms_1 : decode cX4_lowestTerms 1 = .ok (.invokestatic 210, 3) := by decide +kernel
theorem dX4_lowestTerms_4 : decode cX4_lowestTerms 4 = .ok (.lload_n 2, 1) := by decide +kernel
theorem dX4_lowestTerms_5 : decode cX4_lowestTerms 5 = .ok (.invokestatic 214, 3) := by decide +kernel
theorem dX4_lowestTerms_8 : decode cX4_lowestTerms 8 = .ok (.lstore 5, 2) := by decide +kernel
theorem dX4_lowestTerms_10 : decode cX4_lowestTerms 10 = .ok (.lload 5, 2) := by decide +kernel
theorem dX4_lowestTerms_12 : decode cX4_lowestTerms 12 = .ok (.lconst 0, 1) := by decide +kernel
theorem dX4_lowestTerms_13 : decode cX4_lowestTerms 13 = .ok (.lcmp, 1) := by decide +kernel
theorem dX4_lowestTerms_14 : decode cX4_lowestTerms 14 = .ok (.ifCond .gt 14, 3) := by decide +kernel
theorem dX4_lowestTerms_17 : decode cX4_lowestTerms 17 = .ok (.iload 4, 2) := by decide +kernel
theorem dX4_lowestTerms_19 : decode cX4_lowestTerms 19 = .ok (.ifCond .eq 7, 3) := by decide +kernel
theorem dX4_lowestTerms_22 : decode cX4_lowestTerms 22 = .ok (.lconst 1, 1) := by decide +kernel
theorem dX4_lowestTerms_23 : decode cX4_lowestTerms 23 = .ok (.goto 4, 3) := by decide +kernel
theorem dX4_lowestTerms_26 : decode cX4_lowestTerms 26 = .ok (.lconst 0, 1) := by decide +kernel
theorem dX4_lowestTerms_27 : decode cX4_lowestTerms 27 = .ok (.lreturn, 1) := by decide +kernel
theorem dX4_lowestTerms_28 : decode cX4_lowestTerms 28 = .ok (.iload 4, 2) := by decide +kernel
theorem dX4_lowestTerms_30 : decode cX4_lowestTerms 30 = .ok (.ifCond .eq 7, 3) := by decide +kernel
theorem dX4_lowestTerms_33 : decode cX4_lowestTerms 33 = .ok (.lload_n 2, 1) := by decide +kernel
theorem dX4_lowestTerms_34 : decode cX4_lowestTerms 34 = .ok (.goto 4, 3) := by decide +kernel
theorem dX4_lowestTerms_37 : decode cX4_lowestTerms 37 = .ok (.lload_n 0, 1) := by decide +kernel
theorem dX4_lowestTerms_38 : decode cX4_lowestTerms 38 = .ok (.lload 5, 2) := by decide +kernel
theorem dX4_lowestTerms_40 : decode cX4_lowestTerms 40 = .ok (.ldiv, 1) := by decide +kernel
theorem dX4_lowestTerms_41 : decode cX4_lowestTerms 41 = .ok (.lreturn, 1) := by decide +kernel
theorem dX4_greatestCommon_0 : decode cX4_greatestCommon 0 = .ok (.lload_n 0, 1) := by decide +kernel
theorem dX4_greatestCommon_1 : decode cX4_greatestCommon 1 = .ok (.lstore 4, 2) := by decide +kernel
theorem dX4_greatestCommon_3 : decode cX4_greatestCommon 3 = .ok (.lload_n 2, 1) := by decide +kernel
theorem dX4_greatestCommon_4 : decode cX4_greatestCommon 4 = .ok (.lstore 6, 2) := by decide +kernel
theorem dX4_greatestCommon_6 : decode cX4_greatestCommon 6 = .ok (.iconst 0, 1) := by decide +kernel
theorem dX4_greatestCommon_7 : decode cX4_greatestCommon 7 = .ok (.istore 8, 2) := by decide +kernel
theorem dX4_greatestCommon_9 : decode cX4_greatestCommon 9 = .ok (.iload 8, 2) := by decide +kernel
theorem dX4_greatestCommon_11 : decode cX4_greatestCommon 11 = .ok (.bipush 100, 2) := by decide +kernel
theorem dX4_greatestCommon_13 : decode cX4_greatestCommon 13 = .ok (.if_icmp .ge 31, 3) := by decide +kernel
theorem dX4_greatestCommon_16 : decode cX4_greatestCommon 16 = .ok (.lload 6, 2) := by decide +kernel
theorem dX4_greatestCommon_18 : decode cX4_greatestCommon 18 = .ok (.lconst 0, 1) := by decide +kernel
theorem dX4_greatestCommon_19 : decode cX4_greatestCommon 19 = .ok (.lcmp, 1) := by decide +kernel
theorem dX4_greatestCommon_20 : decode cX4_greatestCommon 20 = .ok (.ifCond .eq 24, 3) := by decide +kernel
theorem dX4_greatestCommon_23 : decode cX4_greatestCommon 23 = .ok (.lload 4, 2) := by decide +kernel
theorem dX4_greatestCommon_25 : decode cX4_greatestCommon 25 = .ok (.lload 6, 2) := by decide +kernel
theorem dX4_greatestCommon_27 : decode cX4_greatestCommon 27 = .ok (.lrem, 1) := by decide +kernel
theorem dX4_greatestCommon_28 : decode cX4_greatestCommon 28 = .ok (.lstore 9, 2) := by decide +kernel
theorem dX4_greatestCommon_30 : decode cX4_greatestCommon 30 = .ok (.lload 6, 2) := by decide +kernel
theorem dX4_greatestCommon_32 : decode cX4_greatestCommon 32 = .ok (.lstore 4, 2) := by decide +kernel
theorem dX4_greatestCommon_34 : decode cX4_greatestCommon 34 = .ok (.lload 9, 2) := by decide +kernel
theorem dX4_greatestCommon_36 : decode cX4_greatestCommon 36 = .ok (.lstore 6, 2) := by decide +kernel
theorem dX4_greatestCommon_38 : decode cX4_greatestCommon 38 = .ok (.iinc 8 1, 3) := by decide +kernel
theorem dX4_greatestCommon_41 : decode cX4_greatestCommon 41 = .ok (.goto (-32), 3) := by decide +kernel
theorem dX4_greatestCommon_44 : decode cX4_greatestCommon 44 = .ok (.lload 4, 2) := by decide +kernel
theorem dX4_greatestCommon_46 : decode cX4_greatestCommon 46 = .ok (.lreturn, 1) := by decide +kernel
theorem dX5_thrown_0 : decode cX5_thrown 0 = .ok (.aload_n 0, 1) := by decide +kernel
theorem dX5_thrown_1 : decode cX5_thrown 1 = .ok (.getfield 1, 3) := by decide +kernel
theorem dX5_thrown_4 : decode cX5_thrown 4 = .ok (.ireturn, 1) := by decide +kernel
theorem dX5_refuse_0 : decode cX5_refuse 0 = .ok (.aload_n 0, 1) := by decide +kernel
theorem dX5_refuse_1 : decode cX5_refuse 1 = .ok (.iconst 1, 1) := by decide +kernel
theorem dX5_refuse_2 : decode cX5_refuse 2 = .ok (.putfield 1, 3) := by decide +kernel
theorem dX5_refuse_5 : decode cX5_refuse 5 = .ok (.iconst 0, 1) := by decide +kernel
theorem dX5_refuse_6 : decode cX5_refuse 6 = .ok (.ireturn, 1) := by decide +kernel
theorem dX5_isIn_0 : decode cX5_isIn 0 = .ok (.iload_n 0, 1) := by decide +kernel
theorem dX5_isIn_1 : decode cX5_isIn 1 = .ok (.iload_n 1, 1) := by decide +kernel
theorem dX5_isIn_2 : decode cX5_isIn 2 = .ok (.if_icmp .lt 12, 3) := by decide +kernel
theorem dX5_isIn_5 : decode cX5_isIn 5 = .ok (.iload_n 0, 1) := by decide +kernel
theorem dX5_isIn_6 : decode cX5_isIn 6 = .ok (.iload_n 2, 1) := by decide +kernel
theorem dX5_isIn_7 : decode cX5_isIn 7 = .ok (.if_icmp .gt 7, 3) := by decide +kernel
theorem dX5_isIn_10 : decode cX5_isIn 10 = .ok (.iconst 1, 1) := by decide +kernel
theorem dX5_isIn_11 : decode cX5_isIn 11 = .ok (.goto 4, 3) := by decide +kernel
theorem dX5_isIn_14 : decode cX5_isIn 14 = .ok (.iconst 0, 1) := by decide +kernel
theorem dX5_isIn_15 : decode cX5_isIn 15 = .ok (.ireturn, 1) := by decide +kernel
theorem dX5_lays_0 : decode cX5_lays 0 = .ok (.bipush 24, 2) := by decide +kernel
theorem dX5_lays_2 : decode cX5_lays 2 = .ok (.istore_n 2, 1) := by decide +kernel
theorem dX5_lays_3 : decode cX5_lays 3 = .ok (.iload_n 2, 1) := by decide +kernel
theorem dX5_lays_4 : decode cX5_lays 4 = .ok (.ifCond .lt 35, 3) := by decide +kernel
theorem dX5_lays_7 : decode cX5_lays 7 = .ok (.aload_n 0, 1) := by decide +kernel
theorem dX5_lays_8 : decode cX5_lays 8 = .ok (.getfield 7, 3) := by decide +kernel
theorem dX5_lays_11 : decode cX5_lays 11 = .ok (.aload_n 0, 1) := by decide +kernel
theorem dX5_lays_12 : decode cX5_lays 12 = .ok (.getfield 11, 3) := by decide +kernel
theorem dX5_lays_15 : decode cX5_lays 15 = .ok (.iload_n 1, 1) := by decide +kernel
theorem dX5_lays_16 : decode cX5_lays 16 = .ok (.iload_n 2, 1) := by decide +kernel
theorem dX5_lays_17 : decode cX5_lays 17 = .ok (.iushr, 1) := by decide +kernel
theorem dX5_lays_18 : decode cX5_lays 18 = .ok (.sipush 255, 3) := by decide +kernel
theorem dX5_lays_21 : decode cX5_lays 21 = .ok (.iand, 1) := by decide +kernel
theorem dX5_lays_22 : decode cX5_lays 22 = .ok (.iastore, 1) := by decide +kernel
theorem dX5_lays_23 : decode cX5_lays 23 = .ok (.aload_n 0, 1) := by decide +kernel
theorem dX5_lays_24 : decode cX5_lays 24 = .ok (.dup, 1) := by decide +kernel
theorem dX5_lays_25 : decode cX5_lays 25 = .ok (.getfield 11, 3) := by decide +kernel
theorem dX5_lays_28 : decode cX5_lays 28 = .ok (.iconst 1, 1) := by decide +kernel
theorem dX5_lays_29 : decode cX5_lays 29 = .ok (.iadd, 1) := by decide +kernel
theorem dX5_lays_30 : decode cX5_lays 30 = .ok (.putfield 11, 3) := by decide +kernel
theorem dX5_lays_33 : decode cX5_lays 33 = .ok (.iinc 2 (-8), 3) := by decide +kernel
theorem dX5_lays_36 : decode cX5_lays 36 = .ok (.goto (-33), 3) := by decide +kernel
theorem dX5_lays_39 : decode cX5_lays 39 = .ok (.return_, 1) := by decide +kernel
set_option maxRecDepth 20000 in
theorem ggX5_feed_X5_lays : GoodIn wsX5_feed wsX5_lays := goodIn_r _ [7, 8, 2, 9, 10, 11, 12, 13, 14, 15, 16, 17, 18, 19, 20, 21, 22, 23, 24, 25, 26, 27, 28, 29, 30, 31, 32, 33, 34, 35, 36, 37, 38, 39] (by decide +kernel) (by decide +kernel)
set_option maxRecDepth 20000 in
theorem gX5_feed_X5_lays : GoodIn wsX5_feed (wsV RX5 14 RX5 yX5_lays wsX5_lays) := goodIn_app (goodIn_of _ (by decide +kernel)) ggX5_feed_X5_lays
theorem dX5_feed_0 : decode cX5_feed 0 = .ok (.aload_n 0, 1) := by decide +kernel
theorem dX5_feed_1 : decode cX5_feed 1 = .ok (.iconst 0, 1) := by decide +kernel
theorem dX5_feed_2 : decode cX5_feed 2 = .ok (.putfield 1, 3) := by decide +kernel
theorem dX5_feed_5 : decode cX5_feed 5 = .ok (.aload_n 0, 1) := by decide +kernel
theorem dX5_feed_6 : decode cX5_feed 6 = .ok (.getfield 11, 3) := by decide +kernel
theorem dX5_feed_9 : decode cX5_feed 9 = .ok (.bipush 20, 2) := by decide +kernel
theorem dX5_feed_11 : decode cX5_feed 11 = .ok (.iadd, 1) := by decide +kernel
theorem dX5_feed_12 : decode cX5_feed 12 = .ok (.sipush 540, 3) := by decide +kernel
theorem dX5_feed_15 : decode cX5_feed 15 = .ok (.if_icmp .le 5, 3) := by decide +kernel
theorem dX5_feed_18 : decode cX5_feed 18 = .ok (.iconst (-1), 1) := by decide +kernel
theorem dX5_feed_19 : decode cX5_feed 19 = .ok (.ireturn, 1) := by decide +kernel
theorem dX5_feed_20 : decode cX5_feed 20 = .ok (.aload_n 0, 1) := by decide +kernel
theorem dX5_feed_21 : decode cX5_feed 21 = .ok (.iload_n 1, 1) := by decide +kernel
theorem dX5_feed_22 : decode cX5_feed 22 = .ok (.invokevirtual 14, 3) := by decide +kernel
theorem dX5_feed_25 : decode cX5_feed 25 = .ok (.aload_n 0, 1) := by decide +kernel
theorem dX5_feed_26 : decode cX5_feed 26 = .ok (.iload_n 2, 1) := by decide +kernel
theorem dX5_feed_27 : decode cX5_feed 27 = .ok (.invokevirtual 14, 3) := by decide +kernel
theorem dX5_feed_30 : decode cX5_feed 30 = .ok (.aload_n 0, 1) := by decide +kernel
theorem dX5_feed_31 : decode cX5_feed 31 = .ok (.iload_n 3, 1) := by decide +kernel
theorem dX5_feed_32 : decode cX5_feed 32 = .ok (.invokevirtual 14, 3) := by decide +kernel
theorem dX5_feed_35 : decode cX5_feed 35 = .ok (.aload_n 0, 1) := by decide +kernel
theorem dX5_feed_36 : decode cX5_feed 36 = .ok (.iload 4, 2) := by decide +kernel
theorem dX5_feed_38 : decode cX5_feed 38 = .ok (.invokevirtual 14, 3) := by decide +kernel
theorem dX5_feed_41 : decode cX5_feed 41 = .ok (.aload_n 0, 1) := by decide +kernel
theorem dX5_feed_42 : decode cX5_feed 42 = .ok (.iload 5, 2) := by decide +kernel
theorem dX5_feed_44 : decode cX5_feed 44 = .ok (.invokevirtual 14, 3) := by decide +kernel
theorem dX5_feed_47 : decode cX5_feed 47 = .ok (.aload_n 0, 1) := by decide +kernel
theorem dX5_feed_48 : decode cX5_feed 48 = .ok (.getfield 11, 3) := by decide +kernel
theorem dX5_feed_51 : decode cX5_feed 51 = .ok (.ireturn, 1) := by decide +kernel
theorem dX5_end_0 : decode cX5_end 0 = .ok (.aload_n 0, 1) := by decide +kernel
theorem dX5_end_1 : decode cX5_end 1 = .ok (.iconst 0, 1) := by decide +kernel
theorem dX5_end_2 : decode cX5_end 2 = .ok (.putfield 1, 3) := by decide +kernel
theorem dX5_end_5 : decode cX5_end 5 = .ok (.iload_n 1, 1) := by decide +kernel
theorem dX5_end_6 : decode cX5_end 6 = .ok (.ifCond .lt 11, 3) := by decide +kernel
theorem dX5_end_9 : decode cX5_end 9 = .ok (.iload_n 1, 1) := by decide +kernel
theorem dX5_end_10 : decode cX5_end 10 = .ok (.aload_n 0, 1) := by decide +kernel
theorem dX5_end_11 : decode cX5_end 11 = .ok (.getfield 11, 3) := by decide +kernel
theorem dX5_end_14 : decode cX5_end 14 = .ok (.if_icmp .le 5, 3) := by decide +kernel
theorem dX5_end_17 : decode cX5_end 17 = .ok (.iconst 0, 1) := by decide +kernel
theorem dX5_end_18 : decode cX5_end 18 = .ok (.ireturn, 1) := by decide +kernel
theorem dX5_end_19 : decode cX5_end 19 = .ok (.aload_n 0, 1) := by decide +kernel
theorem dX5_end_20 : decode cX5_end 20 = .ok (.iload_n 1, 1) := by decide +kernel
theorem dX5_end_21 : decode cX5_end 21 = .ok (.putfield 11, 3) := by decide +kernel
theorem dX5_end_24 : decode cX5_end 24 = .ok (.iconst 1, 1) := by decide +kernel
theorem dX5_end_25 : decode cX5_end 25 = .ok (.ireturn, 1) := by decide +kernel
theorem dX5_tapeAt_0 : decode cX5_tapeAt 0 = .ok (.iload_n 1, 1) := by decide +kernel
theorem dX5_tapeAt_1 : decode cX5_tapeAt 1 = .ok (.aload_n 0, 1) := by decide +kernel
theorem dX5_tapeAt_2 : decode cX5_tapeAt 2 = .ok (.getfield 18, 3) := by decide +kernel
theorem dX5_tapeAt_5 : decode cX5_tapeAt 5 = .ok (.if_icmp .ge 12, 3) := by decide +kernel
theorem dX5_tapeAt_8 : decode cX5_tapeAt 8 = .ok (.aload_n 0, 1) := by decide +kernel
theorem dX5_tapeAt_9 : decode cX5_tapeAt 9 = .ok (.getfield 7, 3) := by decide +kernel
theorem dX5_tapeAt_12 : decode cX5_tapeAt 12 = .ok (.iload_n 1, 1) := by decide +kernel
theorem dX5_tapeAt_13 : decode cX5_tapeAt 13 = .ok (.iaload, 1) := by decide +kernel
theorem dX5_tapeAt_14 : decode cX5_tapeAt 14 = .ok (.goto 4, 3) := by decide +kernel
theorem dX5_tapeAt_17 : decode cX5_tapeAt 17 = .ok (.iconst 0, 1) := by decide +kernel
theorem dX5_tapeAt_18 : decode cX5_tapeAt 18 = .ok (.ireturn, 1) := by decide +kernel
theorem dX5_isDigit_0 : decode cX5_isDigit 0 = .ok (.iload_n 0, 1) := by decide +kernel
theorem dX5_isDigit_1 : decode cX5_isDigit 1 = .ok (.bipush 48, 2) := by decide +kernel
theorem dX5_isDigit_3 : decode cX5_isDigit 3 = .ok (.if_icmp .lt 13, 3) := by decide +kernel
theorem dX5_isDigit_6 : decode cX5_isDigit 6 = .ok (.iload_n 0, 1) := by decide +kernel
theorem dX5_isDigit_7 : decode cX5_isDigit 7 = .ok (.bipush 57, 2) := by decide +kernel
theorem dX5_isDigit_9 : decode cX5_isDigit 9 = .ok (.if_icmp .gt 7, 3) := by decide +kernel
theorem dX5_isDigit_12 : decode cX5_isDigit 12 = .ok (.iconst 1, 1) := by decide +kernel
theorem dX5_isDigit_13 : decode cX5_isDigit 13 = .ok (.goto 4, 3) := by decide +kernel
theorem dX5_isDigit_16 : decode cX5_isDigit 16 = .ok (.iconst 0, 1) := by decide +kernel
theorem dX5_isDigit_17 : decode cX5_isDigit 17 = .ok (.ireturn, 1) := by decide +kernel
theorem dX5_isLetter_0 : decode cX5_isLetter 0 = .ok (.iload_n 0, 1) := by decide +kernel
theorem dX5_isLetter_1 : decode cX5_isLetter 1 = .ok (.bipush 97, 2) := by decide +kernel
theorem dX5_isLetter_3 : decode cX5_isLetter 3 = .ok (.if_icmp .lt 13, 3) := by decide +kernel
theorem dX5_isLetter_6 : decode cX5_isLetter 6 = .ok (.iload_n 0, 1) := by decide +kernel
theorem dX5_isLetter_7 : decode cX5_isLetter 7 = .ok (.bipush 122, 2) := by decide +kernel
theorem dX5_isLetter_9 : decode cX5_isLetter 9 = .ok (.if_icmp .gt 7, 3) := by decide +kernel
theorem dX5_isLetter_12 : decode cX5_isLetter 12 = .ok (.iconst 1, 1) := by decide +kernel
theorem dX5_isLetter_13 : decode cX5_isLetter 13 = .ok (.goto 4, 3) := by decide +kernel
theorem dX5_isLetter_16 : decode cX5_isLetter 16 = .ok (.iconst 0, 1) := by decide +kernel
theorem dX5_isLetter_17 : decode cX5_isLetter 17 = .ok (.ireturn, 1) := by decide +kernel
set_option maxRecDepth 20000 in
theorem ggX5_go_X5_isLetter : GoodIn wsX5_go wsX5_isLetter := goodIn_r _ [13] (by decide +kernel) (by decide +kernel)
set_option maxRecDepth 20000 in
theorem gX5_go_X5_isLetter : GoodIn wsX5_go (va_wsS RX5 30 yX5_isLetter wsX5_isLetter) := goodIn_app (goodIn_of _ (by decide +kernel)) ggX5_go_X5_isLetter
set_option maxRecDepth 20000 in
theorem ggX5_go_X5_isDigit : GoodIn wsX5_go wsX5_isDigit := goodIn_r _ [16] (by decide +kernel) (by decide +kernel)
set_option maxRecDepth 20000 in
theorem gX5_go_X5_isDigit : GoodIn wsX5_go (va_wsS RX5 34 yX5_isDigit wsX5_isDigit) := goodIn_app (goodIn_of _ (by decide +kernel)) ggX5_go_X5_isDigit
set_option maxRecDepth 20000 in
theorem ggX5_go_X5_tapeAt : GoodIn wsX5_go wsX5_tapeAt := goodIn_r _ [20, 2, 3, 21, 22, 23, 24, 25, 26, 27, 28, 29, 30, 31, 32, 33, 34, 35, 36, 37, 38, 39, 40, 41, 42, 43, 44, 45, 46, 47, 48, 49, 50, 51] (by decide +kernel) (by decide +kernel)
set_option maxRecDepth 20000 in
theorem gX5_go_X5_tapeAt : GoodIn wsX5_go (wsV RX5 44 RX5 yX5_tapeAt wsX5_tapeAt) := goodIn_app (goodIn_of _ (by decide +kernel)) ggX5_go_X5_tapeAt
theorem dX5_go_0 : decode cX5_go 0 = .ok (.aload_n 0, 1) := by decide +kernel
theorem dX5_go_1 : decode cX5_go 1 = .ok (.getfield 21, 3) := by decide +kernel
theorem dX5_go_4 : decode cX5_go 4 = .ok (.aload_n 0, 1) := by decide +kernel
theorem dX5_go_5 : decode cX5_go 5 = .ok (.getfield 18, 3) := by decide +kernel
theorem dX5_go_8 : decode cX5_go 8 = .ok (.if_icmp .ge 44, 3) := by decide +kernel
theorem dX5_go_11 : decode cX5_go 11 = .ok (.aload_n 0, 1) := by decide +kernel
theorem dX5_go_12 : decode cX5_go 12 = .ok (.getfield 7, 3) := by decide +kernel
theorem dX5_go_15 : decode cX5_go 15 = .ok (.aload_n 0, 1) := by decide +kernel
theorem dX5_go_16 : decode cX5_go 16 = .ok (.getfield 21, 3) := by decide +kernel
theorem dX5_go_19 : decode cX5_go 19 = .ok (.iaload, 1) := by decide +kernel
theorem dX5_go_20 : decode cX5_go 20 = .ok (.bipush 32, 2) := by decide +kernel
theorem dX5_go_22 : decode cX5_go 22 = .ok (.if_icmp .eq 17, 3) := by decide +kernel
theorem dX5_go_25 : decode cX5_go 25 = .ok (.aload_n 0, 1) := by decide +kernel
theorem dX5_go_26 : decode cX5_go 26 = .ok (.getfield 7, 3) := by decide +kernel
theorem dX5_go_29 : decode cX5_go 29 = .ok (.aload_n 0, 1) := by decide +kernel
theorem dX5_go_30 : decode cX5_go 30 = .ok (.getfield 21, 3) := by decide +kernel
theorem dX5_go_33 : decode cX5_go 33 = .ok (.iaload, 1) := by decide +kernel
theorem dX5_go_34 : decode cX5_go 34 = .ok (.bipush 10, 2) := by decide +kernel
theorem dX5_go_36 : decode cX5_go 36 = .ok (.if_icmp .ne 16, 3) := by decide +kernel
theorem dX5_go_39 : decode cX5_go 39 = .ok (.aload_n 0, 1) := by decide +kernel
theorem dX5_go_40 : decode cX5_go 40 = .ok (.dup, 1) := by decide +kernel
theorem dX5_go_41 : decode cX5_go 41 = .ok (.getfield 21, 3) := by decide +kernel
theorem dX5_go_44 : decode cX5_go 44 = .ok (.iconst 1, 1) := by decide +kernel
theorem dX5_go_45 : decode cX5_go 45 = .ok (.iadd, 1) := by decide +kernel
theorem dX5_go_46 : decode cX5_go 46 = .ok (.putfield 21, 3) := by decide +kernel
theorem dX5_go_49 : decode cX5_go 49 = .ok (.goto (-49), 3) := by decide +kernel
theorem dX5_go_52 : decode cX5_go 52 = .ok (.aload_n 0, 1) := by decide +kernel
theorem dX5_go_53 : decode cX5_go 53 = .ok (.aload_n 0, 1) := by decide +kernel
theorem dX5_go_54 : decode cX5_go 54 = .ok (.getfield 21, 3) := by decide +kernel
theorem dX5_go_57 : decode cX5_go 57 = .ok (.putfield 24, 3) := by decide +kernel
theorem dX5_go_60 : decode cX5_go 60 = .ok (.aload_n 0, 1) := by decide +kernel
theorem dX5_go_61 : decode cX5_go 61 = .ok (.getfield 18, 3) := by decide +kernel
theorem dX5_go_64 : decode cX5_go 64 = .ok (.sipush 500, 3) := by decide +kernel
theorem dX5_go_67 : decode cX5_go 67 = .ok (.if_icmp .le 26, 3) := by decide +kernel
theorem dX5_go_70 : decode cX5_go 70 = .ok (.aload_n 0, 1) := by decide +kernel
theorem dX5_go_71 : decode cX5_go 71 = .ok (.getfield 24, 3) := by decide +kernel
theorem dX5_go_74 : decode cX5_go 74 = .ok (.sipush 500, 3) := by decide +kernel
theorem dX5_go_77 : decode cX5_go 77 = .ok (.if_icmp .lt 16, 3) := by decide +kernel
theorem dX5_go_80 : decode cX5_go 80 = .ok (.aload_n 0, 1) := by decide +kernel
theorem dX5_go_81 : decode cX5_go 81 = .ok (.sipush 500, 3) := by decide +kernel
theorem dX5_go_84 : decode cX5_go 84 = .ok (.putfield 24, 3) := by decide +kernel
theorem dX5_go_87 : decode cX5_go 87 = .ok (.aload_n 0, 1) := by decide +kernel
theorem dX5_go_88 : decode cX5_go 88 = .ok (.iconst 1, 1) := by decide +kernel
theorem dX5_go_89 : decode cX5_go 89 = .ok (.putfield 27, 3) := by decide +kernel
theorem dX5_go_92 : decode cX5_go 92 = .ok (.return_, 1) := by decide +kernel
theorem dX5_go_93 : decode cX5_go 93 = .ok (.aload_n 0, 1) := by decide +kernel
theorem dX5_go_94 : decode cX5_go 94 = .ok (.getfield 21, 3) := by decide +kernel
theorem dX5_go_97 : decode cX5_go 97 = .ok (.aload_n 0, 1) := by decide +kernel
theorem dX5_go_98 : decode cX5_go 98 = .ok (.getfield 18, 3) := by decide +kernel
theorem dX5_go_101 : decode cX5_go 101 = .ok (.if_icmp .lt 9, 3) := by decide +kernel
theorem dX5_go_104 : decode cX5_go 104 = .ok (.aload_n 0, 1) := by decide +kernel
theorem dX5_go_105 : decode cX5_go 105 = .ok (.iconst 0, 1) := by decide +kernel
theorem dX5_go_106 : decode cX5_go 106 = .ok (.putfield 27, 3) := by decide +kernel
theorem dX5_go_109 : decode cX5_go 109 = .ok (.return_, 1) := by decide +kernel
theorem dX5_go_110 : decode cX5_go 110 = .ok (.aload_n 0, 1) := by decide +kernel
theorem dX5_go_111 : decode cX5_go 111 = .ok (.getfield 7, 3) := by decide +kernel
theorem dX5_go_114 : decode cX5_go 114 = .ok (.aload_n 0, 1) := by decide +kernel
theorem dX5_go_115 : decode cX5_go 115 = .ok (.getfield 21, 3) := by decide +kernel
theorem dX5_go_118 : decode cX5_go 118 = .ok (.iaload, 1) := by decide +kernel
theorem dX5_go_119 : decode cX5_go 119 = .ok (.istore_n 1, 1) := by decide +kernel
theorem dX5_go_120 : decode cX5_go 120 = .ok (.iload_n 1, 1) := by decide +kernel
theorem dX5_go_121 : decode cX5_go 121 = .ok (.invokestatic 30, 3) := by decide +kernel
theorem dX5_go_124 : decode cX5_go 124 = .ok (.ifCond .ne 36, 3) := by decide +kernel
theorem dX5_go_127 : decode cX5_go 127 = .ok (.iload_n 1, 1) := by decide +kernel
theorem dX5_go_128 : decode cX5_go 128 = .ok (.invokestatic 34, 3) := by decide +kernel
theorem dX5_go_131 : decode cX5_go 131 = .ok (.ifCond .ne 29, 3) := by decide +kernel
theorem dX5_go_134 : decode cX5_go 134 = .ok (.aload_n 0, 1) := by decide +kernel
theorem dX5_go_135 : decode cX5_go 135 = .ok (.iload_n 1, 1) := by decide +kernel
theorem dX5_go_136 : decode cX5_go 136 = .ok (.bipush 59, 2) := by decide +kernel
theorem dX5_go_138 : decode cX5_go 138 = .ok (.if_icmp .ne 7, 3) := by decide +kernel
theorem dX5_go_141 : decode cX5_go 141 = .ok (.iconst 4, 1) := by decide +kernel
theorem dX5_go_142 : decode cX5_go 142 = .ok (.goto 4, 3) := by decide +kernel
theorem dX5_go_145 : decode cX5_go 145 = .ok (.iconst 1, 1) := by decide +kernel
theorem dX5_go_146 : decode cX5_go 146 = .ok (.putfield 27, 3) := by decide +kernel
theorem dX5_go_149 : decode cX5_go 149 = .ok (.aload_n 0, 1) := by decide +kernel
theorem dX5_go_150 : decode cX5_go 150 = .ok (.dup, 1) := by decide +kernel
theorem dX5_go_151 : decode cX5_go 151 = .ok (.getfield 21, 3) := by decide +kernel
theorem dX5_go_154 : decode cX5_go 154 = .ok (.iconst 1, 1) := by decide +kernel
theorem dX5_go_155 : decode cX5_go 155 = .ok (.iadd, 1) := by decide +kernel
theorem dX5_go_156 : decode cX5_go 156 = .ok (.putfield 21, 3) := by decide +kernel
theorem dX5_go_159 : decode cX5_go 159 = .ok (.return_, 1) := by decide +kernel
theorem dX5_go_160 : decode cX5_go 160 = .ok (.iload_n 1, 1) := by decide +kernel
theorem dX5_go_161 : decode cX5_go 161 = .ok (.invokestatic 30, 3) := by decide +kernel
theorem dX5_go_164 : decode cX5_go 164 = .ok (.istore_n 2, 1) := by decide +kernel
theorem dX5_go_165 : decode cX5_go 165 = .ok (.iconst 1, 1) := by decide +kernel
theorem dX5_go_166 : decode cX5_go 166 = .ok (.istore_n 3, 1) := by decide +kernel
theorem dX5_go_167 : decode cX5_go 167 = .ok (.aload_n 0, 1) := by decide +kernel
theorem dX5_go_168 : decode cX5_go 168 = .ok (.lconst 0, 1) := by decide +kernel
theorem dX5_go_169 : decode cX5_go 169 = .ok (.putfield 37, 3) := by decide +kernel
theorem dX5_go_172 : decode cX5_go 172 = .ok (.aload_n 0, 1) := by decide +kernel
theorem dX5_go_173 : decode cX5_go 173 = .ok (.iconst 0, 1) := by decide +kernel
theorem dX5_go_174 : decode cX5_go 174 = .ok (.putfield 41, 3) := by decide +kernel
theorem dX5_go_177 : decode cX5_go 177 = .ok (.aload_n 0, 1) := by decide +kernel
theorem dX5_go_178 : decode cX5_go 178 = .ok (.aload_n 0, 1) := by decide +kernel
theorem dX5_go_179 : decode cX5_go 179 = .ok (.getfield 21, 3) := by decide +kernel
theorem dX5_go_182 : decode cX5_go 182 = .ok (.invokevirtual 44, 3) := by decide +kernel
theorem dX5_go_185 : decode cX5_go 185 = .ok (.invokestatic 30, 3) := by decide +kernel
theorem dX5_go_188 : decode cX5_go 188 = .ok (.ifCond .ne 17, 3) := by decide +kernel
theorem dX5_go_191 : decode cX5_go 191 = .ok (.aload_n 0, 1) := by decide +kernel
theorem dX5_go_192 : decode cX5_go 192 = .ok (.aload_n 0, 1) := by decide +kernel
theorem dX5_go_193 : decode cX5_go 193 = .ok (.getfield 21, 3) := by decide +kernel
theorem dX5_go_196 : decode cX5_go 196 = .ok (.invokevirtual 44, 3) := by decide +kernel
theorem dX5_go_199 : decode cX5_go 199 = .ok (.invokestatic 34, 3) := by decide +kernel
theorem dX5_go_202 : decode cX5_go 202 = .ok (.ifCond .eq 110, 3) := by decide +kernel
theorem dX5_go_205 : decode cX5_go 205 = .ok (.aload_n 0, 1) := by decide +kernel
theorem dX5_go_206 : decode cX5_go 206 = .ok (.getfield 7, 3) := by decide +kernel
theorem dX5_go_209 : decode cX5_go 209 = .ok (.aload_n 0, 1) := by decide +kernel
theorem dX5_go_210 : decode cX5_go 210 = .ok (.getfield 21, 3) := by decide +kernel
theorem dX5_go_213 : decode cX5_go 213 = .ok (.iaload, 1) := by decide +kernel
theorem dX5_go_214 : decode cX5_go 214 = .ok (.istore 4, 2) := by decide +kernel
theorem dX5_go_216 : decode cX5_go 216 = .ok (.iload_n 3, 1) := by decide +kernel
theorem dX5_go_217 : decode cX5_go 217 = .ok (.ifCond .eq 16, 3) := by decide +kernel
theorem dX5_go_220 : decode cX5_go 220 = .ok (.iload 4, 2) := by decide +kernel
theorem dX5_go_222 : decode cX5_go 222 = .ok (.invokestatic 30, 3) := by decide +kernel
theorem dX5_go_225 : decode cX5_go 225 = .ok (.iload_n 2, 1) := by decide +kernel
theorem dX5_go_226 : decode cX5_go 226 = .ok (.if_icmp .ne 7, 3) := by decide +kernel
theorem dX5_go_229 : decode cX5_go 229 = .ok (.iconst 1, 1) := by decide +kernel
theorem dX5_go_230 : decode cX5_go 230 = .ok (.goto 4, 3) := by decide +kernel
theorem dX5_go_233 : decode cX5_go 233 = .ok (.iconst 0, 1) := by decide +kernel
theorem dX5_go_234 : decode cX5_go 234 = .ok (.istore_n 3, 1) := by decide +kernel
theorem dX5_go_235 : decode cX5_go 235 = .ok (.aload_n 0, 1) := by decide +kernel
theorem dX5_go_236 : decode cX5_go 236 = .ok (.getfield 21, 3) := by decide +kernel
theorem dX5_go_239 : decode cX5_go 239 = .ok (.aload_n 0, 1) := by decide +kernel
theorem dX5_go_240 : decode cX5_go 240 = .ok (.getfield 24, 3) := by decide +kernel
theorem dX5_go_243 : decode cX5_go 243 = .ok (.isub, 1) := by decide +kernel
theorem dX5_go_244 : decode cX5_go 244 = .ok (.bipush 7, 2) := by decide +kernel
theorem dX5_go_246 : decode cX5_go 246 = .ok (.if_icmp .ge 23, 3) := by decide +kernel
theorem dX5_go_249 : decode cX5_go 249 = .ok (.aload_n 0, 1) := by decide +kernel
theorem dX5_go_250 : decode cX5_go 250 = .ok (.ldc2_w 48, 3) := by decide +kernel
theorem dX5_go_253 : decode cX5_go 253 = .ok (.aload_n 0, 1) := by decide +kernel
theorem dX5_go_254 : decode cX5_go 254 = .ok (.getfield 37, 3) := by decide +kernel
theorem dX5_go_257 : decode cX5_go 257 = .ok (.lmul, 1) := by decide +kernel
theorem dX5_go_258 : decode cX5_go 258 = .ok (.iload 4, 2) := by decide +kernel
theorem dX5_go_260 : decode cX5_go 260 = .ok (.i2l, 1) := by decide +kernel
theorem dX5_go_261 : decode cX5_go 261 = .ok (.ladd, 1) := by decide +kernel
theorem dX5_go_262 : decode cX5_go 262 = .ok (.ldc2_w 50, 3) := by decide +kernel
theorem dX5_go_265 : decode cX5_go 265 = .ok (.lsub, 1) := by decide +kernel
theorem dX5_go_266 : decode cX5_go 266 = .ok (.putfield 37, 3) := by decide +kernel
theorem dX5_go_269 : decode cX5_go 269 = .ok (.aload_n 0, 1) := by decide +kernel
theorem dX5_go_270 : decode cX5_go 270 = .ok (.getfield 21, 3) := by decide +kernel
theorem dX5_go_273 : decode cX5_go 273 = .ok (.aload_n 0, 1) := by decide +kernel
theorem dX5_go_274 : decode cX5_go 274 = .ok (.getfield 24, 3) := by decide +kernel
theorem dX5_go_277 : decode cX5_go 277 = .ok (.isub, 1) := by decide +kernel
theorem dX5_go_278 : decode cX5_go 278 = .ok (.iconst 3, 1) := by decide +kernel
theorem dX5_go_279 : decode cX5_go 279 = .ok (.if_icmp .ge 20, 3) := by decide +kernel
theorem dX5_go_282 : decode cX5_go 282 = .ok (.aload_n 0, 1) := by decide +kernel
theorem dX5_go_283 : decode cX5_go 283 = .ok (.bipush 10, 2) := by decide +kernel
theorem dX5_go_285 : decode cX5_go 285 = .ok (.aload_n 0, 1) := by decide +kernel
theorem dX5_go_286 : decode cX5_go 286 = .ok (.getfield 41, 3) := by decide +kernel
theorem dX5_go_289 : decode cX5_go 289 = .ok (.imul, 1) := by decide +kernel
theorem dX5_go_290 : decode cX5_go 290 = .ok (.iload 4, 2) := by decide +kernel
theorem dX5_go_292 : decode cX5_go 292 = .ok (.iadd, 1) := by decide +kernel
theorem dX5_go_293 : decode cX5_go 293 = .ok (.bipush 48, 2) := by decide +kernel
theorem dX5_go_295 : decode cX5_go 295 = .ok (.isub, 1) := by decide +kernel
theorem dX5_go_296 : decode cX5_go 296 = .ok (.putfield 41, 3) := by decide +kernel
theorem dX5_go_299 : decode cX5_go 299 = .ok (.aload_n 0, 1) := by decide +kernel
theorem dX5_go_300 : decode cX5_go 300 = .ok (.dup, 1) := by decide +kernel
theorem dX5_go_301 : decode cX5_go 301 = .ok (.getfield 21, 3) := by decide +kernel
theorem dX5_go_304 : decode cX5_go 304 = .ok (.iconst 1, 1) := by decide +kernel
theorem dX5_go_305 : decode cX5_go 305 = .ok (.iadd, 1) := by decide +kernel
theorem dX5_go_306 : decode cX5_go 306 = .ok (.putfield 21, 3) := by decide +kernel
theorem dX5_go_309 : decode cX5_go 309 = .ok (.goto (-132), 3) := by decide +kernel
theorem dX5_go_312 : decode cX5_go 312 = .ok (.aload_n 0, 1) := by decide +kernel
theorem dX5_go_313 : decode cX5_go 313 = .ok (.iload_n 3, 1) := by decide +kernel
theorem dX5_go_314 : decode cX5_go 314 = .ok (.ifCond .eq 20, 3) := by decide +kernel
theorem dX5_go_317 : decode cX5_go 317 = .ok (.iload_n 2, 1) := by decide +kernel
theorem dX5_go_318 : decode cX5_go 318 = .ok (.ifCond .ne 20, 3) := by decide +kernel
theorem dX5_go_321 : decode cX5_go 321 = .ok (.aload_n 0, 1) := by decide +kernel
theorem dX5_go_322 : decode cX5_go 322 = .ok (.getfield 21, 3) := by decide +kernel
theorem dX5_go_325 : decode cX5_go 325 = .ok (.aload_n 0, 1) := by decide +kernel
theorem dX5_go_326 : decode cX5_go 326 = .ok (.getfield 24, 3) := by decide +kernel
theorem dX5_go_329 : decode cX5_go 329 = .ok (.isub, 1) := by decide +kernel
theorem dX5_go_330 : decode cX5_go 330 = .ok (.iconst 3, 1) := by decide +kernel
theorem dX5_go_331 : decode cX5_go 331 = .ok (.if_icmp .le 7, 3) := by decide +kernel
theorem dX5_go_334 : decode cX5_go 334 = .ok (.iconst 1, 1) := by decide +kernel
theorem dX5_go_335 : decode cX5_go 335 = .ok (.goto 12, 3) := by decide +kernel
theorem dX5_go_338 : decode cX5_go 338 = .ok (.iload_n 2, 1) := by decide +kernel
theorem dX5_go_339 : decode cX5_go 339 = .ok (.ifCond .eq 7, 3) := by decide +kernel
theorem dX5_go_342 : decode cX5_go 342 = .ok (.iconst 2, 1) := by decide +kernel
theorem dX5_go_343 : decode cX5_go 343 = .ok (.goto 4, 3) := by decide +kernel
theorem dX5_go_346 : decode cX5_go 346 = .ok (.iconst 3, 1) := by decide +kernel
theorem dX5_go_347 : decode cX5_go 347 = .ok (.putfield 27, 3) := by decide +kernel
theorem dX5_go_350 : decode cX5_go 350 = .ok (.return_, 1) := by decide +kernel
theorem dX5_two_0 : decode cX5_two 0 = .ok (.ldc2_w 48, 3) := by decide +kernel
theorem dX5_two_3 : decode cX5_two 3 = .ok (.iload_n 0, 1) := by decide +kernel
theorem dX5_two_4 : decode cX5_two 4 = .ok (.i2l, 1) := by decide +kernel
theorem dX5_two_5 : decode cX5_two 5 = .ok (.ldc2_w 50, 3) := by decide +kernel
theorem dX5_two_8 : decode cX5_two 8 = .ok (.lsub, 1) := by decide +kernel
theorem dX5_two_9 : decode cX5_two 9 = .ok (.lmul, 1) := by decide +kernel
theorem dX5_two_10 : decode cX5_two 10 = .ok (.iload_n 1, 1) := by decide +kernel
theorem dX5_two_11 : decode cX5_two 11 = .ok (.i2l, 1) := by decide +kernel
theorem dX5_two_12 : decode cX5_two 12 = .ok (.ladd, 1) := by decide +kernel
theorem dX5_two_13 : decode cX5_two 13 = .ok (.ldc2_w 50, 3) := by decide +kernel
theorem dX5_two_16 : decode cX5_two 16 = .ok (.lsub, 1) := by decide +kernel
theorem dX5_two_17 : decode cX5_two 17 = .ok (.lreturn, 1) := by decide +kernel
set_option maxRecDepth 20000 in
theorem ggX5_four_X5_two : GoodIn wsX5_four wsX5_two := goodIn_r _ [5, 6, 7] (by decide +kernel) (by decide +kernel)
set_option maxRecDepth 20000 in
theorem gX5_four_X5_two : GoodIn wsX5_four (va_wsS RX5 54 yX5_two wsX5_two) := goodIn_app (goodIn_of _ (by decide +kernel)) ggX5_four_X5_two
theorem dX5_four_0 : decode cX5_four 0 = .ok (.ldc2_w 52, 3) := by decide +kernel
theorem dX5_four_3 : decode cX5_four 3 = .ok (.iload_n 0, 1) := by decide +kernel
theorem dX5_four_4 : decode cX5_four 4 = .ok (.iload_n 1, 1) := by decide +kernel
theorem dX5_four_5 : decode cX5_four 5 = .ok (.invokestatic 54, 3) := by decide +kernel
theorem dX5_four_8 : decode cX5_four 8 = .ok (.lmul, 1) := by decide +kernel
theorem dX5_four_9 : decode cX5_four 9 = .ok (.iload_n 2, 1) := by decide +kernel
theorem dX5_four_10 : decode cX5_four 10 = .ok (.iload_n 3, 1) := by decide +kernel
theorem dX5_four_11 : decode cX5_four 11 = .ok (.invokestatic 54, 3) := by decide +kernel
theorem dX5_four_14 : decode cX5_four 14 = .ok (.ladd, 1) := by decide +kernel
theorem dX5_four_15 : decode cX5_four 15 = .ok (.lreturn, 1) := by decide +kernel
theorem dX5_isWord_0 : decode cX5_isWord 0 = .ok (.aload_n 0, 1) := by decide +kernel
theorem dX5_isWord_1 : decode cX5_isWord 1 = .ok (.getfield 27, 3) := by decide +kernel
theorem dX5_isWord_4 : decode cX5_isWord 4 = .ok (.iconst 2, 1) := by decide +kernel
theorem dX5_isWord_5 : decode cX5_isWord 5 = .ok (.if_icmp .ne 16, 3) := by decide +kernel
theorem dX5_isWord_8 : decode cX5_isWord 8 = .ok (.aload_n 0, 1) := by decide +kernel
theorem dX5_isWord_9 : decode cX5_isWord 9 = .ok (.getfield 37, 3) := by decide +kernel
theorem dX5_isWord_12 : decode cX5_isWord 12 = .ok (.lload_n 1, 1) := by decide +kernel
theorem dX5_isWord_13 : decode cX5_isWord 13 = .ok (.lcmp, 1) := by decide +kernel
theorem dX5_isWord_14 : decode cX5_isWord 14 = .ok (.ifCond .ne 7, 3) := by decide +kernel
theorem dX5_isWord_17 : decode cX5_isWord 17 = .ok (.iconst 1, 1) := by decide +kernel
theorem dX5_isWord_18 : decode cX5_isWord 18 = .ok (.goto 4, 3) := by decide +kernel
theorem dX5_isWord_21 : decode cX5_isWord 21 = .ok (.iconst 0, 1) := by decide +kernel
theorem dX5_isWord_22 : decode cX5_isWord 22 = .ok (.ireturn, 1) := by decide +kernel
theorem dX5_bad_0 : decode cX5_bad 0 = .ok (.aload_n 0, 1) := by decide +kernel
theorem dX5_bad_1 : decode cX5_bad 1 = .ok (.aload_n 0, 1) := by decide +kernel
theorem dX5_bad_2 : decode cX5_bad 2 = .ok (.getfield 27, 3) := by decide +kernel
theorem dX5_bad_5 : decode cX5_bad 5 = .ok (.iconst 1, 1) := by decide +kernel
theorem dX5_bad_6 : decode cX5_bad 6 = .ok (.if_icmp .ne 7, 3) := by decide +kernel
theorem dX5_bad_9 : decode cX5_bad 9 = .ok (.iconst 1, 1) := by decide +kernel
theorem dX5_bad_10 : decode cX5_bad 10 = .ok (.goto 4, 3) := by decide +kernel
theorem dX5_bad_13 : decode cX5_bad 13 = .ok (.iload_n 1, 1) := by decide +kernel
theorem dX5_bad_14 : decode cX5_bad 14 = .ok (.putfield 58, 3) := by decide +kernel
theorem dX5_bad_17 : decode cX5_bad 17 = .ok (.aload_n 0, 1) := by decide +kernel
theorem dX5_bad_18 : decode cX5_bad 18 = .ok (.aload_n 0, 1) := by decide +kernel
theorem dX5_bad_19 : decode cX5_bad 19 = .ok (.getfield 24, 3) := by decide +kernel
theorem dX5_bad_22 : decode cX5_bad 22 = .ok (.putfield 61, 3) := by decide +kernel
theorem dX5_bad_25 : decode cX5_bad 25 = .ok (.iconst 0, 1) := by decide +kernel
theorem dX5_bad_26 : decode cX5_bad 26 = .ok (.ireturn, 1) := by decide +kernel
theorem dX5_init_0 : decode cX5_init 0 = .ok (.aload_n 0, 1) := by decide +kernel
theorem dX5_init_1 : decode cX5_init 1 = .ok (.invokespecial 64, 3) := by decide +kernel
theorem dX5_init_4 : decode cX5_init 4 = .ok (.aload_n 0, 1) := by decide +kernel
theorem dX5_init_5 : decode cX5_init 5 = .ok (.sipush 540, 3) := by decide +kernel
theorem dX5_init_8 : decode cX5_init 8 = .ok (.newarray .int, 2) := by decide +kernel
theorem dX5_init_10 : decode cX5_init 10 = .ok (.putfield 7, 3) := by decide +kernel
theorem dX5_init_13 : decode cX5_init 13 = .ok (.aload_n 0, 1) := by decide +kernel
theorem dX5_init_14 : decode cX5_init 14 = .ok (.bipush 58, 2) := by decide +kernel
theorem dX5_init_16 : decode cX5_init 16 = .ok (.newarray .int, 2) := by decide +kernel
theorem dX5_init_18 : decode cX5_init 18 = .ok (.putfield 70, 3) := by decide +kernel
theorem dX5_init_21 : decode cX5_init 21 = .ok (.aload_n 0, 1) := by decide +kernel
theorem dX5_init_22 : decode cX5_init 22 = .ok (.bipush 58, 2) := by decide +kernel
theorem dX5_init_24 : decode cX5_init 24 = .ok (.newarray .int, 2) := by decide +kernel
theorem dX5_init_26 : decode cX5_init 26 = .ok (.putfield 73, 3) := by decide +kernel
theorem dX5_init_29 : decode cX5_init 29 = .ok (.aload_n 0, 1) := by decide +kernel
theorem dX5_init_30 : decode cX5_init 30 = .ok (.sipush 580, 3) := by decide +kernel
theorem dX5_init_33 : decode cX5_init 33 = .ok (.newarray .int, 2) := by decide +kernel
theorem dX5_init_35 : decode cX5_init 35 = .ok (.putfield 76, 3) := by decide +kernel
theorem dX5_init_38 : decode cX5_init 38 = .ok (.aload_n 0, 1) := by decide +kernel
theorem dX5_init_39 : decode cX5_init 39 = .ok (.bipush 48, 2) := by decide +kernel
theorem dX5_init_41 : decode cX5_init 41 = .ok (.newarray .int, 2) := by decide +kernel
theorem dX5_init_43 : decode cX5_init 43 = .ok (.putfield 79, 3) := by decide +kernel
theorem dX5_init_46 : decode cX5_init 46 = .ok (.aload_n 0, 1) := by decide +kernel
theorem dX5_init_47 : decode cX5_init 47 = .ok (.bipush 48, 2) := by decide +kernel
theorem dX5_init_49 : decode cX5_init 49 = .ok (.newarray .int, 2) := by decide +kernel
theorem dX5_init_51 : decode cX5_init 51 = .ok (.putfield 82, 3) := by decide +kernel
theorem dX5_init_54 : decode cX5_init 54 = .ok (.aload_n 0, 1) := by decide +kernel
theorem dX5_init_55 : decode cX5_init 55 = .ok (.bipush 48, 2) := by decide +kernel
theorem dX5_init_57 : decode cX5_init 57 = .ok (.newarray .int, 2) := by decide +kernel
theorem dX5_init_59 : decode cX5_init 59 = .ok (.putfield 85, 3) := by decide +kernel
theorem dX5_init_62 : decode cX5_init 62 = .ok (.aload_n 0, 1) := by decide +kernel
theorem dX5_init_63 : decode cX5_init 63 = .ok (.bipush 48, 2) := by decide +kernel
theorem dX5_init_65 : decode cX5_init 65 = .ok (.newarray .int, 2) := by decide +kernel
theorem dX5_init_67 : decode cX5_init 67 = .ok (.putfield 88, 3) := by decide +kernel
theorem dX5_init_70 : decode cX5_init 70 = .ok (.aload_n 0, 1) := by decide +kernel
theorem dX5_init_71 : decode cX5_init 71 = .ok (.bipush 48, 2) := by decide +kernel
theorem dX5_init_73 : decode cX5_init 73 = .ok (.newarray .int, 2) := by decide +kernel
theorem dX5_init_75 : decode cX5_init 75 = .ok (.putfield 91, 3) := by decide +kernel
theorem dX5_init_78 : decode cX5_init 78 = .ok (.aload_n 0, 1) := by decide +kernel
theorem dX5_init_79 : decode cX5_init 79 = .ok (.bipush 8, 2) := by decide +kernel
theorem dX5_init_81 : decode cX5_init 81 = .ok (.newarray .int, 2) := by decide +kernel
theorem dX5_init_83 : decode cX5_init 83 = .ok (.putfield 94, 3) := by decide +kernel
theorem dX5_init_86 : decode cX5_init 86 = .ok (.aload_n 0, 1) := by decide +kernel
theorem dX5_init_87 : decode cX5_init 87 = .ok (.bipush 8, 2) := by decide +kernel
theorem dX5_init_89 : decode cX5_init 89 = .ok (.newarray .int, 2) := by decide +kernel
theorem dX5_init_91 : decode cX5_init 91 = .ok (.putfield 97, 3) := by decide +kernel
theorem dX5_init_94 : decode cX5_init 94 = .ok (.aload_n 0, 1) := by decide +kernel
theorem dX5_init_95 : decode cX5_init 95 = .ok (.bipush 98, 2) := by decide +kernel
theorem dX5_init_97 : decode cX5_init 97 = .ok (.newarray .long, 2) := by decide +kernel
theorem dX5_init_99 : decode cX5_init 99 = .ok (.putfield 100, 3) := by decide +kernel
theorem dX5_init_102 : decode cX5_init 102 = .ok (.aload_n 0, 1) := by decide +kernel
theorem dX5_init_103 : decode cX5_init 103 = .ok (.bipush 8, 2) := by decide +kernel
theorem dX5_init_105 : decode cX5_init 105 = .ok (.newarray .long, 2) := by decide +kernel
theorem dX5_init_107 : decode cX5_init 107 = .ok (.putfield 104, 3) := by decide +kernel
theorem dX5_init_110 : decode cX5_init 110 = .ok (.aload_n 0, 1) := by decide +kernel
theorem dX5_init_111 : decode cX5_init 111 = .ok (.bipush 8, 2) := by decide +kernel
theorem dX5_init_113 : decode cX5_init 113 = .ok (.newarray .long, 2) := by decide +kernel
theorem dX5_init_115 : decode cX5_init 115 = .ok (.putfield 107, 3) := by decide +kernel
theorem dX5_init_118 : decode cX5_init 118 = .ok (.aload_n 0, 1) := by decide +kernel
theorem dX5_init_119 : decode cX5_init 119 = .ok (.getfield 70, 3) := by decide +kernel
theorem dX5_init_122 : decode cX5_init 122 = .ok (.iconst 0, 1) := by decide +kernel
theorem dX5_init_123 : decode cX5_init 123 = .ok (.iconst 2, 1) := by decide +kernel
theorem dX5_init_124 : decode cX5_init 124 = .ok (.iastore, 1) := by decide +kernel
theorem dX5_init_125 : decode cX5_init 125 = .ok (.return_, 1) := by decide +kernel
set_option maxRecDepth 20000 in
theorem ggX5_takes_X5_bad : GoodIn wsX5_takes wsX5_bad := goodIn_r _ [8, 1, 9, 10, 11, 35, 36, 37, 38, 39, 40, 41, 42, 43, 44, 45, 46, 47, 48, 49, 50, 51, 52, 53, 54, 55, 56, 57, 58, 59, 60, 61, 62, 63, 64, 65] (by decide +kernel) (by decide +kernel)
set_option maxRecDepth 20000 in
theorem gX5_takes_X5_bad : GoodIn wsX5_takes (wsV RX5 110 RX5 yX5_bad wsX5_bad) := goodIn_app (goodIn_of _ (by decide +kernel)) ggX5_takes_X5_bad
set_option maxRecDepth 20000 in
theorem ggX5_takes_X5_isIn : GoodIn wsX5_takes wsX5_isIn := goodIn_r _ [14] (by decide +kernel) (by decide +kernel)
set_option maxRecDepth 20000 in
theorem gX5_takes_X5_isIn : GoodIn wsX5_takes (va_wsS RX5 113 yX5_isIn wsX5_isIn) := goodIn_app (goodIn_of _ (by decide +kernel)) ggX5_takes_X5_isIn
set_option maxRecDepth 20000 in
theorem ggX5_takes_X5_go : GoodIn wsX5_takes wsX5_go := goodIn_r _ [18, 19, 20, 21, 10, 1, 22, 2, 23, 24, 25, 26, 7, 27, 28, 29, 30, 31, 32, 33, 34, 35, 36, 37, 38, 39, 40, 41, 42, 43, 44, 45, 46, 47, 48, 49, 50, 51, 52, 53, 54, 55, 56, 57, 58, 59, 60, 61, 62, 63, 64, 65] (by decide +kernel) (by decide +kernel)
set_option maxRecDepth 20000 in
theorem gX5_takes_X5_go : GoodIn wsX5_takes (wsV RX5 120 RX5 yX5_go wsX5_go) := goodIn_app (goodIn_of _ (by decide +kernel)) ggX5_takes_X5_go
theorem dX5_takes_0 : decode cX5_takes 0 = .ok (.aload_n 0, 1) := by decide +kernel
theorem dX5_takes_1 : decode cX5_takes 1 = .ok (.getfield 27, 3) := by decide +kernel
theorem dX5_takes_4 : decode cX5_takes 4 = .ok (.iconst 3, 1) := by decide +kernel
theorem dX5_takes_5 : decode cX5_takes 5 = .ok (.if_icmp .eq 9, 3) := by decide +kernel
theorem dX5_takes_8 : decode cX5_takes 8 = .ok (.aload_n 0, 1) := by decide +kernel
theorem dX5_takes_9 : decode cX5_takes 9 = .ok (.iconst 1, 1) := by decide +kernel
theorem dX5_takes_10 : decode cX5_takes 10 = .ok (.invokevirtual 110, 3) := by decide +kernel
theorem dX5_takes_13 : decode cX5_takes 13 = .ok (.ireturn, 1) := by decide +kernel
theorem dX5_takes_14 : decode cX5_takes 14 = .ok (.aload_n 0, 1) := by decide +kernel
theorem dX5_takes_15 : decode cX5_takes 15 = .ok (.getfield 41, 3) := by decide +kernel
theorem dX5_takes_18 : decode cX5_takes 18 = .ok (.iload_n 1, 1) := by decide +kernel
theorem dX5_takes_19 : decode cX5_takes 19 = .ok (.iload_n 2, 1) := by decide +kernel
theorem dX5_takes_20 : decode cX5_takes 20 = .ok (.invokestatic 113, 3) := by decide +kernel
theorem dX5_takes_23 : decode cX5_takes 23 = .ok (.ifCond .ne 9, 3) := by decide +kernel
theorem dX5_takes_26 : decode cX5_takes 26 = .ok (.aload_n 0, 1) := by decide +kernel
theorem dX5_takes_27 : decode cX5_takes 27 = .ok (.iconst 2, 1) := by decide +kernel
theorem dX5_takes_28 : decode cX5_takes 28 = .ok (.invokevirtual 110, 3) := by decide +kernel
theorem dX5_takes_31 : decode cX5_takes 31 = .ok (.ireturn, 1) := by decide +kernel
theorem dX5_takes_32 : decode cX5_takes 32 = .ok (.aload_n 0, 1) := by decide +kernel
theorem dX5_takes_33 : decode cX5_takes 33 = .ok (.aload_n 0, 1) := by decide +kernel
theorem dX5_takes_34 : decode cX5_takes 34 = .ok (.getfield 41, 3) := by decide +kernel
theorem dX5_takes_37 : decode cX5_takes 37 = .ok (.putfield 117, 3) := by decide +kernel
theorem dX5_takes_40 : decode cX5_takes 40 = .ok (.aload_n 0, 1) := by decide +kernel
theorem dX5_takes_41 : decode cX5_takes 41 = .ok (.invokevirtual 120, 3) := by decide +kernel
theorem dX5_takes_44 : decode cX5_takes 44 = .ok (.iconst 1, 1) := by decide +kernel
theorem dX5_takes_45 : decode cX5_takes 45 = .ok (.ireturn, 1) := by decide +kernel
set_option maxRecDepth 20000 in
theorem ggX5_readEnd_X5_bad : GoodIn wsX5_readEnd wsX5_bad := goodIn_r _ [6, 1, 7, 8, 9, 31, 32, 33, 34, 35, 36, 37, 38, 39, 40, 41, 42, 43, 44, 45, 46, 47, 48, 49, 50, 51, 52, 53, 54, 55, 56, 57, 58, 59, 60, 61] (by decide +kernel) (by decide +kernel)
set_option maxRecDepth 20000 in
theorem gX5_readEnd_X5_bad : GoodIn wsX5_readEnd (wsV RX5 110 RX5 yX5_bad wsX5_bad) := goodIn_app (goodIn_of _ (by decide +kernel)) ggX5_readEnd_X5_bad
set_option maxRecDepth 20000 in
theorem ggX5_readEnd_X5_go : GoodIn wsX5_readEnd wsX5_go := goodIn_r _ [13, 14, 15, 16, 8, 1, 17, 18, 19, 20, 21, 22, 5, 23, 24, 25, 26, 27, 28, 29, 30, 31, 32, 33, 34, 35, 36, 37, 38, 39, 40, 41, 42, 43, 44, 45, 46, 47, 48, 49, 50, 51, 52, 53, 54, 55, 56, 57, 58, 59, 60, 61] (by decide +kernel) (by decide +kernel)
set_option maxRecDepth 20000 in
theorem gX5_readEnd_X5_go : GoodIn wsX5_readEnd (wsV RX5 120 RX5 yX5_go wsX5_go) := goodIn_app (goodIn_of _ (by decide +kernel)) ggX5_readEnd_X5_go
theorem dX5_readEnd_0 : decode cX5_readEnd 0 = .ok (.aload_n 0, 1) := by decide +kernel
theorem dX5_readEnd_1 : decode cX5_readEnd 1 = .ok (.getfield 27, 3) := by decide +kernel
theorem dX5_readEnd_4 : decode cX5_readEnd 4 = .ok (.iconst 4, 1) := by decide +kernel
theorem dX5_readEnd_5 : decode cX5_readEnd 5 = .ok (.if_icmp .eq 9, 3) := by decide +kernel
theorem dX5_readEnd_8 : decode cX5_readEnd 8 = .ok (.aload_n 0, 1) := by decide +kernel
theorem dX5_readEnd_9 : decode cX5_readEnd 9 = .ok (.iconst 1, 1) := by decide +kernel
theorem dX5_readEnd_10 : decode cX5_readEnd 10 = .ok (.invokevirtual 110, 3) := by decide +kernel
theorem dX5_readEnd_13 : decode cX5_readEnd 13 = .ok (.ireturn, 1) := by decide +kernel
theorem dX5_readEnd_14 : decode cX5_readEnd 14 = .ok (.aload_n 0, 1) := by decide +kernel
theorem dX5_readEnd_15 : decode cX5_readEnd 15 = .ok (.invokevirtual 120, 3) := by decide +kernel
theorem dX5_readEnd_18 : decode cX5_readEnd 18 = .ok (.iconst 1, 1) := by decide +kernel
theorem dX5_readEnd_19 : decode cX5_readEnd 19 = .ok (.ireturn, 1) := by decide +kernel
set_option maxRecDepth 20000 in
theorem ggX5_readMonths_X5_four : GoodIn wsX5_readMonths wsX5_four := goodIn_r _ [7, 1, 8, 9, 6, 10, 11, 12] (by decide +kernel) (by decide +kernel)
set_option maxRecDepth 20000 in
theorem gX5_readMonths_X5_four : GoodIn wsX5_readMonths (va_wsS RX5 123 yX5_four wsX5_four) := goodIn_app (goodIn_of _ (by decide +kernel)) ggX5_readMonths_X5_four
set_option maxRecDepth 20000 in
theorem ggX5_readMonths_X5_two : GoodIn wsX5_readMonths wsX5_two := goodIn_r _ [10, 11, 12] (by decide +kernel) (by decide +kernel)
set_option maxRecDepth 20000 in
theorem gX5_readMonths_X5_two : GoodIn wsX5_readMonths (va_wsS RX5 54 yX5_two wsX5_two) := goodIn_app (goodIn_of _ (by decide +kernel)) ggX5_readMonths_X5_two
set_option maxRecDepth 20000 in
theorem ggX5_readMonths_X5_isWord : GoodIn wsX5_readMonths wsX5_isWord := goodIn_r _ [16, 17, 18, 55, 56, 57, 58, 59, 60, 61, 62, 63, 64, 65, 66, 67, 68, 69, 70, 71, 72, 73, 74, 75, 76, 77, 78, 79, 80, 81, 82, 83, 84, 85] (by decide +kernel) (by decide +kernel)
set_option maxRecDepth 20000 in
theorem gX5_readMonths_X5_isWord : GoodIn wsX5_readMonths (wsV RX5 127 RX5 yX5_isWord wsX5_isWord) := goodIn_app (goodIn_of _ (by decide +kernel)) ggX5_readMonths_X5_isWord
set_option maxRecDepth 20000 in
theorem ggX5_readMonths_X5_bad : GoodIn wsX5_readMonths wsX5_bad := goodIn_r _ [22, 17, 23, 24, 25, 55, 56, 57, 58, 59, 60, 61, 62, 63, 64, 65, 66, 67, 68, 69, 70, 71, 72, 73, 74, 75, 76, 77, 78, 79, 80, 81, 82, 83, 84, 85] (by decide +kernel) (by decide +kernel)
set_option maxRecDepth 20000 in
theorem gX5_readMonths_X5_bad : GoodIn wsX5_readMonths (wsV RX5 110 RX5 yX5_bad wsX5_bad) := goodIn_app (goodIn_of _ (by decide +kernel)) ggX5_readMonths_X5_bad
set_option maxRecDepth 20000 in
theorem ggX5_readMonths_X5_go : GoodIn wsX5_readMonths wsX5_go := goodIn_r _ [29, 30, 31, 32, 24, 17, 18, 33, 11, 12, 34, 35, 6, 36, 37, 38, 39, 40, 41, 42, 43, 55, 56, 57, 58, 59, 60, 61, 62, 63, 64, 65, 66, 67, 68, 69, 70, 71, 72, 73, 74, 75, 76, 77, 78, 79, 80, 81, 82, 83, 84, 85] (by decide +kernel) (by decide +kernel)
set_option maxRecDepth 20000 in
theorem gX5_readMonths_X5_go : GoodIn wsX5_readMonths (wsV RX5 120 RX5 yX5_go wsX5_go) := goodIn_app (goodIn_of _ (by decide +kernel)) ggX5_readMonths_X5_go
set_option maxRecDepth 20000 in
theorem ggX5_readMonths_X5_takes : GoodIn wsX5_readMonths wsX5_takes := goodIn_r _ [47, 17, 33, 3, 19, 20, 21, 6, 22, 23, 24, 25, 48, 49, 50, 26, 27, 28, 29, 30, 31, 32, 18, 11, 12, 34, 35, 36, 37, 38, 39, 40, 41, 42, 43, 55, 56, 57, 58, 59, 60, 61, 62, 63, 64, 65, 66, 67, 68, 69, 70, 71, 72, 73, 74, 75, 76, 77, 78, 79, 80, 81, 82, 83, 84, 85] (by decide +kernel) (by decide +kernel)
set_option maxRecDepth 20000 in
theorem gX5_readMonths_X5_takes : GoodIn wsX5_readMonths (wsV RX5 131 RX5 yX5_takes wsX5_takes) := goodIn_app (goodIn_of _ (by decide +kernel)) ggX5_readMonths_X5_takes
set_option maxRecDepth 20000 in
theorem ggX5_readMonths_X5_readEnd : GoodIn wsX5_readMonths wsX5_readEnd := goodIn_r _ [54, 17, 19, 20, 21, 6, 22, 23, 24, 25, 26, 27, 28, 29, 30, 31, 32, 18, 33, 11, 12, 34, 35, 36, 37, 38, 39, 40, 41, 42, 43, 55, 56, 57, 58, 59, 60, 61, 62, 63, 64, 65, 66, 67, 68, 69, 70, 71, 72, 73, 74, 75, 76, 77, 78, 79, 80, 81, 82, 83, 84, 85] (by decide +kernel) (by decide +kernel)
set_option maxRecDepth 20000 in
theorem gX5_readMonths_X5_readEnd : GoodIn wsX5_readMonths (wsV RX5 135 RX5 yX5_readEnd wsX5_readEnd) := goodIn_app (goodIn_of _ (by decide +kernel)) ggX5_readMonths_X5_readEnd
theorem dX5_readMonths_0 : decode cX5_readMonths 0 = .ok (.aload_n 0, 1) := by decide +kernel
theorem dX5_readMonths_1 : decode cX5_readMonths 1 = .ok (.ldc2_w 52, 3) := by decide +kernel
theorem dX5_readMonths_4 : decode cX5_readMonths 4 = .ok (.bipush 109, 2) := by decide +kernel
theorem dX5_readMonths_6 : decode cX5_readMonths 6 = .ok (.bipush 111, 2) := by decide +kernel
theorem dX5_readMonths_8 : decode cX5_readMonths 8 = .ok (.bipush 110, 2) := by decide +kernel
theorem dX5_readMonths_10 : decode cX5_readMonths 10 = .ok (.bipush 116, 2) := by decide +kernel
theorem dX5_readMonths_12 : decode cX5_readMonths 12 = .ok (.invokestatic 123, 3) := by decide +kernel
theorem dX5_readMonths_15 : decode cX5_readMonths 15 = .ok (.lmul, 1) := by decide +kernel
theorem dX5_readMonths_16 : decode cX5_readMonths 16 = .ok (.bipush 104, 2) := by decide +kernel
theorem dX5_readMonths_18 : decode cX5_readMonths 18 = .ok (.bipush 115, 2) := by decide +kernel
theorem dX5_readMonths_20 : decode cX5_readMonths 20 = .ok (.invokestatic 54, 3) := by decide +kernel
theorem dX5_readMonths_23 : decode cX5_readMonths 23 = .ok (.ladd, 1) := by decide +kernel
theorem dX5_readMonths_24 : decode cX5_readMonths 24 = .ok (.invokevirtual 127, 3) := by decide +kernel
theorem dX5_readMonths_27 : decode cX5_readMonths 27 = .ok (.ifCond .ne 9, 3) := by decide +kernel
theorem dX5_readMonths_30 : decode cX5_readMonths 30 = .ok (.aload_n 0, 1) := by decide +kernel
theorem dX5_readMonths_31 : decode cX5_readMonths 31 = .ok (.iconst 1, 1) := by decide +kernel
theorem dX5_readMonths_32 : decode cX5_readMonths 32 = .ok (.invokevirtual 110, 3) := by decide +kernel
theorem dX5_readMonths_35 : decode cX5_readMonths 35 = .ok (.ireturn, 1) := by decide +kernel
theorem dX5_readMonths_36 : decode cX5_readMonths 36 = .ok (.aload_n 0, 1) := by decide +kernel
theorem dX5_readMonths_37 : decode cX5_readMonths 37 = .ok (.invokevirtual 120, 3) := by decide +kernel
theorem dX5_readMonths_40 : decode cX5_readMonths 40 = .ok (.aload_n 0, 1) := by decide +kernel
theorem dX5_readMonths_41 : decode cX5_readMonths 41 = .ok (.iconst 2, 1) := by decide +kernel
theorem dX5_readMonths_42 : decode cX5_readMonths 42 = .ok (.bipush 8, 2) := by decide +kernel
theorem dX5_readMonths_44 : decode cX5_readMonths 44 = .ok (.invokevirtual 131, 3) := by decide +kernel
theorem dX5_readMonths_47 : decode cX5_readMonths 47 = .ok (.ifCond .ne 5, 3) := by decide +kernel
theorem dX5_readMonths_50 : decode cX5_readMonths 50 = .ok (.iconst 0, 1) := by decide +kernel
theorem dX5_readMonths_51 : decode cX5_readMonths 51 = .ok (.ireturn, 1) := by decide +kernel
theorem dX5_readMonths_52 : decode cX5_readMonths 52 = .ok (.aload_n 0, 1) := by decide +kernel
theorem dX5_readMonths_53 : decode cX5_readMonths 53 = .ok (.getfield 73, 3) := by decide +kernel
theorem dX5_readMonths_56 : decode cX5_readMonths 56 = .ok (.iconst 0, 1) := by decide +kernel
theorem dX5_readMonths_57 : decode cX5_readMonths 57 = .ok (.aload_n 0, 1) := by decide +kernel
theorem dX5_readMonths_58 : decode cX5_readMonths 58 = .ok (.getfield 117, 3) := by decide +kernel
theorem dX5_readMonths_61 : decode cX5_readMonths 61 = .ok (.iastore, 1) := by decide +kernel
theorem dX5_readMonths_62 : decode cX5_readMonths 62 = .ok (.aload_n 0, 1) := by decide +kernel
theorem dX5_readMonths_63 : decode cX5_readMonths 63 = .ok (.invokevirtual 135, 3) := by decide +kernel
theorem dX5_readMonths_66 : decode cX5_readMonths 66 = .ok (.ireturn, 1) := by decide +kernel
set_option maxRecDepth 20000 in
theorem ggX5_readWeigh_X5_go : GoodIn wsX5_readWeigh wsX5_go := goodIn_r _ [9, 10, 11, 12, 13, 1, 14, 2, 15, 16, 17, 18, 8, 19, 20, 21, 22, 23, 24, 25, 26, 44, 45, 46, 47, 48, 49, 50, 51, 52, 53, 54, 55, 56, 57, 58, 59, 60, 61, 62, 63, 64, 65, 66, 67, 68, 69, 70, 71, 72, 73, 74] (by decide +kernel) (by decide +kernel)
set_option maxRecDepth 20000 in
theorem gX5_readWeigh_X5_go : GoodIn wsX5_readWeigh (wsV RX5 120 RX5 yX5_go wsX5_go) := goodIn_app (goodIn_of _ (by decide +kernel)) ggX5_readWeigh_X5_go
set_option maxRecDepth 20000 in
theorem ggX5_readWeigh_X5_bad : GoodIn wsX5_readWeigh wsX5_bad := goodIn_r _ [30, 1, 31, 13, 32, 44, 45, 46, 47, 48, 49, 50, 51, 52, 53, 54, 55, 56, 57, 58, 59, 60, 61, 62, 63, 64, 65, 66, 67, 68, 69, 70, 71, 72, 73, 74] (by decide +kernel) (by decide +kernel)
set_option maxRecDepth 20000 in
theorem gX5_readWeigh_X5_bad : GoodIn wsX5_readWeigh (wsV RX5 110 RX5 yX5_bad wsX5_bad) := goodIn_app (goodIn_of _ (by decide +kernel)) ggX5_readWeigh_X5_bad
set_option maxRecDepth 20000 in
theorem ggX5_readWeigh_X5_isIn : GoodIn wsX5_readWeigh wsX5_isIn := goodIn_r _ [35] (by decide +kernel) (by decide +kernel)
set_option maxRecDepth 20000 in
theorem gX5_readWeigh_X5_isIn : GoodIn wsX5_readWeigh (va_wsS RX5 113 yX5_isIn wsX5_isIn) := goodIn_app (goodIn_of _ (by decide +kernel)) ggX5_readWeigh_X5_isIn
set_option maxRecDepth 20000 in
theorem ggX5_readWeigh_X5_takes : GoodIn wsX5_readWeigh wsX5_takes := goodIn_r _ [39, 1, 2, 4, 27, 28, 29, 8, 30, 31, 13, 32, 33, 34, 35, 5, 6, 7, 9, 10, 11, 12, 14, 15, 16, 17, 18, 19, 20, 21, 22, 23, 24, 25, 26, 44, 45, 46, 47, 48, 49, 50, 51, 52, 53, 54, 55, 56, 57, 58, 59, 60, 61, 62, 63, 64, 65, 66, 67, 68, 69, 70, 71, 72, 73, 74] (by decide +kernel) (by decide +kernel)
set_option maxRecDepth 20000 in
theorem gX5_readWeigh_X5_takes : GoodIn wsX5_readWeigh (wsV RX5 131 RX5 yX5_takes wsX5_takes) := goodIn_app (goodIn_of _ (by decide +kernel)) ggX5_readWeigh_X5_takes
set_option maxRecDepth 20000 in
theorem ggX5_readWeigh_X5_readEnd : GoodIn wsX5_readWeigh wsX5_readEnd := goodIn_r _ [43, 1, 27, 28, 29, 8, 30, 31, 13, 32, 5, 6, 7, 9, 10, 11, 12, 14, 2, 15, 16, 17, 18, 19, 20, 21, 22, 23, 24, 25, 26, 44, 45, 46, 47, 48, 49, 50, 51, 52, 53, 54, 55, 56, 57, 58, 59, 60, 61, 62, 63, 64, 65, 66, 67, 68, 69, 70, 71, 72, 73, 74] (by decide +kernel) (by decide +kernel)
set_option maxRecDepth 20000 in
theorem gX5_readWeigh_X5_readEnd : GoodIn wsX5_readWeigh (wsV RX5 135 RX5 yX5_readEnd wsX5_readEnd) := goodIn_app (goodIn_of _ (by decide +kernel)) ggX5_readWeigh_X5_readEnd
theorem dX5_readWeigh_0 : decode cX5_readWeigh 0 = .ok (.aload_n 0, 1) := by decide +kernel
theorem dX5_readWeigh_1 : decode cX5_readWeigh 1 = .ok (.invokevirtual 120, 3) := by decide +kernel
theorem dX5_readWeigh_4 : decode cX5_readWeigh 4 = .ok (.aload_n 0, 1) := by decide +kernel
theorem dX5_readWeigh_5 : decode cX5_readWeigh 5 = .ok (.getfield 27, 3) := by decide +kernel
theorem dX5_readWeigh_8 : decode cX5_readWeigh 8 = .ok (.iconst 3, 1) := by decide +kernel
theorem dX5_readWeigh_9 : decode cX5_readWeigh 9 = .ok (.if_icmp .eq 9, 3) := by decide +kernel
theorem dX5_readWeigh_12 : decode cX5_readWeigh 12 = .ok (.aload_n 0, 1) := by decide +kernel
theorem dX5_readWeigh_13 : decode cX5_readWeigh 13 = .ok (.iconst 1, 1) := by decide +kernel
theorem dX5_readWeigh_14 : decode cX5_readWeigh 14 = .ok (.invokevirtual 110, 3) := by decide +kernel
theorem dX5_readWeigh_17 : decode cX5_readWeigh 17 = .ok (.ireturn, 1) := by decide +kernel
theorem dX5_readWeigh_18 : decode cX5_readWeigh 18 = .ok (.aload_n 0, 1) := by decide +kernel
theorem dX5_readWeigh_19 : decode cX5_readWeigh 19 = .ok (.getfield 41, 3) := by decide +kernel
theorem dX5_readWeigh_22 : decode cX5_readWeigh 22 = .ok (.iconst 1, 1) := by decide +kernel
theorem dX5_readWeigh_23 : decode cX5_readWeigh 23 = .ok (.aload_n 0, 1) := by decide +kernel
theorem dX5_readWeigh_24 : decode cX5_readWeigh 24 = .ok (.getfield 73, 3) := by decide +kernel
theorem dX5_readWeigh_27 : decode cX5_readWeigh 27 = .ok (.iconst 0, 1) := by decide +kernel
theorem dX5_readWeigh_28 : decode cX5_readWeigh 28 = .ok (.iaload, 1) := by decide +kernel
theorem dX5_readWeigh_29 : decode cX5_readWeigh 29 = .ok (.iconst 1, 1) := by decide +kernel
theorem dX5_readWeigh_30 : decode cX5_readWeigh 30 = .ok (.isub, 1) := by decide +kernel
theorem dX5_readWeigh_31 : decode cX5_readWeigh 31 = .ok (.invokestatic 113, 3) := by decide +kernel
theorem dX5_readWeigh_34 : decode cX5_readWeigh 34 = .ok (.ifCond .eq 17, 3) := by decide +kernel
theorem dX5_readWeigh_37 : decode cX5_readWeigh 37 = .ok (.aload_n 0, 1) := by decide +kernel
theorem dX5_readWeigh_38 : decode cX5_readWeigh 38 = .ok (.getfield 73, 3) := by decide +kernel
theorem dX5_readWeigh_41 : decode cX5_readWeigh 41 = .ok (.iconst 2, 1) := by decide +kernel
theorem dX5_readWeigh_42 : decode cX5_readWeigh 42 = .ok (.aload_n 0, 1) := by decide +kernel
theorem dX5_readWeigh_43 : decode cX5_readWeigh 43 = .ok (.getfield 41, 3) := by decide +kernel
theorem dX5_readWeigh_46 : decode cX5_readWeigh 46 = .ok (.iadd, 1) := by decide +kernel
theorem dX5_readWeigh_47 : decode cX5_readWeigh 47 = .ok (.iaload, 1) := by decide +kernel
theorem dX5_readWeigh_48 : decode cX5_readWeigh 48 = .ok (.ifCond .le 9, 3) := by decide +kernel
theorem dX5_readWeigh_51 : decode cX5_readWeigh 51 = .ok (.aload_n 0, 1) := by decide +kernel
theorem dX5_readWeigh_52 : decode cX5_readWeigh 52 = .ok (.iconst 2, 1) := by decide +kernel
theorem dX5_readWeigh_53 : decode cX5_readWeigh 53 = .ok (.invokevirtual 110, 3) := by decide +kernel
theorem dX5_readWeigh_56 : decode cX5_readWeigh 56 = .ok (.ireturn, 1) := by decide +kernel
theorem dX5_readWeigh_57 : decode cX5_readWeigh 57 = .ok (.aload_n 0, 1) := by decide +kernel
theorem dX5_readWeigh_58 : decode cX5_readWeigh 58 = .ok (.getfield 41, 3) := by decide +kernel
theorem dX5_readWeigh_61 : decode cX5_readWeigh 61 = .ok (.istore_n 1, 1) := by decide +kernel
theorem dX5_readWeigh_62 : decode cX5_readWeigh 62 = .ok (.aload_n 0, 1) := by decide +kernel
theorem dX5_readWeigh_63 : decode cX5_readWeigh 63 = .ok (.invokevirtual 120, 3) := by decide +kernel
theorem dX5_readWeigh_66 : decode cX5_readWeigh 66 = .ok (.aload_n 0, 1) := by decide +kernel
theorem dX5_readWeigh_67 : decode cX5_readWeigh 67 = .ok (.iconst 1, 1) := by decide +kernel
theorem dX5_readWeigh_68 : decode cX5_readWeigh 68 = .ok (.iconst 3, 1) := by decide +kernel
theorem dX5_readWeigh_69 : decode cX5_readWeigh 69 = .ok (.invokevirtual 131, 3) := by decide +kernel
theorem dX5_readWeigh_72 : decode cX5_readWeigh 72 = .ok (.ifCond .ne 5, 3) := by decide +kernel
theorem dX5_readWeigh_75 : decode cX5_readWeigh 75 = .ok (.iconst 0, 1) := by decide +kernel
