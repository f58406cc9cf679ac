theorem dX0_init_0 : decode cX0_init 0 = .ok (.aload_n 0, 1) := by decide +kernel
theorem dX0_init_1 : decode cX0_init 1 = .ok (.invokespecial 3, 3) := by decide +kernel
theorem dX0_init_4 : decode cX0_init 4 = .ok (.aload_n 0, 1) := by decide +kernel
theorem dX0_init_5 : decode cX0_init 5 = .ok (.bipush 8, 2) := by decide +kernel
theorem dX0_init_7 : decode cX0_init 7 = .ok (.newarray .int, 2) := by decide +kernel
theorem dX0_init_9 : decode cX0_init 9 = .ok (.putfield 9, 3) := by decide +kernel
theorem dX0_init_12 : decode cX0_init 12 = .ok (.aload_n 0, 1) := by decide +kernel
theorem dX0_init_13 : decode cX0_init 13 = .ok (.bipush 48, 2) := by decide +kernel
theorem dX0_init_15 : decode cX0_init 15 = .ok (.newarray .int, 2) := by decide +kernel
theorem dX0_init_17 : decode cX0_init 17 = .ok (.putfield 15, 3) := by decide +kernel
theorem dX0_init_20 : decode cX0_init 20 = .ok (.aload_n 0, 1) := by decide +kernel
theorem dX0_init_21 : decode cX0_init 21 = .ok (.iconst 2, 1) := by decide +kernel
theorem dX0_init_22 : decode cX0_init 22 = .ok (.invokevirtual 18, 3) := by decide +kernel
theorem dX0_init_25 : decode cX0_init 25 = .ok (.return_, 1) := by decide +kernel
theorem dX0_reset_0 : decode cX0_reset 0 = .ok (.aload_n 0, 1) := by decide +kernel
theorem dX0_reset_1 : decode cX0_reset 1 = .ok (.iload_n 1, 1) := by decide +kernel
theorem dX0_reset_2 : decode cX0_reset 2 = .ok (.putfield 22, 3) := by decide +kernel
theorem dX0_reset_5 : decode cX0_reset 5 = .ok (.aload_n 0, 1) := by decide +kernel
theorem dX0_reset_6 : decode cX0_reset 6 = .ok (.iconst 0, 1) := by decide +kernel
theorem dX0_reset_7 : decode cX0_reset 7 = .ok (.putfield 26, 3) := by decide +kernel
theorem dX0_reset_10 : decode cX0_reset 10 = .ok (.aload_n 0, 1) := by decide +kernel
theorem dX0_reset_11 : decode cX0_reset 11 = .ok (.iconst 0, 1) := by decide +kernel
theorem dX0_reset_12 : decode cX0_reset 12 = .ok (.putfield 29, 3) := by decide +kernel
theorem dX0_reset_15 : decode cX0_reset 15 = .ok (.iconst 0, 1) := by decide +kernel
theorem dX0_reset_16 : decode cX0_reset 16 = .ok (.istore_n 2, 1) := by decide +kernel
theorem dX0_reset_17 : decode cX0_reset 17 = .ok (.iload_n 2, 1) := by decide +kernel
theorem dX0_reset_18 : decode cX0_reset 18 = .ok (.aload_n 0, 1) := by decide +kernel
theorem dX0_reset_19 : decode cX0_reset 19 = .ok (.getfield 9, 3) := by decide +kernel
theorem dX0_reset_22 : decode cX0_reset 22 = .ok (.arraylength, 1) := by decide +kernel
theorem dX0_reset_23 : decode cX0_reset 23 = .ok (.if_icmp .ge 16, 3) := by decide +kernel
theorem dX0_reset_26 : decode cX0_reset 26 = .ok (.aload_n 0, 1) := by decide +kernel
theorem dX0_reset_27 : decode cX0_reset 27 = .ok (.getfield 9, 3) := by decide +kernel
theorem dX0_reset_30 : decode cX0_reset 30 = .ok (.iload_n 2, 1) := by decide +kernel
theorem dX0_reset_31 : decode cX0_reset 31 = .ok (.iconst 0, 1) := by decide +kernel
theorem dX0_reset_32 : decode cX0_reset 32 = .ok (.iastore, 1) := by decide +kernel
theorem dX0_reset_33 : decode cX0_reset 33 = .ok (.iinc 2 1, 3) := by decide +kernel
theorem dX0_reset_36 : decode cX0_reset 36 = .ok (.goto (-19), 3) := by decide +kernel
theorem dX0_reset_39 : decode cX0_reset 39 = .ok (.iconst 0, 1) := by decide +kernel
theorem dX0_reset_40 : decode cX0_reset 40 = .ok (.istore_n 2, 1) := by decide +kernel
theorem dX0_reset_41 : decode cX0_reset 41 = .ok (.iload_n 2, 1) := by decide +kernel
theorem dX0_reset_42 : decode cX0_reset 42 = .ok (.aload_n 0, 1) := by decide +kernel
theorem dX0_reset_43 : decode cX0_reset 43 = .ok (.getfield 15, 3) := by decide +kernel
theorem dX0_reset_46 : decode cX0_reset 46 = .ok (.arraylength, 1) := by decide +kernel
theorem dX0_reset_47 : decode cX0_reset 47 = .ok (.if_icmp .ge 16, 3) := by decide +kernel
theorem dX0_reset_50 : decode cX0_reset 50 = .ok (.aload_n 0, 1) := by decide +kernel
theorem dX0_reset_51 : decode cX0_reset 51 = .ok (.getfield 15, 3) := by decide +kernel
theorem dX0_reset_54 : decode cX0_reset 54 = .ok (.iload_n 2, 1) := by decide +kernel
theorem dX0_reset_55 : decode cX0_reset 55 = .ok (.iconst (-1), 1) := by decide +kernel
theorem dX0_reset_56 : decode cX0_reset 56 = .ok (.iastore, 1) := by decide +kernel
theorem dX0_reset_57 : decode cX0_reset 57 = .ok (.iinc 2 1, 3) := by decide +kernel
theorem dX0_reset_60 : decode cX0_reset 60 = .ok (.goto (-19), 3) := by decide +kernel
theorem dX0_reset_63 : decode cX0_reset 63 = .ok (.return_, 1) := by decide +kernel
theorem dX0_copyFrom_0 : decode cX0_copyFrom 0 = .ok (.aload_n 0, 1) := by decide +kernel
theorem dX0_copyFrom_1 : decode cX0_copyFrom 1 = .ok (.aload_n 1, 1) := by decide +kernel
theorem dX0_copyFrom_2 : decode cX0_copyFrom 2 = .ok (.getfield 22, 3) := by decide +kernel
theorem dX0_copyFrom_5 : decode cX0_copyFrom 5 = .ok (.putfield 22, 3) := by decide +kernel
theorem dX0_copyFrom_8 : decode cX0_copyFrom 8 = .ok (.aload_n 0, 1) := by decide +kernel
theorem dX0_copyFrom_9 : decode cX0_copyFrom 9 = .ok (.aload_n 1, 1) := by decide +kernel
theorem dX0_copyFrom_10 : decode cX0_copyFrom 10 = .ok (.getfield 26, 3) := by decide +kernel
theorem dX0_copyFrom_13 : decode cX0_copyFrom 13 = .ok (.putfield 26, 3) := by decide +kernel
theorem dX0_copyFrom_16 : decode cX0_copyFrom 16 = .ok (.aload_n 0, 1) := by decide +kernel
theorem dX0_copyFrom_17 : decode cX0_copyFrom 17 = .ok (.aload_n 1, 1) := by decide +kernel
theorem dX0_copyFrom_18 : decode cX0_copyFrom 18 = .ok (.getfield 29, 3) := by decide +kernel
theorem dX0_copyFrom_21 : decode cX0_copyFrom 21 = .ok (.putfield 29, 3) := by decide +kernel
theorem dX0_copyFrom_24 : decode cX0_copyFrom 24 = .ok (.aload_n 1, 1) := by decide +kernel
theorem dX0_copyFrom_25 : decode cX0_copyFrom 25 = .ok (.getfield 9, 3) := by decide +kernel
theorem dX0_copyFrom_28 : decode cX0_copyFrom 28 = .ok (.iconst 0, 1) := by decide +kernel
theorem dX0_copyFrom_29 : decode cX0_copyFrom 29 = .ok (.aload_n 0, 1) := by decide +kernel
theorem dX0_copyFrom_30 : decode cX0_copyFrom 30 = .ok (.getfield 9, 3) := by decide +kernel
theorem dX0_copyFrom_33 : decode cX0_copyFrom 33 = .ok (.iconst 0, 1) := by decide +kernel
theorem dX0_copyFrom_34 : decode cX0_copyFrom 34 = .ok (.bipush 8, 2) := by decide +kernel
theorem dX0_copyFrom_36 : decode cX0_copyFrom 36 = .ok (.invokestatic 32, 3) := by decide +kernel
theorem dX0_copyFrom_39 : decode cX0_copyFrom 39 = .ok (.aload_n 1, 1) := by decide +kernel
theorem dX0_copyFrom_40 : decode cX0_copyFrom 40 = .ok (.getfield 15, 3) := by decide +kernel
theorem dX0_copyFrom_43 : decode cX0_copyFrom 43 = .ok (.iconst 0, 1) := by decide +kernel
theorem dX0_copyFrom_44 : decode cX0_copyFrom 44 = .ok (.aload_n 0, 1) := by decide +kernel
theorem dX0_copyFrom_45 : decode cX0_copyFrom 45 = .ok (.getfield 15, 3) := by decide +kernel
theorem dX0_copyFrom_48 : decode cX0_copyFrom 48 = .ok (.iconst 0, 1) := by decide +kernel
theorem dX0_copyFrom_49 : decode cX0_copyFrom 49 = .ok (.bipush 48, 2) := by decide +kernel
theorem dX0_copyFrom_51 : decode cX0_copyFrom 51 = .ok (.invokestatic 32, 3) := by decide +kernel
theorem dX0_copyFrom_54 : decode cX0_copyFrom 54 = .ok (.return_, 1) := by decide +kernel
theorem dX0_hasHome_0 : decode cX0_hasHome 0 = .ok (.iload_n 1, 1) := by decide +kernel
theorem dX0_hasHome_1 : decode cX0_hasHome 1 = .ok (.ifCond .lt 15, 3) := by decide +kernel
theorem dX0_hasHome_4 : decode cX0_hasHome 4 = .ok (.iload_n 1, 1) := by decide +kernel
theorem dX0_hasHome_5 : decode cX0_hasHome 5 = .ok (.aload_n 0, 1) := by decide +kernel
theorem dX0_hasHome_6 : decode cX0_hasHome 6 = .ok (.getfield 26, 3) := by decide +kernel
theorem dX0_hasHome_9 : decode cX0_hasHome 9 = .ok (.if_icmp .ge 7, 3) := by decide +kernel
theorem dX0_hasHome_12 : decode cX0_hasHome 12 = .ok (.iconst 1, 1) := by decide +kernel
theorem dX0_hasHome_13 : decode cX0_hasHome 13 = .ok (.goto 4, 3) := by decide +kernel
theorem dX0_hasHome_16 : decode cX0_hasHome 16 = .ok (.iconst 0, 1) := by decide +kernel
theorem dX0_hasHome_17 : decode cX0_hasHome 17 = .ok (.ireturn, 1) := by decide +kernel
theorem dX0_hasMonth_0 : decode cX0_hasMonth 0 = .ok (.iload_n 1, 1) := by decide +kernel
theorem dX0_hasMonth_1 : decode cX0_hasMonth 1 = .ok (.ifCond .lt 15, 3) := by decide +kernel
theorem dX0_hasMonth_4 : decode cX0_hasMonth 4 = .ok (.iload_n 1, 1) := by decide +kernel
theorem dX0_hasMonth_5 : decode cX0_hasMonth 5 = .ok (.aload_n 0, 1) := by decide +kernel
theorem dX0_hasMonth_6 : decode cX0_hasMonth 6 = .ok (.getfield 22, 3) := by decide +kernel
theorem dX0_hasMonth_9 : decode cX0_hasMonth 9 = .ok (.if_icmp .ge 7, 3) := by decide +kernel
theorem dX0_hasMonth_12 : decode cX0_hasMonth 12 = .ok (.iconst 1, 1) := by decide +kernel
theorem dX0_hasMonth_13 : decode cX0_hasMonth 13 = .ok (.goto 4, 3) := by decide +kernel
theorem dX0_hasMonth_16 : decode cX0_hasMonth 16 = .ok (.iconst 0, 1) := by decide +kernel
theorem dX0_hasMonth_17 : decode cX0_hasMonth 17 = .ok (.ireturn, 1) := by decide +kernel
theorem dX0_hasGap_0 : decode cX0_hasGap 0 = .ok (.iload_n 1, 1) := by decide +kernel
theorem dX0_hasGap_1 : decode cX0_hasGap 1 = .ok (.iconst 1, 1) := by decide +kernel
theorem dX0_hasGap_2 : decode cX0_hasGap 2 = .ok (.if_icmp .lt 15, 3) := by decide +kernel
theorem dX0_hasGap_5 : decode cX0_hasGap 5 = .ok (.iload_n 1, 1) := by decide +kernel
theorem dX0_hasGap_6 : decode cX0_hasGap 6 = .ok (.aload_n 0, 1) := by decide +kernel
theorem dX0_hasGap_7 : decode cX0_hasGap 7 = .ok (.getfield 22, 3) := by decide +kernel
theorem dX0_hasGap_10 : decode cX0_hasGap 10 = .ok (.if_icmp .ge 7, 3) := by decide +kernel
theorem dX0_hasGap_13 : decode cX0_hasGap 13 = .ok (.iconst 1, 1) := by decide +kernel
theorem dX0_hasGap_14 : decode cX0_hasGap 14 = .ok (.goto 4, 3) := by decide +kernel
theorem dX0_hasGap_17 : decode cX0_hasGap 17 = .ok (.iconst 0, 1) := by decide +kernel
theorem dX0_hasGap_18 : decode cX0_hasGap 18 = .ok (.ireturn, 1) := by decide +kernel
set_option maxRecDepth 20000 in
theorem ggX0_levelAt_X0_hasHome : GoodIn wsX0_levelAt wsX0_hasHome := goodIn_r _ [6, 7, 13, 14, 15, 16, 17] (by decide +kernel) (by decide +kernel)
set_option maxRecDepth 20000 in
theorem gX0_levelAt_X0_hasHome : GoodIn wsX0_levelAt (wsV RX0 38 RX0 yX0_hasHome wsX0_hasHome) := goodIn_app (goodIn_of _ (by decide +kernel)) ggX0_levelAt_X0_hasHome
set_option maxRecDepth 20000 in
theorem ggX0_levelAt_X0_hasMonth : GoodIn wsX0_levelAt wsX0_hasMonth := goodIn_r _ [11, 12, 13, 14, 15, 16, 17] (by decide +kernel) (by decide +kernel)
set_option maxRecDepth 20000 in
theorem gX0_levelAt_X0_hasMonth : GoodIn wsX0_levelAt (wsV RX0 42 RX0 yX0_hasMonth wsX0_hasMonth) := goodIn_app (goodIn_of _ (by decide +kernel)) ggX0_levelAt_X0_hasMonth
theorem dX0_levelAt_0 : decode cX0_levelAt 0 = .ok (.aload_n 0, 1) := by decide +kernel
theorem dX0_levelAt_1 : decode cX0_levelAt 1 = .ok (.iload_n 1, 1) := by decide +kernel
theorem dX0_levelAt_2 : decode cX0_levelAt 2 = .ok (.invokevirtual 38, 3) := by decide +kernel
theorem dX0_levelAt_5 : decode cX0_levelAt 5 = .ok (.ifCond .eq 11, 3) := by decide +kernel
theorem dX0_levelAt_8 : decode cX0_levelAt 8 = .ok (.aload_n 0, 1) := by decide +kernel
theorem dX0_levelAt_9 : decode cX0_levelAt 9 = .ok (.iload_n 2, 1) := by decide +kernel
theorem dX0_levelAt_10 : decode cX0_levelAt 10 = .ok (.invokevirtual 42, 3) := by decide +kernel
theorem dX0_levelAt_13 : decode cX0_levelAt 13 = .ok (.ifCond .ne 5, 3) := by decide +kernel
theorem dX0_levelAt_16 : decode cX0_levelAt 16 = .ok (.iconst (-1), 1) := by decide +kernel
theorem dX0_levelAt_17 : decode cX0_levelAt 17 = .ok (.ireturn, 1) := by decide +kernel
theorem dX0_levelAt_18 : decode cX0_levelAt 18 = .ok (.aload_n 0, 1) := by decide +kernel
theorem dX0_levelAt_19 : decode cX0_levelAt 19 = .ok (.getfield 15, 3) := by decide +kernel
theorem dX0_levelAt_22 : decode cX0_levelAt 22 = .ok (.iload_n 1, 1) := by decide +kernel
theorem dX0_levelAt_23 : decode cX0_levelAt 23 = .ok (.bipush 8, 2) := by decide +kernel
theorem dX0_levelAt_25 : decode cX0_levelAt 25 = .ok (.imul, 1) := by decide +kernel
theorem dX0_levelAt_26 : decode cX0_levelAt 26 = .ok (.iload_n 2, 1) := by decide +kernel
theorem dX0_levelAt_27 : decode cX0_levelAt 27 = .ok (.iadd, 1) := by decide +kernel
theorem dX0_levelAt_28 : decode cX0_levelAt 28 = .ok (.iaload, 1) := by decide +kernel
theorem dX0_levelAt_29 : decode cX0_levelAt 29 = .ok (.ireturn, 1) := by decide +kernel
set_option maxRecDepth 20000 in
theorem ggX0_canTake_X0_hasHome : GoodIn wsX0_canTake wsX0_hasHome := goodIn_r _ [6, 7, 13, 14, 15, 16, 17] (by decide +kernel) (by decide +kernel)
set_option maxRecDepth 20000 in
theorem gX0_canTake_X0_hasHome : GoodIn wsX0_canTake (wsV RX0 38 RX0 yX0_hasHome wsX0_hasHome) := goodIn_app (goodIn_of _ (by decide +kernel)) ggX0_canTake_X0_hasHome
set_option maxRecDepth 20000 in
theorem ggX0_canTake_X0_hasMonth : GoodIn wsX0_canTake wsX0_hasMonth := goodIn_r _ [11, 12, 13, 14, 15, 16, 17] (by decide +kernel) (by decide +kernel)
set_option maxRecDepth 20000 in
theorem gX0_canTake_X0_hasMonth : GoodIn wsX0_canTake (wsV RX0 42 RX0 yX0_hasMonth wsX0_hasMonth) := goodIn_app (goodIn_of _ (by decide +kernel)) ggX0_canTake_X0_hasMonth
theorem dX0_canTake_0 : decode cX0_canTake 0 = .ok (.aload_n 0, 1) := by decide +kernel
theorem dX0_canTake_1 : decode cX0_canTake 1 = .ok (.iload_n 1, 1) := by decide +kernel
theorem dX0_canTake_2 : decode cX0_canTake 2 = .ok (.invokevirtual 38, 3) := by decide +kernel
theorem dX0_canTake_5 : decode cX0_canTake 5 = .ok (.ifCond .eq 41, 3) := by decide +kernel
theorem dX0_canTake_8 : decode cX0_canTake 8 = .ok (.aload_n 0, 1) := by decide +kernel
theorem dX0_canTake_9 : decode cX0_canTake 9 = .ok (.iload_n 2, 1) := by decide +kernel
theorem dX0_canTake_10 : decode cX0_canTake 10 = .ok (.invokevirtual 42, 3) := by decide +kernel
theorem dX0_canTake_13 : decode cX0_canTake 13 = .ok (.ifCond .eq 33, 3) := by decide +kernel
theorem dX0_canTake_16 : decode cX0_canTake 16 = .ok (.aload_n 0, 1) := by decide +kernel
theorem dX0_canTake_17 : decode cX0_canTake 17 = .ok (.getfield 15, 3) := by decide +kernel
theorem dX0_canTake_20 : decode cX0_canTake 20 = .ok (.iload_n 1, 1) := by decide +kernel
theorem dX0_canTake_21 : decode cX0_canTake 21 = .ok (.bipush 8, 2) := by decide +kernel
theorem dX0_canTake_23 : decode cX0_canTake 23 = .ok (.imul, 1) := by decide +kernel
theorem dX0_canTake_24 : decode cX0_canTake 24 = .ok (.iload_n 2, 1) := by decide +kernel
theorem dX0_canTake_25 : decode cX0_canTake 25 = .ok (.iadd, 1) := by decide +kernel
theorem dX0_canTake_26 : decode cX0_canTake 26 = .ok (.iaload, 1) := by decide +kernel
theorem dX0_canTake_27 : decode cX0_canTake 27 = .ok (.iconst (-1), 1) := by decide +kernel
theorem dX0_canTake_28 : decode cX0_canTake 28 = .ok (.if_icmp .ne 18, 3) := by decide +kernel
theorem dX0_canTake_31 : decode cX0_canTake 31 = .ok (.iload_n 3, 1) := by decide +kernel
theorem dX0_canTake_32 : decode cX0_canTake 32 = .ok (.ifCond .lt 14, 3) := by decide +kernel
theorem dX0_canTake_35 : decode cX0_canTake 35 = .ok (.iload_n 3, 1) := by decide +kernel
theorem dX0_canTake_36 : decode cX0_canTake 36 = .ok (.sipush 999, 3) := by decide +kernel
theorem dX0_canTake_39 : decode cX0_canTake 39 = .ok (.if_icmp .gt 7, 3) := by decide +kernel
theorem dX0_canTake_42 : decode cX0_canTake 42 = .ok (.iconst 1, 1) := by decide +kernel
theorem dX0_canTake_43 : decode cX0_canTake 43 = .ok (.goto 4, 3) := by decide +kernel
theorem dX0_canTake_46 : decode cX0_canTake 46 = .ok (.iconst 0, 1) := by decide +kernel
theorem dX0_canTake_47 : decode cX0_canTake 47 = .ok (.ireturn, 1) := by decide +kernel
theorem dX0_addHome_0 : decode cX0_addHome 0 = .ok (.aload_n 0, 1) := by decide +kernel
theorem dX0_addHome_1 : decode cX0_addHome 1 = .ok (.dup, 1) := by decide +kernel
theorem dX0_addHome_2 : decode cX0_addHome 2 = .ok (.getfield 26, 3) := by decide +kernel
theorem dX0_addHome_5 : decode cX0_addHome 5 = .ok (.iconst 1, 1) := by decide +kernel
theorem dX0_addHome_6 : decode cX0_addHome 6 = .ok (.iadd, 1) := by decide +kernel
theorem dX0_addHome_7 : decode cX0_addHome 7 = .ok (.putfield 26, 3) := by decide +kernel
theorem dX0_addHome_10 : decode cX0_addHome 10 = .ok (.aload_n 0, 1) := by decide +kernel
theorem dX0_addHome_11 : decode cX0_addHome 11 = .ok (.getfield 26, 3) := by decide +kernel
theorem dX0_addHome_14 : decode cX0_addHome 14 = .ok (.iconst 1, 1) := by decide +kernel
theorem dX0_addHome_15 : decode cX0_addHome 15 = .ok (.isub, 1) := by decide +kernel
theorem dX0_addHome_16 : decode cX0_addHome 16 = .ok (.ireturn, 1) := by decide +kernel
set_option maxRecDepth 20000 in
theorem ggX0_putSale_X0_canTake : GoodIn wsX0_putSale wsX0_canTake := goodIn_r _ [7, 1, 8, 9, 10, 6, 11, 12, 13, 14, 15, 16, 17, 18, 19, 20, 21, 22] (by decide +kernel) (by decide +kernel)
set_option maxRecDepth 20000 in
theorem gX0_putSale_X0_canTake : GoodIn wsX0_putSale (wsV RX0 45 RX0 yX0_canTake wsX0_canTake) := goodIn_app (goodIn_of _ (by decide +kernel)) ggX0_putSale_X0_canTake
theorem dX0_putSale_0 : decode cX0_putSale 0 = .ok (.aload_n 0, 1) := by decide +kernel
theorem dX0_putSale_1 : decode cX0_putSale 1 = .ok (.iload_n 1, 1) := by decide +kernel
theorem dX0_putSale_2 : decode cX0_putSale 2 = .ok (.iload_n 2, 1) := by decide +kernel
theorem dX0_putSale_3 : decode cX0_putSale 3 = .ok (.iload_n 3, 1) := by decide +kernel
theorem dX0_putSale_4 : decode cX0_putSale 4 = .ok (.invokevirtual 45, 3) := by decide +kernel
theorem dX0_putSale_7 : decode cX0_putSale 7 = .ok (.ifCond .eq 25, 3) := by decide +kernel
theorem dX0_putSale_10 : decode cX0_putSale 10 = .ok (.aload_n 0, 1) := by decide +kernel
theorem dX0_putSale_11 : decode cX0_putSale 11 = .ok (.getfield 15, 3) := by decide +kernel
theorem dX0_putSale_14 : decode cX0_putSale 14 = .ok (.iload_n 1, 1) := by decide +kernel
theorem dX0_putSale_15 : decode cX0_putSale 15 = .ok (.bipush 8, 2) := by decide +kernel
theorem dX0_putSale_17 : decode cX0_putSale 17 = .ok (.imul, 1) := by decide +kernel
theorem dX0_putSale_18 : decode cX0_putSale 18 = .ok (.iload_n 2, 1) := by decide +kernel
theorem dX0_putSale_19 : decode cX0_putSale 19 = .ok (.iadd, 1) := by decide +kernel
theorem dX0_putSale_20 : decode cX0_putSale 20 = .ok (.iload_n 3, 1) := by decide +kernel
theorem dX0_putSale_21 : decode cX0_putSale 21 = .ok (.iastore, 1) := by decide +kernel
theorem dX0_putSale_22 : decode cX0_putSale 22 = .ok (.aload_n 0, 1) := by decide +kernel
theorem dX0_putSale_23 : decode cX0_putSale 23 = .ok (.dup, 1) := by decide +kernel
theorem dX0_putSale_24 : decode cX0_putSale 24 = .ok (.getfield 29, 3) := by decide +kernel
theorem dX0_putSale_27 : decode cX0_putSale 27 = .ok (.iconst 1, 1) := by decide +kernel
theorem dX0_putSale_28 : decode cX0_putSale 28 = .ok (.iadd, 1) := by decide +kernel
theorem dX0_putSale_29 : decode cX0_putSale 29 = .ok (.putfield 29, 3) := by decide +kernel
theorem dX0_putSale_32 : decode cX0_putSale 32 = .ok (.return_, 1) := by decide +kernel
set_option maxRecDepth 20000 in
theorem ggX0_takeSale_X0_levelAt : GoodIn wsX0_takeSale wsX0_levelAt := goodIn_r _ [7, 1, 8, 9, 10, 6, 11, 12, 13, 14, 15, 16, 17, 18, 19, 20, 21, 22] (by decide +kernel) (by decide +kernel)
set_option maxRecDepth 20000 in
theorem gX0_takeSale_X0_levelAt : GoodIn wsX0_takeSale (wsV RX0 49 RX0 yX0_levelAt wsX0_levelAt) := goodIn_app (goodIn_of _ (by decide +kernel)) ggX0_takeSale_X0_levelAt
theorem dX0_takeSale_0 : decode cX0_takeSale 0 = .ok (.aload_n 0, 1) := by decide +kernel
theorem dX0_takeSale_1 : decode cX0_takeSale 1 = .ok (.iload_n 1, 1) := by decide +kernel
theorem dX0_takeSale_2 : decode cX0_takeSale 2 = .ok (.iload_n 2, 1) := by decide +kernel
theorem dX0_takeSale_3 : decode cX0_takeSale 3 = .ok (.invokevirtual 49, 3) := by decide +kernel
theorem dX0_takeSale_6 : decode cX0_takeSale 6 = .ok (.iconst (-1), 1) := by decide +kernel
theorem dX0_takeSale_7 : decode cX0_takeSale 7 = .ok (.if_icmp .eq 25, 3) := by decide +kernel
theorem dX0_takeSale_10 : decode cX0_takeSale 10 = .ok (.aload_n 0, 1) := by decide +kernel
theorem dX0_takeSale_11 : decode cX0_takeSale 11 = .ok (.getfield 15, 3) := by decide +kernel
theorem dX0_takeSale_14 : decode cX0_takeSale 14 = .ok (.iload_n 1, 1) := by decide +kernel
theorem dX0_takeSale_15 : decode cX0_takeSale 15 = .ok (.bipush 8, 2) := by decide +kernel
theorem dX0_takeSale_17 : decode cX0_takeSale 17 = .ok (.imul, 1) := by decide +kernel
theorem dX0_takeSale_18 : decode cX0_takeSale 18 = .ok (.iload_n 2, 1) := by decide +kernel
theorem dX0_takeSale_19 : decode cX0_takeSale 19 = .ok (.iadd, 1) := by decide +kernel
theorem dX0_takeSale_20 : decode cX0_takeSale 20 = .ok (.iconst (-1), 1) := by decide +kernel
theorem dX0_takeSale_21 : decode cX0_takeSale 21 = .ok (.iastore, 1) := by decide +kernel
theorem dX0_takeSale_22 : decode cX0_takeSale 22 = .ok (.aload_n 0, 1) := by decide +kernel
theorem dX0_takeSale_23 : decode cX0_takeSale 23 = .ok (.dup, 1) := by decide +kernel
theorem dX0_takeSale_24 : decode cX0_takeSale 24 = .ok (.getfield 29, 3) := by decide +kernel
theorem dX0_takeSale_27 : decode cX0_takeSale 27 = .ok (.iconst 1, 1) := by decide +kernel
theorem dX0_takeSale_28 : decode cX0_takeSale 28 = .ok (.isub, 1) := by decide +kernel
theorem dX0_takeSale_29 : decode cX0_takeSale 29 = .ok (.putfield 29, 3) := by decide +kernel
theorem dX0_takeSale_32 : decode cX0_takeSale 32 = .ok (.return_, 1) := by decide +kernel
set_option maxRecDepth 20000 in
theorem ggX0_clearHome_X0_takeSale : GoodIn wsX0_clearHome wsX0_takeSale := goodIn_r _ [6, 7, 8, 9, 10, 11, 5, 12, 13, 14, 15, 16, 17, 18, 19, 20, 21, 1, 22, 23, 24, 25, 26] (by decide +kernel) (by decide +kernel)
set_option maxRecDepth 20000 in
theorem gX0_clearHome_X0_takeSale : GoodIn wsX0_clearHome (wsV RX0 53 RX0 yX0_takeSale wsX0_takeSale) := goodIn_app (goodIn_of _ (by decide +kernel)) ggX0_clearHome_X0_takeSale
theorem dX0_clearHome_0 : decode cX0_clearHome 0 = .ok (.iconst 0, 1) := by decide +kernel
theorem dX0_clearHome_1 : decode cX0_clearHome 1 = .ok (.istore_n 2, 1) := by decide +kernel
theorem dX0_clearHome_2 : decode cX0_clearHome 2 = .ok (.iload_n 2, 1) := by decide +kernel
theorem dX0_clearHome_3 : decode cX0_clearHome 3 = .ok (.aload_n 0, 1) := by decide +kernel
theorem dX0_clearHome_4 : decode cX0_clearHome 4 = .ok (.getfield 22, 3) := by decide +kernel
theorem dX0_clearHome_7 : decode cX0_clearHome 7 = .ok (.if_icmp .ge 15, 3) := by decide +kernel
theorem dX0_clearHome_10 : decode cX0_clearHome 10 = .ok (.aload_n 0, 1) := by decide +kernel
theorem dX0_clearHome_11 : decode cX0_clearHome 11 = .ok (.iload_n 1, 1) := by decide +kernel
theorem dX0_clearHome_12 : decode cX0_clearHome 12 = .ok (.iload_n 2, 1) := by decide +kernel
theorem dX0_clearHome_13 : decode cX0_clearHome 13 = .ok (.invokevirtual 53, 3) := by decide +kernel
theorem dX0_clearHome_16 : decode cX0_clearHome 16 = .ok (.iinc 2 1, 3) := by decide +kernel
theorem dX0_clearHome_19 : decode cX0_clearHome 19 = .ok (.goto (-17), 3) := by decide +kernel
theorem dX0_clearHome_22 : decode cX0_clearHome 22 = .ok (.return_, 1) := by decide +kernel
set_option maxRecDepth 20000 in
theorem ggX0_canMove_X0_levelAt : GoodIn wsX0_canMove wsX0_levelAt := goodIn_r _ [6, 7, 8, 9, 10, 5, 11, 12, 13, 14, 15, 16, 1, 17, 18, 19, 20, 21] (by decide +kernel) (by decide +kernel)
set_option maxRecDepth 20000 in
theorem gX0_canMove_X0_levelAt : GoodIn wsX0_canMove (wsV RX0 49 RX0 yX0_levelAt wsX0_levelAt) := goodIn_app (goodIn_of _ (by decide +kernel)) ggX0_canMove_X0_levelAt
theorem dX0_canMove_0 : decode cX0_canMove 0 = .ok (.iconst 0, 1) := by decide +kernel
theorem dX0_canMove_1 : decode cX0_canMove 1 = .ok (.istore_n 3, 1) := by decide +kernel
theorem dX0_canMove_2 : decode cX0_canMove 2 = .ok (.iload_n 3, 1) := by decide +kernel
theorem dX0_canMove_3 : decode cX0_canMove 3 = .ok (.aload_n 0, 1) := by decide +kernel
theorem dX0_canMove_4 : decode cX0_canMove 4 = .ok (.getfield 22, 3) := by decide +kernel
theorem dX0_canMove_7 : decode cX0_canMove 7 = .ok (.if_icmp .ge 42, 3) := by decide +kernel
theorem dX0_canMove_10 : decode cX0_canMove 10 = .ok (.aload_n 0, 1) := by decide +kernel
theorem dX0_canMove_11 : decode cX0_canMove 11 = .ok (.iload_n 1, 1) := by decide +kernel
theorem dX0_canMove_12 : decode cX0_canMove 12 = .ok (.iload_n 3, 1) := by decide +kernel
theorem dX0_canMove_13 : decode cX0_canMove 13 = .ok (.invokevirtual 49, 3) := by decide +kernel
theorem dX0_canMove_16 : decode cX0_canMove 16 = .ok (.istore 4, 2) := by decide +kernel
theorem dX0_canMove_18 : decode cX0_canMove 18 = .ok (.iload 4, 2) := by decide +kernel
theorem dX0_canMove_20 : decode cX0_canMove 20 = .ok (.iconst (-1), 1) := by decide +kernel
theorem dX0_canMove_21 : decode cX0_canMove 21 = .ok (.if_icmp .eq 22, 3) := by decide +kernel
theorem dX0_canMove_24 : decode cX0_canMove 24 = .ok (.iload 4, 2) := by decide +kernel
theorem dX0_canMove_26 : decode cX0_canMove 26 = .ok (.iload_n 2, 1) := by decide +kernel
theorem dX0_canMove_27 : decode cX0_canMove 27 = .ok (.iadd, 1) := by decide +kernel
theorem dX0_canMove_28 : decode cX0_canMove 28 = .ok (.ifCond .lt 13, 3) := by decide +kernel
theorem dX0_canMove_31 : decode cX0_canMove 31 = .ok (.iload 4, 2) := by decide +kernel
theorem dX0_canMove_33 : decode cX0_canMove 33 = .ok (.iload_n 2, 1) := by decide +kernel
theorem dX0_canMove_34 : decode cX0_canMove 34 = .ok (.iadd, 1) := by decide +kernel
theorem dX0_canMove_35 : decode cX0_canMove 35 = .ok (.sipush 999, 3) := by decide +kernel
theorem dX0_canMove_38 : decode cX0_canMove 38 = .ok (.if_icmp .le 5, 3) := by decide +kernel
theorem dX0_canMove_41 : decode cX0_canMove 41 = .ok (.iconst 0, 1) := by decide +kernel
theorem dX0_canMove_42 : decode cX0_canMove 42 = .ok (.ireturn, 1) := by decide +kernel
theorem dX0_canMove_43 : decode cX0_canMove 43 = .ok (.iinc 3 1, 3) := by decide +kernel
theorem dX0_canMove_46 : decode cX0_canMove 46 = .ok (.goto (-44), 3) := by decide +kernel
theorem dX0_canMove_49 : decode cX0_canMove 49 = .ok (.iconst 1, 1) := by decide +kernel
theorem dX0_canMove_50 : decode cX0_canMove 50 = .ok (.ireturn, 1) := by decide +kernel
set_option maxRecDepth 20000 in
theorem ggX0_moveLevels_X0_levelAt : GoodIn wsX0_moveLevels wsX0_levelAt := goodIn_r _ [7, 2, 8, 9, 10, 6, 11, 12, 13, 14, 15, 16, 1, 17, 18, 19, 20, 21] (by decide +kernel) (by decide +kernel)
set_option maxRecDepth 20000 in
theorem gX0_moveLevels_X0_levelAt : GoodIn wsX0_moveLevels (wsV RX0 49 RX0 yX0_levelAt wsX0_levelAt) := goodIn_app (goodIn_of _ (by decide +kernel)) ggX0_moveLevels_X0_levelAt
theorem dX0_moveLevels_0 : decode cX0_moveLevels 0 = .ok (.iconst 0, 1) := by decide +kernel
theorem dX0_moveLevels_1 : decode cX0_moveLevels 1 = .ok (.istore_n 3, 1) := by decide +kernel
theorem dX0_moveLevels_2 : decode cX0_moveLevels 2 = .ok (.iconst 0, 1) := by decide +kernel
theorem dX0_moveLevels_3 : decode cX0_moveLevels 3 = .ok (.istore 4, 2) := by decide +kernel
theorem dX0_moveLevels_5 : decode cX0_moveLevels 5 = .ok (.iload 4, 2) := by decide +kernel
theorem dX0_moveLevels_7 : decode cX0_moveLevels 7 = .ok (.aload_n 0, 1) := by decide +kernel
theorem dX0_moveLevels_8 : decode cX0_moveLevels 8 = .ok (.getfield 22, 3) := by decide +kernel
theorem dX0_moveLevels_11 : decode cX0_moveLevels 11 = .ok (.if_icmp .ge 39, 3) := by decide +kernel
theorem dX0_moveLevels_14 : decode cX0_moveLevels 14 = .ok (.aload_n 0, 1) := by decide +kernel
theorem dX0_moveLevels_15 : decode cX0_moveLevels 15 = .ok (.iload_n 1, 1) := by decide +kernel
theorem dX0_moveLevels_16 : decode cX0_moveLevels 16 = .ok (.iload 4, 2) := by decide +kernel
theorem dX0_moveLevels_18 : decode cX0_moveLevels 18 = .ok (.invokevirtual 49, 3) := by decide +kernel
theorem dX0_moveLevels_21 : decode cX0_moveLevels 21 = .ok (.iconst (-1), 1) := by decide +kernel
theorem dX0_moveLevels_22 : decode cX0_moveLevels 22 = .ok (.if_icmp .eq 22, 3) := by decide +kernel
theorem dX0_moveLevels_25 : decode cX0_moveLevels 25 = .ok (.aload_n 0, 1) := by decide +kernel
theorem dX0_moveLevels_26 : decode cX0_moveLevels 26 = .ok (.getfield 15, 3) := by decide +kernel
theorem dX0_moveLevels_29 : decode cX0_moveLevels 29 = .ok (.iload_n 1, 1) := by decide +kernel
theorem dX0_moveLevels_30 : decode cX0_moveLevels 30 = .ok (.bipush 8, 2) := by decide +kernel
theorem dX0_moveLevels_32 : decode cX0_moveLevels 32 = .ok (.imul, 1) := by decide +kernel
theorem dX0_moveLevels_33 : decode cX0_moveLevels 33 = .ok (.iload 4, 2) := by decide +kernel
theorem dX0_moveLevels_35 : decode cX0_moveLevels 35 = .ok (.iadd, 1) := by decide +kernel
theorem dX0_moveLevels_36 : decode cX0_moveLevels 36 = .ok (.dup2, 1) := by decide +kernel
theorem dX0_moveLevels_37 : decode cX0_moveLevels 37 = .ok (.iaload, 1) := by decide +kernel
theorem dX0_moveLevels_38 : decode cX0_moveLevels 38 = .ok (.iload_n 2, 1) := by decide +kernel
theorem dX0_moveLevels_39 : decode cX0_moveLevels 39 = .ok (.iadd, 1) := by decide +kernel
theorem dX0_moveLevels_40 : decode cX0_moveLevels 40 = .ok (.iastore, 1) := by decide +kernel
theorem dX0_moveLevels_41 : decode cX0_moveLevels 41 = .ok (.iinc 3 1, 3) := by decide +kernel
theorem dX0_moveLevels_44 : decode cX0_moveLevels 44 = .ok (.iinc 4 1, 3) := by decide +kernel
theorem dX0_moveLevels_47 : decode cX0_moveLevels 47 = .ok (.goto (-42), 3) := by decide +kernel
theorem dX0_moveLevels_50 : decode cX0_moveLevels 50 = .ok (.iload_n 3, 1) := by decide +kernel
theorem dX0_moveLevels_51 : decode cX0_moveLevels 51 = .ok (.ireturn, 1) := by decide +kernel
set_option maxRecDepth 20000 in
theorem ggX0_saleNearest_X0_levelAt : GoodIn wsX0_saleNearest wsX0_levelAt := goodIn_r _ [6, 7, 8, 9, 10, 5, 11, 12, 13, 14, 15, 16, 1, 17, 18, 19, 20, 21] (by decide +kernel) (by decide +kernel)
set_option maxRecDepth 20000 in
theorem gX0_saleNearest_X0_levelAt : GoodIn wsX0_saleNearest (wsV RX0 49 RX0 yX0_levelAt wsX0_levelAt) := goodIn_app (goodIn_of _ (by decide +kernel)) ggX0_saleNearest_X0_levelAt
theorem dX0_saleNearest_0 : decode cX0_saleNearest 0 = .ok (.iload_n 2, 1) := by decide +kernel
theorem dX0_saleNearest_1 : decode cX0_saleNearest 1 = .ok (.istore_n 3, 1) := by decide +kernel
theorem dX0_saleNearest_2 : decode cX0_saleNearest 2 = .ok (.iload_n 3, 1) := by decide +kernel
theorem dX0_saleNearest_3 : decode cX0_saleNearest 3 = .ok (.ifCond .lt 21, 3) := by decide +kernel
theorem dX0_saleNearest_6 : decode cX0_saleNearest 6 = .ok (.aload_n 0, 1) := by decide +kernel
theorem dX0_saleNearest_7 : decode cX0_saleNearest 7 = .ok (.iload_n 1, 1) := by decide +kernel
theorem dX0_saleNearest_8 : decode cX0_saleNearest 8 = .ok (.iload_n 3, 1) := by decide +kernel
theorem dX0_saleNearest_9 : decode cX0_saleNearest 9 = .ok (.invokevirtual 49, 3) := by decide +kernel
theorem dX0_saleNearest_12 : decode cX0_saleNearest 12 = .ok (.iconst (-1), 1) := by decide +kernel
theorem dX0_saleNearest_13 : decode cX0_saleNearest 13 = .ok (.if_icmp .eq 5, 3) := by decide +kernel
theorem dX0_saleNearest_16 : decode cX0_saleNearest 16 = .ok (.iload_n 3, 1) := by decide +kernel
theorem dX0_saleNearest_17 : decode cX0_saleNearest 17 = .ok (.ireturn, 1) := by decide +kernel
theorem dX0_saleNearest_18 : decode cX0_saleNearest 18 = .ok (.iinc 3 (-1), 3) := by decide +kernel
theorem dX0_saleNearest_21 : decode cX0_saleNearest 21 = .ok (.goto (-19), 3) := by decide +kernel
theorem dX0_saleNearest_24 : decode cX0_saleNearest 24 = .ok (.iload_n 2, 1) := by decide +kernel
theorem dX0_saleNearest_25 : decode cX0_saleNearest 25 = .ok (.iconst 1, 1) := by decide +kernel
theorem dX0_saleNearest_26 : decode cX0_saleNearest 26 = .ok (.iadd, 1) := by decide +kernel
theorem dX0_saleNearest_27 : decode cX0_saleNearest 27 = .ok (.istore_n 3, 1) := by decide +kernel
theorem dX0_saleNearest_28 : decode cX0_saleNearest 28 = .ok (.iload_n 3, 1) := by decide +kernel
theorem dX0_saleNearest_29 : decode cX0_saleNearest 29 = .ok (.aload_n 0, 1) := by decide +kernel
theorem dX0_saleNearest_30 : decode cX0_saleNearest 30 = .ok (.getfield 22, 3) := by decide +kernel
theorem dX0_saleNearest_33 : decode cX0_saleNearest 33 = .ok (.if_icmp .ge 21, 3) := by decide +kernel
theorem dX0_saleNearest_36 : decode cX0_saleNearest 36 = .ok (.aload_n 0, 1) := by decide +kernel
theorem dX0_saleNearest_37 : decode cX0_saleNearest 37 = .ok (.iload_n 1, 1) := by decide +kernel
theorem dX0_saleNearest_38 : decode cX0_saleNearest 38 = .ok (.iload_n 3, 1) := by decide +kernel
theorem dX0_saleNearest_39 : decode cX0_saleNearest 39 = .ok (.invokevirtual 49, 3) := by decide +kernel
theorem dX0_saleNearest_42 : decode cX0_saleNearest 42 = .ok (.iconst (-1), 1) := by decide +kernel
theorem dX0_saleNearest_43 : decode cX0_saleNearest 43 = .ok (.if_icmp .eq 5, 3) := by decide +kernel
theorem dX0_saleNearest_46 : decode cX0_saleNearest 46 = .ok (.iload_n 3, 1) := by decide +kernel
theorem dX0_saleNearest_47 : decode cX0_saleNearest 47 = .ok (.ireturn, 1) := by decide +kernel
theorem dX0_saleNearest_48 : decode cX0_saleNearest 48 = .ok (.iinc 3 1, 3) := by decide +kernel
theorem dX0_saleNearest_51 : decode cX0_saleNearest 51 = .ok (.goto (-23), 3) := by decide +kernel
theorem dX0_saleNearest_54 : decode cX0_saleNearest 54 = .ok (.iconst (-1), 1) := by decide +kernel
theorem dX0_saleNearest_55 : decode cX0_saleNearest 55 = .ok (.ireturn, 1) := by decide +kernel
set_option maxRecDepth 20000 in
theorem ggX0_weightOf_X0_hasGap : GoodIn wsX0_weightOf wsX0_hasGap := goodIn_r _ [6, 7, 8, 9, 10, 11, 12] (by decide +kernel) (by decide +kernel)
set_option maxRecDepth 20000 in
theorem gX0_weightOf_X0_hasGap : GoodIn wsX0_weightOf (wsV RX0 57 RX0 yX0_hasGap wsX0_hasGap) := goodIn_app (goodIn_of _ (by decide +kernel)) ggX0_weightOf_X0_hasGap
theorem dX0_weightOf_0 : decode cX0_weightOf 0 = .ok (.iload_n 1, 1) := by decide +kernel
theorem dX0_weightOf_1 : decode cX0_weightOf 1 = .ok (.istore_n 2, 1) := by decide +kernel
theorem dX0_weightOf_2 : decode cX0_weightOf 2 = .ok (.iload_n 2, 1) := by decide +kernel
theorem dX0_weightOf_3 : decode cX0_weightOf 3 = .ok (.iconst 1, 1) := by decide +kernel
theorem dX0_weightOf_4 : decode cX0_weightOf 4 = .ok (.if_icmp .lt 33, 3) := by decide +kernel
theorem dX0_weightOf_7 : decode cX0_weightOf 7 = .ok (.aload_n 0, 1) := by decide +kernel
theorem dX0_weightOf_8 : decode cX0_weightOf 8 = .ok (.iload_n 2, 1) := by decide +kernel
theorem dX0_weightOf_9 : decode cX0_weightOf 9 = .ok (.invokevirtual 57, 3) := by decide +kernel
theorem dX0_weightOf_12 : decode cX0_weightOf 12 = .ok (.ifCond .eq 19, 3) := by decide +kernel
theorem dX0_weightOf_15 : decode cX0_weightOf 15 = .ok (.aload_n 0, 1) := by decide +kernel
theorem dX0_weightOf_16 : decode cX0_weightOf 16 = .ok (.getfield 9, 3) := by decide +kernel
theorem dX0_weightOf_19 : decode cX0_weightOf 19 = .ok (.iload_n 2, 1) := by decide +kernel
theorem dX0_weightOf_20 : decode cX0_weightOf 20 = .ok (.iaload, 1) := by decide +kernel
theorem dX0_weightOf_21 : decode cX0_weightOf 21 = .ok (.ifCond .eq 10, 3) := by decide +kernel
theorem dX0_weightOf_24 : decode cX0_weightOf 24 = .ok (.aload_n 0, 1) := by decide +kernel
theorem dX0_weightOf_25 : decode cX0_weightOf 25 = .ok (.getfield 9, 3) := by decide +kernel
theorem dX0_weightOf_28 : decode cX0_weightOf 28 = .ok (.iload_n 2, 1) := by decide +kernel
theorem dX0_weightOf_29 : decode cX0_weightOf 29 = .ok (.iaload, 1) := by decide +kernel
theorem dX0_weightOf_30 : decode cX0_weightOf 30 = .ok (.ireturn, 1) := by decide +kernel
theorem dX0_weightOf_31 : decode cX0_weightOf 31 = .ok (.iinc 2 (-1), 3) := by decide +kernel
theorem dX0_weightOf_34 : decode cX0_weightOf 34 = .ok (.goto (-32), 3) := by decide +kernel
theorem dX0_weightOf_37 : decode cX0_weightOf 37 = .ok (.iconst 1, 1) := by decide +kernel
theorem dX0_weightOf_38 : decode cX0_weightOf 38 = .ok (.ireturn, 1) := by decide +kernel
theorem dX1_init_0 : decode cX1_init 0 = .ok (.aload_n 0, 1) := by decide +kernel
theorem dX1_init_1 : decode cX1_init 1 = .ok (.invokespecial 3, 3) := by decide +kernel
theorem dX1_init_4 : decode cX1_init 4 = .ok (.aload_n 0, 1) := by decide +kernel
theorem dX1_init_5 : decode cX1_init 5 = .ok (.bipush 42, 2) := by decide +kernel
theorem dX1_init_7 : decode cX1_init 7 = .ok (.iconst 5, 1) := by decide +kernel
theorem dX1_init_8 : decode cX1_init 8 = .ok (.multianewarray 11 2, 4) := by decide +kernel
theorem dX1_init_12 : decode cX1_init 12 = .ok (.putfield 13, 3) := by decide +kernel
theorem dX1_init_15 : decode cX1_init 15 = .ok (.aload_n 0, 1) := by decide +kernel
theorem dX1_init_16 : decode cX1_init 16 = .ok (.bipush 8, 2) := by decide +kernel
theorem dX1_init_18 : decode cX1_init 18 = .ok (.newarray .int, 2) := by decide +kernel
theorem dX1_init_20 : decode cX1_init 20 = .ok (.putfield 16, 3) := by decide +kernel
theorem dX1_init_23 : decode cX1_init 23 = .ok (.aload_n 0, 1) := by decide +kernel
theorem dX1_init_24 : decode cX1_init 24 = .ok (.bipush 8, 2) := by decide +kernel
theorem dX1_init_26 : decode cX1_init 26 = .ok (.newarray .long, 2) := by decide +kernel
theorem dX1_init_28 : decode cX1_init 28 = .ok (.putfield 20, 3) := by decide +kernel
theorem dX1_init_31 : decode cX1_init 31 = .ok (.aload_n 0, 1) := by decide +kernel
theorem dX1_init_32 : decode cX1_init 32 = .ok (.lconst 1, 1) := by decide +kernel
theorem dX1_init_33 : decode cX1_init 33 = .ok (.putfield 24, 3) := by decide +kernel
theorem dX1_init_36 : decode cX1_init 36 = .ok (.aload_n 0, 1) := by decide +kernel
theorem dX1_init_37 : decode cX1_init 37 = .ok (.bipush 8, 2) := by decide +kernel
theorem dX1_init_39 : decode cX1_init 39 = .ok (.newarray .long, 2) := by decide +kernel
theorem dX1_init_41 : decode cX1_init 41 = .ok (.putfield 28, 3) := by decide +kernel
theorem dX1_init_44 : decode cX1_init 44 = .ok (.aload_n 0, 1) := by decide +kernel
theorem dX1_init_45 : decode cX1_init 45 = .ok (.bipush 8, 2) := by decide +kernel
theorem dX1_init_47 : decode cX1_init 47 = .ok (.bipush 16, 2) := by decide +kernel
theorem dX1_init_49 : decode cX1_init 49 = .ok (.multianewarray 31 2, 4) := by decide +kernel
theorem dX1_init_53 : decode cX1_init 53 = .ok (.putfield 33, 3) := by decide +kernel
theorem dX1_init_56 : decode cX1_init 56 = .ok (.return_, 1) := by decide +kernel
set_option maxRecDepth 20000 in
theorem ggX1_solve_X1_listPairs : GoodIn wsX1_solve wsX1_listPairs := goodIn_r _ [7, 8, 9, 2, 10, 11, 12, 13, 14, 15, 16, 17, 18, 19, 20, 21, 22, 23, 24, 25, 26, 27, 28, 6, 29, 30, 31, 32, 33, 34, 35, 36, 37, 38, 39, 97, 98, 99, 100, 101, 102, 103, 104, 92, 93, 94, 95, 96] (by decide +kernel) (by decide +kernel)
set_option maxRecDepth 20000 in
theorem gX1_solve_X1_listPairs : GoodIn wsX1_solve (wsV RX1 43 RX1 yX1_listPairs wsX1_listPairs) := goodIn_app (goodIn_of _ (by decide +kernel)) ggX1_solve_X1_listPairs
set_option maxRecDepth 20000 in
theorem ggX1_solve_X1_joinParts : GoodIn wsX1_solve wsX1_joinParts := goodIn_r _ [43, 2, 44, 8, 30, 45, 46, 47, 48, 49, 50, 51, 52, 53, 54, 6, 55, 97, 98, 99, 100, 101, 102, 103, 104] (by decide +kernel) (by decide +kernel)
set_option maxRecDepth 20000 in
theorem gX1_solve_X1_joinParts : GoodIn wsX1_solve (wsV RX1 47 RX1 yX1_joinParts wsX1_joinParts) := goodIn_app (goodIn_of _ (by decide +kernel)) ggX1_solve_X1_joinParts
set_option maxRecDepth 20000 in
theorem ggX1_solve_X1_writeRows : GoodIn wsX1_solve wsX1_writeRows := goodIn_r _ [59, 2, 60, 61, 8, 30, 62, 63, 64, 6, 65, 44, 66, 67, 68, 69, 70, 71, 72, 73, 74, 75, 76, 77, 97, 98, 99, 100, 101, 102, 103, 104] (by decide +kernel) (by decide +kernel)
set_option maxRecDepth 20000 in
theorem gX1_solve_X1_writeRows : GoodIn wsX1_solve (wsV RX1 50 RX1 yX1_writeRows wsX1_writeRows) := goodIn_app (goodIn_of _ (by decide +kernel)) ggX1_solve_X1_writeRows
set_option maxRecDepth 20000 in
theorem ggX1_solve_X1_invertRows : GoodIn wsX1_solve wsX1_invertRows := goodIn_r _ [81, 2, 60, 82, 83, 84, 85, 6, 86, 97, 98, 99, 100, 101, 102, 103, 104] (by decide +kernel) (by decide +kernel)
set_option maxRecDepth 20000 in
theorem gX1_solve_X1_invertRows : GoodIn wsX1_solve (wsV RX1 53 RX1 yX1_invertRows wsX1_invertRows) := goodIn_app (goodIn_of _ (by decide +kernel)) ggX1_solve_X1_invertRows
set_option maxRecDepth 20000 in
theorem ggX1_solve_X1_writeTops : GoodIn wsX1_solve wsX1_writeTops := goodIn_r _ [90, 2, 60, 61, 91, 97, 98, 99, 100, 101, 102, 103, 104] (by decide +kernel) (by decide +kernel)
set_option maxRecDepth 20000 in
theorem gX1_solve_X1_writeTops : GoodIn wsX1_solve (wsV RX1 56 RX1 yX1_writeTops wsX1_writeTops) := goodIn_app (goodIn_of _ (by decide +kernel)) ggX1_solve_X1_writeTops
theorem dX1_solve_0 : decode cX1_solve 0 = .ok (.aload_n 0, 1) := by decide +kernel
theorem dX1_solve_1 : decode cX1_solve 1 = .ok (.aload_n 1, 1) := by decide +kernel
theorem dX1_solve_2 : decode cX1_solve 2 = .ok (.getfield 36, 3) := by decide +kernel
theorem dX1_solve_5 : decode cX1_solve 5 = .ok (.putfield 42, 3) := by decide +kernel
theorem dX1_solve_8 : decode cX1_solve 8 = .ok (.aload_n 0, 1) := by decide +kernel
theorem dX1_solve_9 : decode cX1_solve 9 = .ok (.aload_n 1, 1) := by decide +kernel
theorem dX1_solve_10 : decode cX1_solve 10 = .ok (.invokevirtual 43, 3) := by decide +kernel
theorem dX1_solve_13 : decode cX1_solve 13 = .ok (.aload_n 0, 1) := by decide +kernel
theorem dX1_solve_14 : decode cX1_solve 14 = .ok (.invokevirtual 47, 3) := by decide +kernel
theorem dX1_solve_17 : decode cX1_solve 17 = .ok (.aload_n 0, 1) := by decide +kernel
theorem dX1_solve_18 : decode cX1_solve 18 = .ok (.invokevirtual 50, 3) := by decide +kernel
theorem dX1_solve_21 : decode cX1_solve 21 = .ok (.aload_n 0, 1) := by decide +kernel
theorem dX1_solve_22 : decode cX1_solve 22 = .ok (.invokevirtual 53, 3) := by decide +kernel
theorem dX1_solve_25 : decode cX1_solve 25 = .ok (.aload_n 0, 1) := by decide +kernel
theorem dX1_solve_26 : decode cX1_solve 26 = .ok (.invokevirtual 56, 3) := by decide +kernel
theorem dX1_solve_29 : decode cX1_solve 29 = .ok (.return_, 1) := by decide +kernel
theorem dX1_hasPair_0 : decode cX1_hasPair 0 = .ok (.iload_n 1, 1) := by decide +kernel
theorem dX1_hasPair_1 : decode cX1_hasPair 1 = .ok (.ifCond .lt 15, 3) := by decide +kernel
theorem dX1_hasPair_4 : decode cX1_hasPair 4 = .ok (.iload_n 1, 1) := by decide +kernel
theorem dX1_hasPair_5 : decode cX1_hasPair 5 = .ok (.aload_n 0, 1) := by decide +kernel
theorem dX1_hasPair_6 : decode cX1_hasPair 6 = .ok (.getfield 59, 3) := by decide +kernel
theorem dX1_hasPair_9 : decode cX1_hasPair 9 = .ok (.if_icmp .ge 7, 3) := by decide +kernel
theorem dX1_hasPair_12 : decode cX1_hasPair 12 = .ok (.iconst 1, 1) := by decide +kernel
theorem dX1_hasPair_13 : decode cX1_hasPair 13 = .ok (.goto 4, 3) := by decide +kernel
theorem dX1_hasPair_16 : decode cX1_hasPair 16 = .ok (.iconst 0, 1) := by decide +kernel
theorem dX1_hasPair_17 : decode cX1_hasPair 17 = .ok (.ireturn, 1) := by decide +kernel
theorem dX1_countParts_0 : decode cX1_countParts 0 = .ok (.iconst 0, 1) := by decide +kernel
theorem dX1_countParts_1 : decode cX1_countParts 1 = .ok (.istore_n 1, 1) := by decide +kernel
theorem dX1_countParts_2 : decode cX1_countParts 2 = .ok (.iconst 0, 1) := by decide +kernel
theorem dX1_countParts_3 : decode cX1_countParts 3 = .ok (.istore_n 2, 1) := by decide +kernel
theorem dX1_countParts_4 : decode cX1_countParts 4 = .ok (.iload_n 2, 1) := by decide +kernel
theorem dX1_countParts_5 : decode cX1_countParts 5 = .ok (.aload_n 0, 1) := by decide +kernel
theorem dX1_countParts_6 : decode cX1_countParts 6 = .ok (.getfield 42, 3) := by decide +kernel
theorem dX1_countParts_9 : decode cX1_countParts 9 = .ok (.if_icmp .ge 22, 3) := by decide +kernel
theorem dX1_countParts_12 : decode cX1_countParts 12 = .ok (.aload_n 0, 1) := by decide +kernel
theorem dX1_countParts_13 : decode cX1_countParts 13 = .ok (.getfield 16, 3) := by decide +kernel
theorem dX1_countParts_16 : decode cX1_countParts 16 = .ok (.iload_n 2, 1) := by decide +kernel
theorem dX1_countParts_17 : decode cX1_countParts 17 = .ok (.iaload, 1) := by decide +kernel
theorem dX1_countParts_18 : decode cX1_countParts 18 = .ok (.iload_n 2, 1) := by decide +kernel
theorem dX1_countParts_19 : decode cX1_countParts 19 = .ok (.if_icmp .ne 6, 3) := by decide +kernel
theorem dX1_countParts_22 : decode cX1_countParts 22 = .ok (.iinc 1 1, 3) := by decide +kernel
theorem dX1_countParts_25 : decode cX1_countParts 25 = .ok (.iinc 2 1, 3) := by decide +kernel
theorem dX1_countParts_28 : decode cX1_countParts 28 = .ok (.goto (-24), 3) := by decide +kernel
theorem dX1_countParts_31 : decode cX1_countParts 31 = .ok (.iload_n 1, 1) := by decide +kernel
theorem dX1_countParts_32 : decode cX1_countParts 32 = .ok (.ireturn, 1) := by decide +kernel
set_option maxRecDepth 20000 in
theorem ggX1_tellIndex_X4_lowestTerms : GoodIn wsX1_tellIndex wsX4_lowestTerms := goodIn_r _ [5, 6, 7, 8, 9, 10, 11, 4, 12] (by decide +kernel) (by decide +kernel)
set_option maxRecDepth 20000 in
theorem gX1_tellIndex_X4_lowestTerms_n62 : GoodIn wsX1_tellIndex (wsX4_lowestTerms) := ggX1_tellIndex_X4_lowestTerms
theorem dX1_tellIndex_0 : decode cX1_tellIndex 0 = .ok (.aload_n 0, 1) := by decide +kernel
theorem dX1_tellIndex_1 : decode cX1_tellIndex 1 = .ok (.getfield 20, 3) := by decide +kernel
theorem dX1_tellIndex_4 : decode cX1_tellIndex 4 = .ok (.iload_n 1, 1) := by decide +kernel
theorem dX1_tellIndex_5 : decode cX1_tellIndex 5 = .ok (.laload, 1) := by decide +kernel
theorem dX1_tellIndex_6 : decode cX1_tellIndex 6 = .ok (.aload_n 0, 1) := by decide +kernel
theorem dX1_tellIndex_7 : decode cX1_tellIndex 7 = .ok (.getfield 24, 3) := by decide +kernel
theorem dX1_tellIndex_10 : decode cX1_tellIndex 10 = .ok (.iload_n 2, 1) := by decide +kernel
theorem dX1_tellIndex_11 : decode cX1_tellIndex 11 = .ok (.invokestatic 62, 3) := by decide +kernel
theorem dX1_tellIndex_14 : decode cX1_tellIndex 14 = .ok (.lreturn, 1) := by decide +kernel
theorem dX1_offTop_0 : decode cX1_offTop 0 = .ok (.aload_n 0, 1) := by decide +kernel
theorem dX1_offTop_1 : decode cX1_offTop 1 = .ok (.getfield 13, 3) := by decide +kernel
theorem dX1_offTop_4 : decode cX1_offTop 4 = .ok (.iload_n 1, 1) := by decide +kernel
theorem dX1_offTop_5 : decode cX1_offTop 5 = .ok (.aaload, 1) := by decide +kernel
theorem dX1_offTop_6 : decode cX1_offTop 6 = .ok (.astore_n 2, 1) := by decide +kernel
theorem dX1_offTop_7 : decode cX1_offTop 7 = .ok (.aload_n 2, 1) := by decide +kernel
theorem dX1_offTop_8 : decode cX1_offTop 8 = .ok (.iconst 3, 1) := by decide +kernel
theorem dX1_offTop_9 : decode cX1_offTop 9 = .ok (.iaload, 1) := by decide +kernel
theorem dX1_offTop_10 : decode cX1_offTop 10 = .ok (.i2l, 1) := by decide +kernel
theorem dX1_offTop_11 : decode cX1_offTop 11 = .ok (.aload_n 0, 1) := by decide +kernel
theorem dX1_offTop_12 : decode cX1_offTop 12 = .ok (.getfield 24, 3) := by decide +kernel
theorem dX1_offTop_15 : decode cX1_offTop 15 = .ok (.lmul, 1) := by decide +kernel
theorem dX1_offTop_16 : decode cX1_offTop 16 = .ok (.aload_n 0, 1) := by decide +kernel
theorem dX1_offTop_17 : decode cX1_offTop 17 = .ok (.getfield 20, 3) := by decide +kernel
theorem dX1_offTop_20 : decode cX1_offTop 20 = .ok (.aload_n 2, 1) := by decide +kernel
theorem dX1_offTop_21 : decode cX1_offTop 21 = .ok (.iconst 2, 1) := by decide +kernel
theorem dX1_offTop_22 : decode cX1_offTop 22 = .ok (.iaload, 1) := by decide +kernel
theorem dX1_offTop_23 : decode cX1_offTop 23 = .ok (.laload, 1) := by decide +kernel
theorem dX1_offTop_24 : decode cX1_offTop 24 = .ok (.aload_n 0, 1) := by decide +kernel
theorem dX1_offTop_25 : decode cX1_offTop 25 = .ok (.getfield 20, 3) := by decide +kernel
theorem dX1_offTop_28 : decode cX1_offTop 28 = .ok (.aload_n 2, 1) := by decide +kernel
theorem dX1_offTop_29 : decode cX1_offTop 29 = .ok (.iconst 1, 1) := by decide +kernel
theorem dX1_offTop_30 : decode cX1_offTop 30 = .ok (.iaload, 1) := by decide +kernel
theorem dX1_offTop_31 : decode cX1_offTop 31 = .ok (.laload, 1) := by decide +kernel
theorem dX1_offTop_32 : decode cX1_offTop 32 = .ok (.lsub, 1) := by decide +kernel
theorem dX1_offTop_33 : decode cX1_offTop 33 = .ok (.lsub, 1) := by decide +kernel
theorem dX1_offTop_34 : decode cX1_offTop 34 = .ok (.lreturn, 1) := by decide +kernel
set_option maxRecDepth 20000 in
theorem ggX1_errorTop_X1_offTop : GoodIn wsX1_errorTop wsX1_offTop := goodIn_r _ [7, 2, 8, 9, 10, 11, 12, 13, 14, 15, 16, 17] (by decide +kernel) (by decide +kernel)
set_option maxRecDepth 20000 in
theorem gX1_errorTop_X1_offTop : GoodIn wsX1_errorTop (wsV RX1 66 RX1 yX1_offTop wsX1_offTop) := goodIn_app (goodIn_of _ (by decide +kernel)) ggX1_errorTop_X1_offTop
theorem dX1_errorTop_0 : decode cX1_errorTop 0 = .ok (.lconst 0, 1) := by decide +kernel
theorem dX1_errorTop_1 : decode cX1_errorTop 1 = .ok (.lstore_n 1, 1) := by decide +kernel
theorem dX1_errorTop_2 : decode cX1_errorTop 2 = .ok (.iconst 0, 1) := by decide +kernel
theorem dX1_errorTop_3 : decode cX1_errorTop 3 = .ok (.istore_n 3, 1) := by decide +kernel
theorem dX1_errorTop_4 : decode cX1_errorTop 4 = .ok (.iload_n 3, 1) := by decide +kernel
theorem dX1_errorTop_5 : decode cX1_errorTop 5 = .ok (.aload_n 0, 1) := by decide +kernel
theorem dX1_errorTop_6 : decode cX1_errorTop 6 = .ok (.getfield 59, 3) := by decide +kernel
theorem dX1_errorTop_9 : decode cX1_errorTop 9 = .ok (.if_icmp .ge 37, 3) := by decide +kernel
theorem dX1_errorTop_12 : decode cX1_errorTop 12 = .ok (.lload_n 1, 1) := by decide +kernel
theorem dX1_errorTop_13 : decode cX1_errorTop 13 = .ok (.aload_n 0, 1) := by decide +kernel
theorem dX1_errorTop_14 : decode cX1_errorTop 14 = .ok (.getfield 13, 3) := by decide +kernel
theorem dX1_errorTop_17 : decode cX1_errorTop 17 = .ok (.iload_n 3, 1) := by decide +kernel
theorem dX1_errorTop_18 : decode cX1_errorTop 18 = .ok (.aaload, 1) := by decide +kernel
theorem dX1_errorTop_19 : decode cX1_errorTop 19 = .ok (.iconst 4, 1) := by decide +kernel
theorem dX1_errorTop_20 : decode cX1_errorTop 20 = .ok (.iaload, 1) := by decide +kernel
theorem dX1_errorTop_21 : decode cX1_errorTop 21 = .ok (.i2l, 1) := by decide +kernel
theorem dX1_errorTop_22 : decode cX1_errorTop 22 = .ok (.aload_n 0, 1) := by decide +kernel
theorem dX1_errorTop_23 : decode cX1_errorTop 23 = .ok (.getfield 13, 3) := by decide +kernel
theorem dX1_errorTop_26 : decode cX1_errorTop 26 = .ok (.iload_n 3, 1) := by decide +kernel
theorem dX1_errorTop_27 : decode cX1_errorTop 27 = .ok (.aaload, 1) := by decide +kernel
theorem dX1_errorTop_28 : decode cX1_errorTop 28 = .ok (.iconst 3, 1) := by decide +kernel
theorem dX1_errorTop_29 : decode cX1_errorTop 29 = .ok (.iaload, 1) := by decide +kernel
theorem dX1_errorTop_30 : decode cX1_errorTop 30 = .ok (.i2l, 1) := by decide +kernel
theorem dX1_errorTop_31 : decode cX1_errorTop 31 = .ok (.lmul, 1) := by decide +kernel
theorem dX1_errorTop_32 : decode cX1_errorTop 32 = .ok (.aload_n 0, 1) := by decide +kernel
theorem dX1_errorTop_33 : decode cX1_errorTop 33 = .ok (.iload_n 3, 1) := by decide +kernel
theorem dX1_errorTop_34 : decode cX1_errorTop 34 = .ok (.invokevirtual 66, 3) := by decide +kernel
theorem dX1_errorTop_37 : decode cX1_errorTop 37 = .ok (.lmul, 1) := by decide +kernel
theorem dX1_errorTop_38 : decode cX1_errorTop 38 = .ok (.ladd, 1) := by decide +kernel
theorem dX1_errorTop_39 : decode cX1_errorTop 39 = .ok (.lstore_n 1, 1) := by decide +kernel
theorem dX1_errorTop_40 : decode cX1_errorTop 40 = .ok (.iinc 3 1, 3) := by decide +kernel
theorem dX1_errorTop_43 : decode cX1_errorTop 43 = .ok (.goto (-39), 3) := by decide +kernel
theorem dX1_errorTop_46 : decode cX1_errorTop 46 = .ok (.lload_n 1, 1) := by decide +kernel
theorem dX1_errorTop_47 : decode cX1_errorTop 47 = .ok (.lreturn, 1) := by decide +kernel
set_option maxRecDepth 20000 in
theorem ggX1_findWorst_X1_offTop : GoodIn wsX1_findWorst wsX1_offTop := goodIn_r _ [11, 12, 13, 14, 15, 16, 17, 18, 19, 20, 21, 22] (by decide +kernel) (by decide +kernel)
set_option maxRecDepth 20000 in
theorem gX1_findWorst_X1_offTop : GoodIn wsX1_findWorst (wsV RX1 66 RX1 yX1_offTop wsX1_offTop) := goodIn_app (goodIn_of _ (by decide +kernel)) ggX1_findWorst_X1_offTop
theorem dX1_findWorst_0 : decode cX1_findWorst 0 = .ok (.iconst (-1), 1) := by decide +kernel
theorem dX1_findWorst_1 : decode cX1_findWorst 1 = .ok (.istore_n 1, 1) := by decide +kernel
theorem dX1_findWorst_2 : decode cX1_findWorst 2 = .ok (.ldc2_w 70, 3) := by decide +kernel
theorem dX1_findWorst_5 : decode cX1_findWorst 5 = .ok (.lstore_n 2, 1) := by decide +kernel
theorem dX1_findWorst_6 : decode cX1_findWorst 6 = .ok (.iconst 0, 1) := by decide +kernel
theorem dX1_findWorst_7 : decode cX1_findWorst 7 = .ok (.istore 4, 2) := by decide +kernel
theorem dX1_findWorst_9 : decode cX1_findWorst 9 = .ok (.iload 4, 2) := by decide +kernel
theorem dX1_findWorst_11 : decode cX1_findWorst 11 = .ok (.aload_n 0, 1) := by decide +kernel
theorem dX1_findWorst_12 : decode cX1_findWorst 12 = .ok (.getfield 59, 3) := by decide +kernel
theorem dX1_findWorst_15 : decode cX1_findWorst 15 = .ok (.if_icmp .ge 33, 3) := by decide +kernel
theorem dX1_findWorst_18 : decode cX1_findWorst 18 = .ok (.aload_n 0, 1) := by decide +kernel
theorem dX1_findWorst_19 : decode cX1_findWorst 19 = .ok (.iload 4, 2) := by decide +kernel
theorem dX1_findWorst_21 : decode cX1_findWorst 21 = .ok (.invokevirtual 66, 3) := by decide +kernel
theorem dX1_findWorst_24 : decode cX1_findWorst 24 = .ok (.invokestatic 72, 3) := by decide +kernel
theorem dX1_findWorst_27 : decode cX1_findWorst 27 = .ok (.lstore 5, 2) := by decide +kernel
theorem dX1_findWorst_29 : decode cX1_findWorst 29 = .ok (.lload 5, 2) := by decide +kernel
theorem dX1_findWorst_31 : decode cX1_findWorst 31 = .ok (.lload_n 2, 1) := by decide +kernel
theorem dX1_findWorst_32 : decode cX1_findWorst 32 = .ok (.lcmp, 1) := by decide +kernel
theorem dX1_findWorst_33 : decode cX1_findWorst 33 = .ok (.ifCond .le 9, 3) := by decide +kernel
theorem dX1_findWorst_36 : decode cX1_findWorst 36 = .ok (.lload 5, 2) := by decide +kernel
theorem dX1_findWorst_38 : decode cX1_findWorst 38 = .ok (.lstore_n 2, 1) := by decide +kernel
theorem dX1_findWorst_39 : decode cX1_findWorst 39 = .ok (.iload 4, 2) := by decide +kernel
theorem dX1_findWorst_41 : decode cX1_findWorst 41 = .ok (.istore_n 1, 1) := by decide +kernel
theorem dX1_findWorst_42 : decode cX1_findWorst 42 = .ok (.iinc 4 1, 3) := by decide +kernel
theorem dX1_findWorst_45 : decode cX1_findWorst 45 = .ok (.goto (-36), 3) := by decide +kernel
theorem dX1_findWorst_48 : decode cX1_findWorst 48 = .ok (.iload_n 1, 1) := by decide +kernel
theorem dX1_findWorst_49 : decode cX1_findWorst 49 = .ok (.ireturn, 1) := by decide +kernel
set_option maxRecDepth 20000 in
theorem ggX1_listPairs_X0_levelAt : GoodIn wsX1_listPairs wsX0_levelAt := goodIn_r _ [8, 9, 10, 11, 12, 7, 13, 14, 15, 16, 17, 18, 19, 43, 44, 45, 46, 47] (by decide +kernel) (by decide +kernel)
set_option maxRecDepth 20000 in
theorem gX1_listPairs_X0_levelAt : GoodIn wsX1_listPairs (wsV RX1 81 RX0 yX0_levelAt wsX0_levelAt) := goodIn_app (goodIn_of _ (by decide +kernel)) ggX1_listPairs_X0_levelAt
set_option maxRecDepth 20000 in
theorem ggX1_listPairs_X1_addPair : GoodIn wsX1_listPairs wsX1_addPair := goodIn_r _ [24, 1, 25, 4, 5, 6, 7, 8, 9, 10, 11, 12, 13, 14, 15, 16, 17, 18, 19, 26, 27, 28, 29, 30, 31, 32, 33, 34, 35, 36, 37, 38, 39, 40, 41, 42, 43, 44, 45, 46, 47] (by decide +kernel) (by decide +kernel)
set_option maxRecDepth 20000 in
theorem gX1_listPairs_X1_addPair : GoodIn wsX1_listPairs (wsV RX1 85 RX1 yX1_addPair wsX1_addPair) := goodIn_app (goodIn_of _ (by decide +kernel)) ggX1_listPairs_X1_addPair
theorem dX1_listPairs_0 : decode cX1_listPairs 0 = .ok (.aload_n 0, 1) := by decide +kernel
theorem dX1_listPairs_1 : decode cX1_listPairs 1 = .ok (.iconst 0, 1) := by decide +kernel
theorem dX1_listPairs_2 : decode cX1_listPairs 2 = .ok (.putfield 59, 3) := by decide +kernel
theorem dX1_listPairs_5 : decode cX1_listPairs 5 = .ok (.iconst 0, 1) := by decide +kernel
theorem dX1_listPairs_6 : decode cX1_listPairs 6 = .ok (.istore_n 2, 1) := by decide +kernel
theorem dX1_listPairs_7 : decode cX1_listPairs 7 = .ok (.iload_n 2, 1) := by decide +kernel
theorem dX1_listPairs_8 : decode cX1_listPairs 8 = .ok (.aload_n 1, 1) := by decide +kernel
theorem dX1_listPairs_9 : decode cX1_listPairs 9 = .ok (.getfield 78, 3) := by decide +kernel
theorem dX1_listPairs_12 : decode cX1_listPairs 12 = .ok (.if_icmp .ge 57, 3) := by decide +kernel
theorem dX1_listPairs_15 : decode cX1_listPairs 15 = .ok (.iconst (-1), 1) := by decide +kernel
theorem dX1_listPairs_16 : decode cX1_listPairs 16 = .ok (.istore_n 3, 1) := by decide +kernel
theorem dX1_listPairs_17 : decode cX1_listPairs 17 = .ok (.iconst 0, 1) := by decide +kernel
theorem dX1_listPairs_18 : decode cX1_listPairs 18 = .ok (.istore 4, 2) := by decide +kernel
theorem dX1_listPairs_20 : decode cX1_listPairs 20 = .ok (.iload 4, 2) := by decide +kernel
theorem dX1_listPairs_22 : decode cX1_listPairs 22 = .ok (.aload_n 0, 1) := by decide +kernel
theorem dX1_listPairs_23 : decode cX1_listPairs 23 = .ok (.getfield 42, 3) := by decide +kernel
theorem dX1_listPairs_26 : decode cX1_listPairs 26 = .ok (.if_icmp .ge 37, 3) := by decide +kernel
theorem dX1_listPairs_29 : decode cX1_listPairs 29 = .ok (.aload_n 1, 1) := by decide +kernel
theorem dX1_listPairs_30 : decode cX1_listPairs 30 = .ok (.iload_n 2, 1) := by decide +kernel
theorem dX1_listPairs_31 : decode cX1_listPairs 31 = .ok (.iload 4, 2) := by decide +kernel
theorem dX1_listPairs_33 : decode cX1_listPairs 33 = .ok (.invokevirtual 81, 3) := by decide +kernel
theorem dX1_listPairs_36 : decode cX1_listPairs 36 = .ok (.iconst (-1), 1) := by decide +kernel
theorem dX1_listPairs_37 : decode cX1_listPairs 37 = .ok (.if_icmp .eq 20, 3) := by decide +kernel
theorem dX1_listPairs_40 : decode cX1_listPairs 40 = .ok (.iload_n 3, 1) := by decide +kernel
theorem dX1_listPairs_41 : decode cX1_listPairs 41 = .ok (.iconst (-1), 1) := by decide +kernel
theorem dX1_listPairs_42 : decode cX1_listPairs 42 = .ok (.if_icmp .eq 12, 3) := by decide +kernel
theorem dX1_listPairs_45 : decode cX1_listPairs 45 = .ok (.aload_n 0, 1) := by decide +kernel
theorem dX1_listPairs_46 : decode cX1_listPairs 46 = .ok (.aload_n 1, 1) := by decide +kernel
theorem dX1_listPairs_47 : decode cX1_listPairs 47 = .ok (.iload_n 2, 1) := by decide +kernel
theorem dX1_listPairs_48 : decode cX1_listPairs 48 = .ok (.iload_n 3, 1) := by decide +kernel
theorem dX1_listPairs_49 : decode cX1_listPairs 49 = .ok (.iload 4, 2) := by decide +kernel
theorem dX1_listPairs_51 : decode cX1_listPairs 51 = .ok (.invokevirtual 85, 3) := by decide +kernel
theorem dX1_listPairs_54 : decode cX1_listPairs 54 = .ok (.iload 4, 2) := by decide +kernel
theorem dX1_listPairs_56 : decode cX1_listPairs 56 = .ok (.istore_n 3, 1) := by decide +kernel
theorem dX1_listPairs_57 : decode cX1_listPairs 57 = .ok (.iinc 4 1, 3) := by decide +kernel
theorem dX1_listPairs_60 : decode cX1_listPairs 60 = .ok (.goto (-40), 3) := by decide +kernel
theorem dX1_listPairs_63 : decode cX1_listPairs 63 = .ok (.iinc 2 1, 3) := by decide +kernel
theorem dX1_listPairs_66 : decode cX1_listPairs 66 = .ok (.goto (-59), 3) := by decide +kernel
theorem dX1_listPairs_69 : decode cX1_listPairs 69 = .ok (.return_, 1) := by decide +kernel
set_option maxRecDepth 20000 in
theorem ggX1_addPair_X0_levelAt : GoodIn wsX1_addPair wsX0_levelAt := goodIn_r _ [7, 8, 9, 10, 11, 6, 12, 13, 14, 15, 16, 17, 18, 36, 37, 38, 39, 40] (by decide +kernel) (by decide +kernel)
set_option maxRecDepth 20000 in
theorem gX1_addPair_X0_levelAt : GoodIn wsX1_addPair (wsV RX1 81 RX0 yX0_levelAt wsX0_levelAt) := goodIn_app (goodIn_of _ (by decide +kernel)) ggX1_addPair_X0_levelAt
set_option maxRecDepth 20000 in
theorem ggX1_addPair_X0_weightOf : GoodIn wsX1_addPair wsX0_weightOf := goodIn_r _ [22, 23, 24, 25, 26, 6, 27, 18, 36, 37, 38, 39, 40] (by decide +kernel) (by decide +kernel)
set_option maxRecDepth 20000 in
theorem gX1_addPair_X0_weightOf : GoodIn wsX1_addPair (wsV RX1 89 RX0 yX0_weightOf wsX0_weightOf) := goodIn_app (goodIn_of _ (by decide +kernel)) ggX1_addPair_X0_weightOf
theorem dX1_addPair_0 : decode cX1_addPair 0 = .ok (.aload_n 0, 1) := by decide +kernel
theorem dX1_addPair_1 : decode cX1_addPair 1 = .ok (.getfield 59, 3) := by decide +kernel
theorem dX1_addPair_4 : decode cX1_addPair 4 = .ok (.bipush 42, 2) := by decide +kernel
theorem dX1_addPair_6 : decode cX1_addPair 6 = .ok (.if_icmp .lt 4, 3) := by decide +kernel
theorem dX1_addPair_9 : decode cX1_addPair 9 = .ok (.return_, 1) := by decide +kernel
theorem dX1_addPair_10 : decode cX1_addPair 10 = .ok (.aload_n 0, 1) := by decide +kernel
theorem dX1_addPair_11 : decode cX1_addPair 11 = .ok (.getfield 13, 3) := by decide +kernel
theorem dX1_addPair_14 : decode cX1_addPair 14 = .ok (.aload_n 0, 1) := by decide +kernel
theorem dX1_addPair_15 : decode cX1_addPair 15 = .ok (.getfield 59, 3) := by decide +kernel
theorem dX1_addPair_18 : decode cX1_addPair 18 = .ok (.aaload, 1) := by decide +kernel
theorem dX1_addPair_19 : decode cX1_addPair 19 = .ok (.astore 5, 2) := by decide +kernel
theorem dX1_addPair_21 : decode cX1_addPair 21 = .ok (.aload 5, 2) := by decide +kernel
theorem dX1_addPair_23 : decode cX1_addPair 23 = .ok (.iconst 0, 1) := by decide +kernel
theorem dX1_addPair_24 : decode cX1_addPair 24 = .ok (.iload_n 2, 1) := by decide +kernel
theorem dX1_addPair_25 : decode cX1_addPair 25 = .ok (.iastore, 1) := by decide +kernel
theorem dX1_addPair_26 : decode cX1_addPair 26 = .ok (.aload 5, 2) := by decide +kernel
theorem dX1_addPair_28 : decode cX1_addPair 28 = .ok (.iconst 1, 1) := by decide +kernel
theorem dX1_addPair_29 : decode cX1_addPair 29 = .ok (.iload_n 3, 1) := by decide +kernel
theorem dX1_addPair_30 : decode cX1_addPair 30 = .ok (.iastore, 1) := by decide +kernel
theorem dX1_addPair_31 : decode cX1_addPair 31 = .ok (.aload 5, 2) := by decide +kernel
theorem dX1_addPair_33 : decode cX1_addPair 33 = .ok (.iconst 2, 1) := by decide +kernel
theorem dX1_addPair_34 : decode cX1_addPair 34 = .ok (.iload 4, 2) := by decide +kernel
theorem dX1_addPair_36 : decode cX1_addPair 36 = .ok (.iastore, 1) := by decide +kernel
theorem dX1_addPair_37 : decode cX1_addPair 37 = .ok (.aload 5, 2) := by decide +kernel
theorem dX1_addPair_39 : decode cX1_addPair 39 = .ok (.iconst 3, 1) := by decide +kernel
theorem dX1_addPair_40 : decode cX1_addPair 40 = .ok (.aload_n 1, 1) := by decide +kernel
theorem dX1_addPair_41 : decode cX1_addPair 41 = .ok (.iload_n 2, 1) := by decide +kernel
theorem dX1_addPair_42 : decode cX1_addPair 42 = .ok (.iload 4, 2) := by decide +kernel
theorem dX1_addPair_44 : decode cX1_addPair 44 = .ok (.invokevirtual 81, 3) := by decide +kernel
theorem dX1_addPair_47 : decode cX1_addPair 47 = .ok (.aload_n 1, 1) := by decide +kernel
theorem dX1_addPair_48 : decode cX1_addPair 48 = .ok (.iload_n 2, 1) := by decide +kernel
theorem dX1_addPair_49 : decode cX1_addPair 49 = .ok (.iload_n 3, 1) := by decide +kernel
theorem dX1_addPair_50 : decode cX1_addPair 50 = .ok (.invokevirtual 81, 3) := by decide +kernel
theorem dX1_addPair_53 : decode cX1_addPair 53 = .ok (.isub, 1) := by decide +kernel
theorem dX1_addPair_54 : decode cX1_addPair 54 = .ok (.iastore, 1) := by decide +kernel
theorem dX1_addPair_55 : decode cX1_addPair 55 = .ok (.aload 5, 2) := by decide +kernel
theorem dX1_addPair_57 : decode cX1_addPair 57 = .ok (.iconst 4, 1) := by decide +kernel
theorem dX1_addPair_58 : decode cX1_addPair 58 = .ok (.aload_n 1, 1) := by decide +kernel
theorem dX1_addPair_59 : decode cX1_addPair 59 = .ok (.iload 4, 2) := by decide +kernel
theorem dX1_addPair_61 : decode cX1_addPair 61 = .ok (.iload_n 3, 1) := by decide +kernel
theorem dX1_addPair_62 : decode cX1_addPair 62 = .ok (.isub, 1) := by decide +kernel
theorem dX1_addPair_63 : decode cX1_addPair 63 = .ok (.invokevirtual 89, 3) := by decide +kernel
theorem dX1_addPair_66 : decode cX1_addPair 66 = .ok (.iastore, 1) := by decide +kernel
theorem dX1_addPair_67 : decode cX1_addPair 67 = .ok (.aload_n 0, 1) := by decide +kernel
theorem dX1_addPair_68 : decode cX1_addPair 68 = .ok (.dup, 1) := by decide +kernel
theorem dX1_addPair_69 : decode cX1_addPair 69 = .ok (.getfield 59, 3) := by decide +kernel
theorem dX1_addPair_72 : decode cX1_addPair 72 = .ok (.iconst 1, 1) := by decide +kernel
theorem dX1_addPair_73 : decode cX1_addPair 73 = .ok (.iadd, 1) := by decide +kernel
theorem dX1_addPair_74 : decode cX1_addPair 74 = .ok (.putfield 59, 3) := by decide +kernel
theorem dX1_addPair_77 : decode cX1_addPair 77 = .ok (.return_, 1) := by decide +kernel
set_option maxRecDepth 20000 in
theorem ggX1_joinParts_X1_renamePart : GoodIn wsX1_joinParts wsX1_renamePart := goodIn_r _ [16, 1, 2, 17, 18, 19, 20, 21, 22, 23, 24] (by decide +kernel) (by decide +kernel)
set_option maxRecDepth 20000 in
theorem gX1_joinParts_X1_renamePart : GoodIn wsX1_joinParts (wsV RX1 99 RX1 yX1_renamePart wsX1_renamePart) := goodIn_app (goodIn_of _ (by decide +kernel)) ggX1_joinParts_X1_renamePart
theorem dX1_joinParts_0 : decode cX1_joinParts 0 = .ok (.iconst 0, 1) := by decide +kernel
theorem dX1_joinParts_1 : decode cX1_joinParts 1 = .ok (.istore_n 1, 1) := by decide +kernel
theorem dX1_joinParts_2 : decode cX1_joinParts 2 = .ok (.iload_n 1, 1) := by decide +kernel
theorem dX1_joinParts_3 : decode cX1_joinParts 3 = .ok (.aload_n 0, 1) := by decide +kernel
theorem dX1_joinParts_4 : decode cX1_joinParts 4 = .ok (.getfield 42, 3) := by decide +kernel
theorem dX1_joinParts_7 : decode cX1_joinParts 7 = .ok (.if_icmp .ge 16, 3) := by decide +kernel
theorem dX1_joinParts_10 : decode cX1_joinParts 10 = .ok (.aload_n 0, 1) := by decide +kernel
theorem dX1_joinParts_11 : decode cX1_joinParts 11 = .ok (.getfield 16, 3) := by decide +kernel
theorem dX1_joinParts_14 : decode cX1_joinParts 14 = .ok (.iload_n 1, 1) := by decide +kernel
theorem dX1_joinParts_15 : decode cX1_joinParts 15 = .ok (.iload_n 1, 1) := by decide +kernel
theorem dX1_joinParts_16 : decode cX1_joinParts 16 = .ok (.iastore, 1) := by decide +kernel
theorem dX1_joinParts_17 : decode cX1_joinParts 17 = .ok (.iinc 1 1, 3) := by decide +kernel
theorem dX1_joinParts_20 : decode cX1_joinParts 20 = .ok (.goto (-18), 3) := by decide +kernel
theorem dX1_joinParts_23 : decode cX1_joinParts 23 = .ok (.iconst 0, 1) := by decide +kernel
theorem dX1_joinParts_24 : decode cX1_joinParts 24 = .ok (.istore_n 1, 1) := by decide +kernel
theorem dX1_joinParts_25 : decode cX1_joinParts 25 = .ok (.iload_n 1, 1) := by decide +kernel
theorem dX1_joinParts_26 : decode cX1_joinParts 26 = .ok (.aload_n 0, 1) := by decide +kernel
theorem dX1_joinParts_27 : decode cX1_joinParts 27 = .ok (.getfield 59, 3) := by decide +kernel
theorem dX1_joinParts_30 : decode cX1_joinParts 30 = .ok (.if_icmp .ge 51, 3) := by decide +kernel
theorem dX1_joinParts_33 : decode cX1_joinParts 33 = .ok (.aload_n 0, 1) := by decide +kernel
theorem dX1_joinParts_34 : decode cX1_joinParts 34 = .ok (.getfield 16, 3) := by decide +kernel
theorem dX1_joinParts_37 : decode cX1_joinParts 37 = .ok (.aload_n 0, 1) := by decide +kernel
theorem dX1_joinParts_38 : decode cX1_joinParts 38 = .ok (.getfield 13, 3) := by decide +kernel
theorem dX1_joinParts_41 : decode cX1_joinParts 41 = .ok (.iload_n 1, 1) := by decide +kernel
theorem dX1_joinParts_42 : decode cX1_joinParts 42 = .ok (.aaload, 1) := by decide +kernel
theorem dX1_joinParts_43 : decode cX1_joinParts 43 = .ok (.iconst 1, 1) := by decide +kernel
theorem dX1_joinParts_44 : decode cX1_joinParts 44 = .ok (.iaload, 1) := by decide +kernel
theorem dX1_joinParts_45 : decode cX1_joinParts 45 = .ok (.iaload, 1) := by decide +kernel
theorem dX1_joinParts_46 : decode cX1_joinParts 46 = .ok (.istore_n 2, 1) := by decide +kernel
theorem dX1_joinParts_47 : decode cX1_joinParts 47 = .ok (.aload_n 0, 1) := by decide +kernel
theorem dX1_joinParts_48 : decode cX1_joinParts 48 = .ok (.getfield 16, 3) := by decide +kernel
theorem dX1_joinParts_51 : decode cX1_joinParts 51 = .ok (.aload_n 0, 1) := by decide +kernel
theorem dX1_joinParts_52 : decode cX1_joinParts 52 = .ok (.getfield 13, 3) := by decide +kernel
theorem dX1_joinParts_55 : decode cX1_joinParts 55 = .ok (.iload_n 1, 1) := by decide +kernel
theorem dX1_joinParts_56 : decode cX1_joinParts 56 = .ok (.aaload, 1) := by decide +kernel
theorem dX1_joinParts_57 : decode cX1_joinParts 57 = .ok (.iconst 2, 1) := by decide +kernel
theorem dX1_joinParts_58 : decode cX1_joinParts 58 = .ok (.iaload, 1) := by decide +kernel
theorem dX1_joinParts_59 : decode cX1_joinParts 59 = .ok (.iaload, 1) := by decide +kernel
theorem dX1_joinParts_60 : decode cX1_joinParts 60 = .ok (.istore_n 3, 1) := by decide +kernel
theorem dX1_joinParts_61 : decode cX1_joinParts 61 = .ok (.aload_n 0, 1) := by decide +kernel
theorem dX1_joinParts_62 : decode cX1_joinParts 62 = .ok (.iload_n 2, 1) := by decide +kernel
theorem dX1_joinParts_63 : decode cX1_joinParts 63 = .ok (.iload_n 3, 1) := by decide +kernel
theorem dX1_joinParts_64 : decode cX1_joinParts 64 = .ok (.invokestatic 93, 3) := by decide +kernel
theorem dX1_joinParts_67 : decode cX1_joinParts 67 = .ok (.iload_n 2, 1) := by decide +kernel
theorem dX1_joinParts_68 : decode cX1_joinParts 68 = .ok (.iload_n 3, 1) := by decide +kernel
theorem dX1_joinParts_69 : decode cX1_joinParts 69 = .ok (.invokestatic 96, 3) := by decide +kernel
theorem dX1_joinParts_72 : decode cX1_joinParts 72 = .ok (.invokevirtual 99, 3) := by decide +kernel
theorem dX1_joinParts_75 : decode cX1_joinParts 75 = .ok (.iinc 1 1, 3) := by decide +kernel
theorem dX1_joinParts_78 : decode cX1_joinParts 78 = .ok (.goto (-53), 3) := by decide +kernel
theorem dX1_joinParts_81 : decode cX1_joinParts 81 = .ok (.return_, 1) := by decide +kernel
theorem dX1_renamePart_0 : decode cX1_renamePart 0 = .ok (.iconst 0, 1) := by decide +kernel
theorem dX1_renamePart_1 : decode cX1_renamePart 1 = .ok (.istore_n 3, 1) := by decide +kernel
theorem dX1_renamePart_2 : decode cX1_renamePart 2 = .ok (.iload_n 3, 1) := by decide +kernel
theorem dX1_renamePart_3 : decode cX1_renamePart 3 = .ok (.aload_n 0, 1) := by decide +kernel
theorem dX1_renamePart_4 : decode cX1_renamePart 4 = .ok (.getfield 42, 3) := by decide +kernel
theorem dX1_renamePart_7 : decode cX1_renamePart 7 = .ok (.if_icmp .ge 26, 3) := by decide +kernel
theorem dX1_renamePart_10 : decode cX1_renamePart 10 = .ok (.aload_n 0, 1) := by decide +kernel
theorem dX1_renamePart_11 : decode cX1_renamePart 11 = .ok (.getfield 16, 3) := by decide +kernel
theorem dX1_renamePart_14 : decode cX1_renamePart 14 = .ok (.iload_n 3, 1) := by decide +kernel
theorem dX1_renamePart_15 : decode cX1_renamePart 15 = .ok (.iaload, 1) := by decide +kernel
theorem dX1_renamePart_16 : decode cX1_renamePart 16 = .ok (.iload_n 1, 1) := by decide +kernel
theorem dX1_renamePart_17 : decode cX1_renamePart 17 = .ok (.if_icmp .ne 10, 3) := by decide +kernel
theorem dX1_renamePart_20 : decode cX1_renamePart 20 = .ok (.aload_n 0, 1) := by decide +kernel
theorem dX1_renamePart_21 : decode cX1_renamePart 21 = .ok (.getfield 16, 3) := by decide +kernel
theorem dX1_renamePart_24 : decode cX1_renamePart 24 = .ok (.iload_n 3, 1) := by decide +kernel
theorem dX1_renamePart_25 : decode cX1_renamePart 25 = .ok (.iload_n 2, 1) := by decide +kernel
theorem dX1_renamePart_26 : decode cX1_renamePart 26 = .ok (.iastore, 1) := by decide +kernel
theorem dX1_renamePart_27 : decode cX1_renamePart 27 = .ok (.iinc 3 1, 3) := by decide +kernel
theorem dX1_renamePart_30 : decode cX1_renamePart 30 = .ok (.goto (-28), 3) := by decide +kernel
theorem dX1_renamePart_33 : decode cX1_renamePart 33 = .ok (.return_, 1) := by decide +kernel
theorem dX1_isFirst_0 : decode cX1_isFirst 0 = .ok (.aload_n 0, 1) := by decide +kernel
theorem dX1_isFirst_1 : decode cX1_isFirst 1 = .ok (.getfield 16, 3) := by decide +kernel
theorem dX1_isFirst_4 : decode cX1_isFirst 4 = .ok (.iload_n 1, 1) := by decide +kernel
theorem dX1_isFirst_5 : decode cX1_isFirst 5 = .ok (.iaload, 1) := by decide +kernel
theorem dX1_isFirst_6 : decode cX1_isFirst 6 = .ok (.iload_n 1, 1) := by decide +kernel
theorem dX1_isFirst_7 : decode cX1_isFirst 7 = .ok (.if_icmp .ne 7, 3) := by decide +kernel
theorem dX1_isFirst_10 : decode cX1_isFirst 10 = .ok (.iconst 1, 1) := by decide +kernel
theorem dX1_isFirst_11 : decode cX1_isFirst 11 = .ok (.goto 4, 3) := by decide +kernel
theorem dX1_isFirst_14 : decode cX1_isFirst 14 = .ok (.iconst 0, 1) := by decide +kernel
theorem dX1_isFirst_15 : decode cX1_isFirst 15 = .ok (.ireturn, 1) := by decide +kernel
set_option maxRecDepth 20000 in
theorem ggX1_writeRows_X1_isFirst : GoodIn wsX1_writeRows wsX1_isFirst := goodIn_r _ [10, 11, 24, 25, 26, 27, 28, 29, 30, 31] (by decide +kernel) (by decide +kernel)
set_option maxRecDepth 20000 in
theorem gX1_writeRows_X1_isFirst : GoodIn wsX1_writeRows (wsV RX1 103 RX1 yX1_isFirst wsX1_isFirst) := goodIn_app (goodIn_of _ (by decide +kernel)) ggX1_writeRows_X1_isFirst
set_option maxRecDepth 20000 in
theorem ggX1_writeRows_X1_writePair : GoodIn wsX1_writeRows wsX1_writePair := goodIn_r _ [15, 16, 17, 18, 9, 19, 3, 6, 7, 8, 10, 11, 20, 21, 22, 23, 2, 24, 25, 26, 27, 28, 29, 30, 31] (by decide +kernel) (by decide +kernel)
set_option maxRecDepth 20000 in
theorem gX1_writeRows_X1_writePair : GoodIn wsX1_writeRows (wsV RX1 107 RX1 yX1_writePair wsX1_writePair) := goodIn_app (goodIn_of _ (by decide +kernel)) ggX1_writeRows_X1_writePair
theorem dX1_writeRows_0 : decode cX1_writeRows 0 = .ok (.iconst 0, 1) := by decide +kernel
theorem dX1_writeRows_1 : decode cX1_writeRows 1 = .ok (.istore_n 1, 1) := by decide +kernel
theorem dX1_writeRows_2 : decode cX1_writeRows 2 = .ok (.iload_n 1, 1) := by decide +kernel
theorem dX1_writeRows_3 : decode cX1_writeRows 3 = .ok (.aload_n 0, 1) := by decide +kernel
theorem dX1_writeRows_4 : decode cX1_writeRows 4 = .ok (.getfield 42, 3) := by decide +kernel
theorem dX1_writeRows_7 : decode cX1_writeRows 7 = .ok (.if_icmp .ge 78, 3) := by decide +kernel
theorem dX1_writeRows_10 : decode cX1_writeRows 10 = .ok (.iconst 0, 1) := by decide +kernel
theorem dX1_writeRows_11 : decode cX1_writeRows 11 = .ok (.istore_n 2, 1) := by decide +kernel
theorem dX1_writeRows_12 : decode cX1_writeRows 12 = .ok (.iload_n 2, 1) := by decide +kernel
theorem dX1_writeRows_13 : decode cX1_writeRows 13 = .ok (.iconst 2, 1) := by decide +kernel
theorem dX1_writeRows_14 : decode cX1_writeRows 14 = .ok (.aload_n 0, 1) := by decide +kernel
theorem dX1_writeRows_15 : decode cX1_writeRows 15 = .ok (.getfield 42, 3) := by decide +kernel
theorem dX1_writeRows_18 : decode cX1_writeRows 18 = .ok (.imul, 1) := by decide +kernel
theorem dX1_writeRows_19 : decode cX1_writeRows 19 = .ok (.if_icmp .ge 18, 3) := by decide +kernel
theorem dX1_writeRows_22 : decode cX1_writeRows 22 = .ok (.aload_n 0, 1) := by decide +kernel
theorem dX1_writeRows_23 : decode cX1_writeRows 23 = .ok (.getfield 33, 3) := by decide +kernel
theorem dX1_writeRows_26 : decode cX1_writeRows 26 = .ok (.iload_n 1, 1) := by decide +kernel
theorem dX1_writeRows_27 : decode cX1_writeRows 27 = .ok (.aaload, 1) := by decide +kernel
theorem dX1_writeRows_28 : decode cX1_writeRows 28 = .ok (.iload_n 2, 1) := by decide +kernel
theorem dX1_writeRows_29 : decode cX1_writeRows 29 = .ok (.lconst 0, 1) := by decide +kernel
theorem dX1_writeRows_30 : decode cX1_writeRows 30 = .ok (.lastore, 1) := by decide +kernel
theorem dX1_writeRows_31 : decode cX1_writeRows 31 = .ok (.iinc 2 1, 3) := by decide +kernel
theorem dX1_writeRows_34 : decode cX1_writeRows 34 = .ok (.goto (-22), 3) := by decide +kernel
theorem dX1_writeRows_37 : decode cX1_writeRows 37 = .ok (.aload_n 0, 1) := by decide +kernel
theorem dX1_writeRows_38 : decode cX1_writeRows 38 = .ok (.getfield 33, 3) := by decide +kernel
theorem dX1_writeRows_41 : decode cX1_writeRows 41 = .ok (.iload_n 1, 1) := by decide +kernel
theorem dX1_writeRows_42 : decode cX1_writeRows 42 = .ok (.aaload, 1) := by decide +kernel
theorem dX1_writeRows_43 : decode cX1_writeRows 43 = .ok (.aload_n 0, 1) := by decide +kernel
theorem dX1_writeRows_44 : decode cX1_writeRows 44 = .ok (.getfield 42, 3) := by decide +kernel
theorem dX1_writeRows_47 : decode cX1_writeRows 47 = .ok (.iload_n 1, 1) := by decide +kernel
theorem dX1_writeRows_48 : decode cX1_writeRows 48 = .ok (.iadd, 1) := by decide +kernel
theorem dX1_writeRows_49 : decode cX1_writeRows 49 = .ok (.lconst 1, 1) := by decide +kernel
theorem dX1_writeRows_50 : decode cX1_writeRows 50 = .ok (.lastore, 1) := by decide +kernel
theorem dX1_writeRows_51 : decode cX1_writeRows 51 = .ok (.aload_n 0, 1) := by decide +kernel
theorem dX1_writeRows_52 : decode cX1_writeRows 52 = .ok (.getfield 33, 3) := by decide +kernel
theorem dX1_writeRows_55 : decode cX1_writeRows 55 = .ok (.iload_n 1, 1) := by decide +kernel
theorem dX1_writeRows_56 : decode cX1_writeRows 56 = .ok (.aaload, 1) := by decide +kernel
theorem dX1_writeRows_57 : decode cX1_writeRows 57 = .ok (.iload_n 1, 1) := by decide +kernel
theorem dX1_writeRows_58 : decode cX1_writeRows 58 = .ok (.aload_n 0, 1) := by decide +kernel
theorem dX1_writeRows_59 : decode cX1_writeRows 59 = .ok (.iload_n 1, 1) := by decide +kernel
theorem dX1_writeRows_60 : decode cX1_writeRows 60 = .ok (.invokevirtual 103, 3) := by decide +kernel
theorem dX1_writeRows_63 : decode cX1_writeRows 63 = .ok (.ifCond .eq 7, 3) := by decide +kernel
theorem dX1_writeRows_66 : decode cX1_writeRows 66 = .ok (.lconst 1, 1) := by decide +kernel
theorem dX1_writeRows_67 : decode cX1_writeRows 67 = .ok (.goto 4, 3) := by decide +kernel
theorem dX1_writeRows_70 : decode cX1_writeRows 70 = .ok (.lconst 0, 1) := by decide +kernel
theorem dX1_writeRows_71 : decode cX1_writeRows 71 = .ok (.lastore, 1) := by decide +kernel
theorem dX1_writeRows_72 : decode cX1_writeRows 72 = .ok (.aload_n 0, 1) := by decide +kernel
theorem dX1_writeRows_73 : decode cX1_writeRows 73 = .ok (.getfield 28, 3) := by decide +kernel
theorem dX1_writeRows_76 : decode cX1_writeRows 76 = .ok (.iload_n 1, 1) := by decide +kernel
theorem dX1_writeRows_77 : decode cX1_writeRows 77 = .ok (.lconst 0, 1) := by decide +kernel
theorem dX1_writeRows_78 : decode cX1_writeRows 78 = .ok (.lastore, 1) := by decide +kernel
theorem dX1_writeRows_79 : decode cX1_writeRows 79 = .ok (.iinc 1 1, 3) := by decide +kernel
theorem dX1_writeRows_82 : decode cX1_writeRows 82 = .ok (.goto (-80), 3) := by decide +kernel
theorem dX1_writeRows_85 : decode cX1_writeRows 85 = .ok (.iconst 0, 1) := by decide +kernel
theorem dX1_writeRows_86 : decode cX1_writeRows 86 = .ok (.istore_n 1, 1) := by decide +kernel
theorem dX1_writeRows_87 : decode cX1_writeRows 87 = .ok (.iload_n 1, 1) := by decide +kernel
theorem dX1_writeRows_88 : decode cX1_writeRows 88 = .ok (.aload_n 0, 1) := by decide +kernel
theorem dX1_writeRows_89 : decode cX1_writeRows 89 = .ok (.getfield 59, 3) := by decide +kernel
theorem dX1_writeRows_92 : decode cX1_writeRows 92 = .ok (.if_icmp .ge 19, 3) := by decide +kernel
theorem dX1_writeRows_95 : decode cX1_writeRows 95 = .ok (.aload_n 0, 1) := by decide +kernel
theorem dX1_writeRows_96 : decode cX1_writeRows 96 = .ok (.aload_n 0, 1) := by decide +kernel
theorem dX1_writeRows_97 : decode cX1_writeRows 97 = .ok (.getfield 13, 3) := by decide +kernel
theorem dX1_writeRows_100 : decode cX1_writeRows 100 = .ok (.iload_n 1, 1) := by decide +kernel
theorem dX1_writeRows_101 : decode cX1_writeRows 101 = .ok (.aaload, 1) := by decide +kernel
theorem dX1_writeRows_102 : decode cX1_writeRows 102 = .ok (.invokevirtual 107, 3) := by decide +kernel
theorem dX1_writeRows_105 : decode cX1_writeRows 105 = .ok (.iinc 1 1, 3) := by decide +kernel
theorem dX1_writeRows_108 : decode cX1_writeRows 108 = .ok (.goto (-21), 3) := by decide +kernel
theorem dX1_writeRows_111 : decode cX1_writeRows 111 = .ok (.return_, 1) := by decide +kernel
set_option maxRecDepth 20000 in
theorem ggX1_writePair_X1_addPull : GoodIn wsX1_writePair wsX1_addPull := goodIn_r _ [5, 6, 7, 8, 9, 4, 10, 11, 17, 18, 19, 20, 21, 22, 23, 24] (by decide +kernel) (by decide +kernel)
set_option maxRecDepth 20000 in
theorem gX1_writePair_X1_addPull : GoodIn wsX1_writePair (wsV RX1 111 RX1 yX1_addPull wsX1_addPull) := goodIn_app (goodIn_of _ (by decide +kernel)) ggX1_writePair_X1_addPull
set_option maxRecDepth 20000 in
theorem ggX1_writePair_X1_addCell : GoodIn wsX1_writePair wsX1_addCell := goodIn_r _ [15, 16, 7, 8, 9, 4, 10, 11, 17, 18, 19, 20, 21, 22, 23, 24] (by decide +kernel) (by decide +kernel)
set_option maxRecDepth 20000 in
theorem gX1_writePair_X1_addCell : GoodIn wsX1_writePair (wsV RX1 114 RX1 yX1_addCell wsX1_addCell) := goodIn_app (goodIn_of _ (by decide +kernel)) ggX1_writePair_X1_addCell
theorem dX1_writePair_0 : decode cX1_writePair 0 = .ok (.aload_n 1, 1) := by decide +kernel
theorem dX1_writePair_1 : decode cX1_writePair 1 = .ok (.iconst 1, 1) := by decide +kernel
theorem dX1_writePair_2 : decode cX1_writePair 2 = .ok (.iaload, 1) := by decide +kernel
theorem dX1_writePair_3 : decode cX1_writePair 3 = .ok (.istore_n 2, 1) := by decide +kernel
theorem dX1_writePair_4 : decode cX1_writePair 4 = .ok (.aload_n 1, 1) := by decide +kernel
theorem dX1_writePair_5 : decode cX1_writePair 5 = .ok (.iconst 2, 1) := by decide +kernel
theorem dX1_writePair_6 : decode cX1_writePair 6 = .ok (.iaload, 1) := by decide +kernel
theorem dX1_writePair_7 : decode cX1_writePair 7 = .ok (.istore_n 3, 1) := by decide +kernel
theorem dX1_writePair_8 : decode cX1_writePair 8 = .ok (.aload_n 1, 1) := by decide +kernel
theorem dX1_writePair_9 : decode cX1_writePair 9 = .ok (.iconst 4, 1) := by decide +kernel
theorem dX1_writePair_10 : decode cX1_writePair 10 = .ok (.iaload, 1) := by decide +kernel
theorem dX1_writePair_11 : decode cX1_writePair 11 = .ok (.istore 4, 2) := by decide +kernel
theorem dX1_writePair_13 : decode cX1_writePair 13 = .ok (.aload_n 0, 1) := by decide +kernel
theorem dX1_writePair_14 : decode cX1_writePair 14 = .ok (.iload_n 2, 1) := by decide +kernel
theorem dX1_writePair_15 : decode cX1_writePair 15 = .ok (.iload 4, 2) := by decide +kernel
theorem dX1_writePair_17 : decode cX1_writePair 17 = .ok (.ineg, 1) := by decide +kernel
theorem dX1_writePair_18 : decode cX1_writePair 18 = .ok (.aload_n 1, 1) := by decide +kernel
theorem dX1_writePair_19 : decode cX1_writePair 19 = .ok (.iconst 3, 1) := by decide +kernel
theorem dX1_writePair_20 : decode cX1_writePair 20 = .ok (.iaload, 1) := by decide +kernel
theorem dX1_writePair_21 : decode cX1_writePair 21 = .ok (.imul, 1) := by decide +kernel
theorem dX1_writePair_22 : decode cX1_writePair 22 = .ok (.invokevirtual 111, 3) := by decide +kernel
theorem dX1_writePair_25 : decode cX1_writePair 25 = .ok (.aload_n 0, 1) := by decide +kernel
theorem dX1_writePair_26 : decode cX1_writePair 26 = .ok (.iload_n 3, 1) := by decide +kernel
theorem dX1_writePair_27 : decode cX1_writePair 27 = .ok (.iload 4, 2) := by decide +kernel
theorem dX1_writePair_29 : decode cX1_writePair 29 = .ok (.aload_n 1, 1) := by decide +kernel
theorem dX1_writePair_30 : decode cX1_writePair 30 = .ok (.iconst 3, 1) := by decide +kernel
theorem dX1_writePair_31 : decode cX1_writePair 31 = .ok (.iaload, 1) := by decide +kernel
theorem dX1_writePair_32 : decode cX1_writePair 32 = .ok (.imul, 1) := by decide +kernel
theorem dX1_writePair_33 : decode cX1_writePair 33 = .ok (.invokevirtual 111, 3) := by decide +kernel
theorem dX1_writePair_36 : decode cX1_writePair 36 = .ok (.aload_n 0, 1) := by decide +kernel
theorem dX1_writePair_37 : decode cX1_writePair 37 = .ok (.iload_n 2, 1) := by decide +kernel
theorem dX1_writePair_38 : decode cX1_writePair 38 = .ok (.iload_n 2, 1) := by decide +kernel
theorem dX1_writePair_39 : decode cX1_writePair 39 = .ok (.iload 4, 2) := by decide +kernel
theorem dX1_writePair_41 : decode cX1_writePair 41 = .ok (.invokevirtual 114, 3) := by decide +kernel
theorem dX1_writePair_44 : decode cX1_writePair 44 = .ok (.aload_n 0, 1) := by decide +kernel
theorem dX1_writePair_45 : decode cX1_writePair 45 = .ok (.iload_n 3, 1) := by decide +kernel
theorem dX1_writePair_46 : decode cX1_writePair 46 = .ok (.iload_n 3, 1) := by decide +kernel
theorem dX1_writePair_47 : decode cX1_writePair 47 = .ok (.iload 4, 2) := by decide +kernel
theorem dX1_writePair_49 : decode cX1_writePair 49 = .ok (.invokevirtual 114, 3) := by decide +kernel
theorem dX1_writePair_52 : decode cX1_writePair 52 = .ok (.aload_n 0, 1) := by decide +kernel
theorem dX1_writePair_53 : decode cX1_writePair 53 = .ok (.iload_n 2, 1) := by decide +kernel
theorem dX1_writePair_54 : decode cX1_writePair 54 = .ok (.iload_n 3, 1) := by decide +kernel
theorem dX1_writePair_55 : decode cX1_writePair 55 = .ok (.iload 4, 2) := by decide +kernel
theorem dX1_writePair_57 : decode cX1_writePair 57 = .ok (.ineg, 1) := by decide +kernel
theorem dX1_writePair_58 : decode cX1_writePair 58 = .ok (.invokevirtual 114, 3) := by decide +kernel
theorem dX1_writePair_61 : decode cX1_writePair 61 = .ok (.aload_n 0, 1) := by decide +kernel
theorem dX1_writePair_62 : decode cX1_writePair 62 = .ok (.iload_n 3, 1) := by decide +kernel
theorem dX1_writePair_63 : decode cX1_writePair 63 = .ok (.iload_n 2, 1) := by decide +kernel
theorem dX1_writePair_64 : decode cX1_writePair 64 = .ok (.iload 4, 2) := by decide +kernel
theorem dX1_writePair_66 : decode cX1_writePair 66 = .ok (.ineg, 1) := by decide +kernel
theorem dX1_writePair_67 : decode cX1_writePair 67 = .ok (.invokevirtual 114, 3) := by decide +kernel
theorem dX1_writePair_70 : decode cX1_writePair 70 = .ok (.return_, 1) := by decide +kernel
set_option maxRecDepth 20000 in
theorem ggX1_addPull_X1_isFirst : GoodIn wsX1_addPull wsX1_isFirst := goodIn_r _ [6, 7, 8, 9, 10, 11, 12, 13, 14, 15] (by decide +kernel) (by decide +kernel)
set_option maxRecDepth 20000 in
theorem gX1_addPull_X1_isFirst : GoodIn wsX1_addPull (wsV RX1 103 RX1 yX1_isFirst wsX1_isFirst) := goodIn_app (goodIn_of _ (by decide +kernel)) ggX1_addPull_X1_isFirst
theorem dX1_addPull_0 : decode cX1_addPull 0 = .ok (.aload_n 0, 1) := by decide +kernel
theorem dX1_addPull_1 : decode cX1_addPull 1 = .ok (.iload_n 1, 1) := by decide +kernel
theorem dX1_addPull_2 : decode cX1_addPull 2 = .ok (.invokevirtual 103, 3) := by decide +kernel
theorem dX1_addPull_5 : decode cX1_addPull 5 = .ok (.ifCond .ne 14, 3) := by decide +kernel
theorem dX1_addPull_8 : decode cX1_addPull 8 = .ok (.aload_n 0, 1) := by decide +kernel
theorem dX1_addPull_9 : decode cX1_addPull 9 = .ok (.getfield 28, 3) := by decide +kernel
theorem dX1_addPull_12 : decode cX1_addPull 12 = .ok (.iload_n 1, 1) := by decide +kernel
theorem dX1_addPull_13 : decode cX1_addPull 13 = .ok (.dup2, 1) := by decide +kernel
theorem dX1_addPull_14 : decode cX1_addPull 14 = .ok (.laload, 1) := by decide +kernel
theorem dX1_addPull_15 : decode cX1_addPull 15 = .ok (.iload_n 2, 1) := by decide +kernel
theorem dX1_addPull_16 : decode cX1_addPull 16 = .ok (.i2l, 1) := by decide +kernel
theorem dX1_addPull_17 : decode cX1_addPull 17 = .ok (.ladd, 1) := by decide +kernel
theorem dX1_addPull_18 : decode cX1_addPull 18 = .ok (.lastore, 1) := by decide +kernel
theorem dX1_addPull_19 : decode cX1_addPull 19 = .ok (.return_, 1) := by decide +kernel
set_option maxRecDepth 20000 in
theorem ggX1_addCell_X1_isFirst : GoodIn wsX1_addCell wsX1_isFirst := goodIn_r _ [6, 7, 8, 9, 10, 11, 12, 13, 14, 15] (by decide +kernel) (by decide +kernel)
set_option maxRecDepth 20000 in
theorem gX1_addCell_X1_isFirst : GoodIn wsX1_addCell (wsV RX1 103 RX1 yX1_isFirst wsX1_isFirst) := goodIn_app (goodIn_of _ (by decide +kernel)) ggX1_addCell_X1_isFirst
theorem dX1_addCell_0 : decode cX1_addCell 0 = .ok (.aload_n 0, 1) := by decide +kernel
theorem dX1_addCell_1 : decode cX1_addCell 1 = .ok (.iload_n 1, 1) := by decide +kernel
theorem dX1_addCell_2 : decode cX1_addCell 2 = .ok (.invokevirtual 103, 3) := by decide +kernel
theorem dX1_addCell_5 : decode cX1_addCell 5 = .ok (.ifCond .ne 24, 3) := by decide +kernel
theorem dX1_addCell_8 : decode cX1_addCell 8 = .ok (.aload_n 0, 1) := by decide +kernel
theorem dX1_addCell_9 : decode cX1_addCell 9 = .ok (.iload_n 2, 1) := by decide +kernel
theorem dX1_addCell_10 : decode cX1_addCell 10 = .ok (.invokevirtual 103, 3) := by decide +kernel
theorem dX1_addCell_13 : decode cX1_addCell 13 = .ok (.ifCond .ne 16, 3) := by decide +kernel
theorem dX1_addCell_16 : decode cX1_addCell 16 = .ok (.aload_n 0, 1) := by decide +kernel
theorem dX1_addCell_17 : decode cX1_addCell 17 = .ok (.getfield 33, 3) := by decide +kernel
theorem dX1_addCell_20 : decode cX1_addCell 20 = .ok (.iload_n 1, 1) := by decide +kernel
theorem dX1_addCell_21 : decode cX1_addCell 21 = .ok (.aaload, 1) := by decide +kernel
theorem dX1_addCell_22 : decode cX1_addCell 22 = .ok (.iload_n 2, 1) := by decide +kernel
theorem dX1_addCell_23 : decode cX1_addCell 23 = .ok (.dup2, 1) := by decide +kernel
theorem dX1_addCell_24 : decode cX1_addCell 24 = .ok (.laload, 1) := by decide +kernel
theorem dX1_addCell_25 : decode cX1_addCell 25 = .ok (.iload_n 3, 1) := by decide +kernel
theorem dX1_addCell_26 : decode cX1_addCell 26 = .ok (.i2l, 1) := by decide +kernel
theorem dX1_addCell_27 : decode cX1_addCell 27 = .ok (.ladd, 1) := by decide +kernel
theorem dX1_addCell_28 : decode cX1_addCell 28 = .ok (.lastore, 1) := by decide +kernel
theorem dX1_addCell_29 : decode cX1_addCell 29 = .ok (.return_, 1) := by decide +kernel
set_option maxRecDepth 20000 in
theorem ggX1_invertRows_X1_clearCell : GoodIn wsX1_invertRows wsX1_clearCell := goodIn_r _ [8, 1, 9, 10, 11, 12, 13, 14, 15, 16] (by decide +kernel) (by decide +kernel)
set_option maxRecDepth 20000 in
theorem gX1_invertRows_X1_clearCell : GoodIn wsX1_invertRows (wsV RX1 118 RX1 yX1_clearCell wsX1_clearCell) := goodIn_app (goodIn_of _ (by decide +kernel)) ggX1_invertRows_X1_clearCell
theorem dX1_invertRows_0 : decode cX1_invertRows 0 = .ok (.lconst 1, 1) := by decide +kernel
theorem dX1_invertRows_1 : decode cX1_invertRows 1 = .ok (.lstore_n 1, 1) := by decide +kernel
theorem dX1_invertRows_2 : decode cX1_invertRows 2 = .ok (.iconst 0, 1) := by decide +kernel
theorem dX1_invertRows_3 : decode cX1_invertRows 3 = .ok (.istore_n 3, 1) := by decide +kernel
theorem dX1_invertRows_4 : decode cX1_invertRows 4 = .ok (.iload_n 3, 1) := by decide +kernel
theorem dX1_invertRows_5 : decode cX1_invertRows 5 = .ok (.aload_n 0, 1) := by decide +kernel
theorem dX1_invertRows_6 : decode cX1_invertRows 6 = .ok (.getfield 42, 3) := by decide +kernel
theorem dX1_invertRows_9 : decode cX1_invertRows 9 = .ok (.if_icmp .ge 61, 3) := by decide +kernel
theorem dX1_invertRows_12 : decode cX1_invertRows 12 = .ok (.iconst 0, 1) := by decide +kernel
theorem dX1_invertRows_13 : decode cX1_invertRows 13 = .ok (.istore 4, 2) := by decide +kernel
theorem dX1_invertRows_15 : decode cX1_invertRows 15 = .ok (.iload 4, 2) := by decide +kernel
theorem dX1_invertRows_17 : decode cX1_invertRows 17 = .ok (.aload_n 0, 1) := by decide +kernel
theorem dX1_invertRows_18 : decode cX1_invertRows 18 = .ok (.getfield 42, 3) := by decide +kernel
theorem dX1_invertRows_21 : decode cX1_invertRows 21 = .ok (.if_icmp .ge 34, 3) := by decide +kernel
theorem dX1_invertRows_24 : decode cX1_invertRows 24 = .ok (.iload 4, 2) := by decide +kernel
theorem dX1_invertRows_26 : decode cX1_invertRows 26 = .ok (.iload_n 3, 1) := by decide +kernel
theorem dX1_invertRows_27 : decode cX1_invertRows 27 = .ok (.if_icmp .eq 22, 3) := by decide +kernel
theorem dX1_invertRows_30 : decode cX1_invertRows 30 = .ok (.aload_n 0, 1) := by decide +kernel
theorem dX1_invertRows_31 : decode cX1_invertRows 31 = .ok (.aload_n 0, 1) := by decide +kernel
theorem dX1_invertRows_32 : decode cX1_invertRows 32 = .ok (.getfield 33, 3) := by decide +kernel
theorem dX1_invertRows_35 : decode cX1_invertRows 35 = .ok (.iload 4, 2) := by decide +kernel
theorem dX1_invertRows_37 : decode cX1_invertRows 37 = .ok (.aaload, 1) := by decide +kernel
theorem dX1_invertRows_38 : decode cX1_invertRows 38 = .ok (.aload_n 0, 1) := by decide +kernel
theorem dX1_invertRows_39 : decode cX1_invertRows 39 = .ok (.getfield 33, 3) := by decide +kernel
theorem dX1_invertRows_42 : decode cX1_invertRows 42 = .ok (.iload_n 3, 1) := by decide +kernel
theorem dX1_invertRows_43 : decode cX1_invertRows 43 = .ok (.aaload, 1) := by decide +kernel
theorem dX1_invertRows_44 : decode cX1_invertRows 44 = .ok (.iload_n 3, 1) := by decide +kernel
theorem dX1_invertRows_45 : decode cX1_invertRows 45 = .ok (.lload_n 1, 1) := by decide +kernel
theorem dX1_invertRows_46 : decode cX1_invertRows 46 = .ok (.invokevirtual 118, 3) := by decide +kernel
theorem dX1_invertRows_49 : decode cX1_invertRows 49 = .ok (.iinc 4 1, 3) := by decide +kernel
theorem dX1_invertRows_52 : decode cX1_invertRows 52 = .ok (.goto (-37), 3) := by decide +kernel
theorem dX1_invertRows_55 : decode cX1_invertRows 55 = .ok (.aload_n 0, 1) := by decide +kernel
theorem dX1_invertRows_56 : decode cX1_invertRows 56 = .ok (.getfield 33, 3) := by decide +kernel
theorem dX1_invertRows_59 : decode cX1_invertRows 59 = .ok (.iload_n 3, 1) := by decide +kernel
theorem dX1_invertRows_60 : decode cX1_invertRows 60 = .ok (.aaload, 1) := by decide +kernel
theorem dX1_invertRows_61 : decode cX1_invertRows 61 = .ok (.iload_n 3, 1) := by decide +kernel
theorem dX1_invertRows_62 : decode cX1_invertRows 62 = .ok (.laload, 1) := by decide +kernel
theorem dX1_invertRows_63 : decode cX1_invertRows 63 = .ok (.lstore_n 1, 1) := by decide +kernel
theorem dX1_invertRows_64 : decode cX1_invertRows 64 = .ok (.iinc 3 1, 3) := by decide +kernel
theorem dX1_invertRows_67 : decode cX1_invertRows 67 = .ok (.goto (-63), 3) := by decide +kernel
theorem dX1_invertRows_70 : decode cX1_invertRows 70 = .ok (.aload_n 0, 1) := by decide +kernel
theorem dX1_invertRows_71 : decode cX1_invertRows 71 = .ok (.lload_n 1, 1) := by decide +kernel
theorem dX1_invertRows_72 : decode cX1_invertRows 72 = .ok (.putfield 24, 3) := by decide +kernel
theorem dX1_invertRows_75 : decode cX1_invertRows 75 = .ok (.return_, 1) := by decide +kernel
theorem dX1_clearCell_0 : decode cX1_clearCell 0 = .ok (.lload 4, 2) := by decide +kernel
theorem dX1_clearCell_2 : decode cX1_clearCell 2 = .ok (.lconst 0, 1) := by decide +kernel
theorem dX1_clearCell_3 : decode cX1_clearCell 3 = .ok (.lcmp, 1) := by decide +kernel
theorem dX1_clearCell_4 : decode cX1_clearCell 4 = .ok (.ifCond .ne 4, 3) := by decide +kernel
theorem dX1_clearCell_7 : decode cX1_clearCell 7 = .ok (.return_, 1) := by decide +kernel
theorem dX1_clearCell_8 : decode cX1_clearCell 8 = .ok (.aload_n 2, 1) := by decide +kernel
theorem dX1_clearCell_9 : decode cX1_clearCell 9 = .ok (.iload_n 3, 1) := by decide +kernel
theorem dX1_clearCell_10 : decode cX1_clearCell 10 = .ok (.laload, 1) := by decide +kernel
theorem dX1_clearCell_11 : decode cX1_clearCell 11 = .ok (.lstore 6, 2) := by decide +kernel
theorem dX1_clearCell_13 : decode cX1_clearCell 13 = .ok (.aload_n 1, 1) := by decide +kernel
theorem dX1_clearCell_14 : decode cX1_clearCell 14 = .ok (.iload_n 3, 1) := by decide +kernel
theorem dX1_clearCell_15 : decode cX1_clearCell 15 = .ok (.laload, 1) := by decide +kernel
theorem dX1_clearCell_16 : decode cX1_clearCell 16 = .ok (.lstore 8, 2) := by decide +kernel
theorem dX1_clearCell_18 : decode cX1_clearCell 18 = .ok (.iconst 0, 1) := by decide +kernel
theorem dX1_clearCell_19 : decode cX1_clearCell 19 = .ok (.istore 10, 2) := by decide +kernel
theorem dX1_clearCell_21 : decode cX1_clearCell 21 = .ok (.iload 10, 2) := by decide +kernel
theorem dX1_clearCell_23 : decode cX1_clearCell 23 = .ok (.iconst 2, 1) := by decide +kernel
theorem dX1_clearCell_24 : decode cX1_clearCell 24 = .ok (.aload_n 0, 1) := by decide +kernel
theorem dX1_clearCell_25 : decode cX1_clearCell 25 = .ok (.getfield 42, 3) := by decide +kernel
theorem dX1_clearCell_28 : decode cX1_clearCell 28 = .ok (.imul, 1) := by decide +kernel
theorem dX1_clearCell_29 : decode cX1_clearCell 29 = .ok (.if_icmp .ge 31, 3) := by decide +kernel
theorem dX1_clearCell_32 : decode cX1_clearCell 32 = .ok (.aload_n 1, 1) := by decide +kernel
theorem dX1_clearCell_33 : decode cX1_clearCell 33 = .ok (.iload 10, 2) := by decide +kernel
theorem dX1_clearCell_35 : decode cX1_clearCell 35 = .ok (.aload_n 1, 1) := by decide +kernel
theorem dX1_clearCell_36 : decode cX1_clearCell 36 = .ok (.iload 10, 2) := by decide +kernel
theorem dX1_clearCell_38 : decode cX1_clearCell 38 = .ok (.laload, 1) := by decide +kernel
theorem dX1_clearCell_39 : decode cX1_clearCell 39 = .ok (.lload 6, 2) := by decide +kernel
theorem dX1_clearCell_41 : decode cX1_clearCell 41 = .ok (.lmul, 1) := by decide +kernel
theorem dX1_clearCell_42 : decode cX1_clearCell 42 = .ok (.aload_n 2, 1) := by decide +kernel
theorem dX1_clearCell_43 : decode cX1_clearCell 43 = .ok (.iload 10, 2) := by decide +kernel
theorem dX1_clearCell_45 : decode cX1_clearCell 45 = .ok (.laload, 1) := by decide +kernel
theorem dX1_clearCell_46 : decode cX1_clearCell 46 = .ok (.lload 8, 2) := by decide +kernel
theorem dX1_clearCell_48 : decode cX1_clearCell 48 = .ok (.lmul, 1) := by decide +kernel
theorem dX1_clearCell_49 : decode cX1_clearCell 49 = .ok (.lsub, 1) := by decide +kernel
theorem dX1_clearCell_50 : decode cX1_clearCell 50 = .ok (.lload 4, 2) := by decide +kernel
theorem dX1_clearCell_52 : decode cX1_clearCell 52 = .ok (.ldiv, 1) := by decide +kernel
theorem dX1_clearCell_53 : decode cX1_clearCell 53 = .ok (.lastore, 1) := by decide +kernel
theorem dX1_clearCell_54 : decode cX1_clearCell 54 = .ok (.iinc 10 1, 3) := by decide +kernel
theorem dX1_clearCell_57 : decode cX1_clearCell 57 = .ok (.goto (-36), 3) := by decide +kernel
theorem dX1_clearCell_60 : decode cX1_clearCell 60 = .ok (.return_, 1) := by decide +kernel
theorem dX1_writeTops_0 : decode cX1_writeTops 0 = .ok (.iconst 0, 1) := by decide +kernel
theorem dX1_writeTops_1 : decode cX1_writeTops 1 = .ok (.istore_n 1, 1) := by decide +kernel
theorem dX1_writeTops_2 : decode cX1_writeTops 2 = .ok (.iload_n 1, 1) := by decide +kernel
theorem dX1_writeTops_3 : decode cX1_writeTops 3 = .ok (.aload_n 0, 1) := by decide +kernel
theorem dX1_writeTops_4 : decode cX1_writeTops 4 = .ok (.getfield 42, 3) := by decide +kernel
theorem dX1_writeTops_7 : decode cX1_writeTops 7 = .ok (.if_icmp .ge 61, 3) := by decide +kernel
theorem dX1_writeTops_10 : decode cX1_writeTops 10 = .ok (.lconst 0, 1) := by decide +kernel
theorem dX1_writeTops_11 : decode cX1_writeTops 11 = .ok (.lstore_n 2, 1) := by decide +kernel
theorem dX1_writeTops_12 : decode cX1_writeTops 12 = .ok (.iconst 0, 1) := by decide +kernel
theorem dX1_writeTops_13 : decode cX1_writeTops 13 = .ok (.istore 4, 2) := by decide +kernel
theorem dX1_writeTops_15 : decode cX1_writeTops 15 = .ok (.iload 4, 2) := by decide +kernel
theorem dX1_writeTops_17 : decode cX1_writeTops 17 = .ok (.aload_n 0, 1) := by decide +kernel
theorem dX1_writeTops_18 : decode cX1_writeTops 18 = .ok (.getfield 42, 3) := by decide +kernel
theorem dX1_writeTops_21 : decode cX1_writeTops 21 = .ok (.if_icmp .ge 34, 3) := by decide +kernel
theorem dX1_writeTops_24 : decode cX1_writeTops 24 = .ok (.lload_n 2, 1) := by decide +kernel
theorem dX1_writeTops_25 : decode cX1_writeTops 25 = .ok (.aload_n 0, 1) := by decide +kernel
theorem dX1_writeTops_26 : decode cX1_writeTops 26 = .ok (.getfield 33, 3) := by decide +kernel
theorem dX1_writeTops_29 : decode cX1_writeTops 29 = .ok (.iload_n 1, 1) := by decide +kernel
theorem dX1_writeTops_30 : decode cX1_writeTops 30 = .ok (.aaload, 1) := by decide +kernel
theorem dX1_writeTops_31 : decode cX1_writeTops 31 = .ok (.aload_n 0, 1) := by decide +kernel
theorem dX1_writeTops_32 : decode cX1_writeTops 32 = .ok (.getfield 42, 3) := by decide +kernel
theorem dX1_writeTops_35 : decode cX1_writeTops 35 = .ok (.iload 4, 2) := by decide +kernel
theorem dX1_writeTops_37 : decode cX1_writeTops 37 = .ok (.iadd, 1) := by decide +kernel
theorem dX1_writeTops_38 : decode cX1_writeTops 38 = .ok (.laload, 1) := by decide +kernel
theorem dX1_writeTops_39 : decode cX1_writeTops 39 = .ok (.aload_n 0, 1) := by decide +kernel
theorem dX1_writeTops_40 : decode cX1_writeTops 40 = .ok (.getfield 28, 3) := by decide +kernel
theorem dX1_writeTops_43 : decode cX1_writeTops 43 = .ok (.iload 4, 2) := by decide +kernel
theorem dX1_writeTops_45 : decode cX1_writeTops 45 = .ok (.laload, 1) := by decide +kernel
theorem dX1_writeTops_46 : decode cX1_writeTops 46 = .ok (.lmul, 1) := by decide +kernel
theorem dX1_writeTops_47 : decode cX1_writeTops 47 = .ok (.ladd, 1) := by decide +kernel
theorem dX1_writeTops_48 : decode cX1_writeTops 48 = .ok (.lstore_n 2, 1) := by decide +kernel
theorem dX1_writeTops_49 : decode cX1_writeTops 49 = .ok (.iinc 4 1, 3) := by decide +kernel
theorem dX1_writeTops_52 : decode cX1_writeTops 52 = .ok (.goto (-37), 3) := by decide +kernel
theorem dX1_writeTops_55 : decode cX1_writeTops 55 = .ok (.aload_n 0, 1) := by decide +kernel
theorem dX1_writeTops_56 : decode cX1_writeTops 56 = .ok (.getfield 20, 3) := by decide +kernel
theorem dX1_writeTops_59 : decode cX1_writeTops 59 = .ok (.iload_n 1, 1) := by decide +kernel
theorem dX1_writeTops_60 : decode cX1_writeTops 60 = .ok (.lload_n 2, 1) := by decide +kernel
theorem dX1_writeTops_61 : decode cX1_writeTops 61 = .ok (.lastore, 1) := by decide +kernel
theorem dX1_writeTops_62 : decode cX1_writeTops 62 = .ok (.iinc 1 1, 3) := by decide +kernel
theorem dX1_writeTops_65 : decode cX1_writeTops 65 = .ok (.goto (-63), 3) := by decide +kernel
theorem dX1_writeTops_68 : decode cX1_writeTops 68 = .ok (.return_, 1) := by decide +kernel
set_option maxRecDepth 20000 in
theorem ggX2_init_X0_init : GoodIn wsX2_init wsX0_init := goodIn_r _ [12, 13, 2, 3, 14, 15, 16, 17, 18, 19, 9, 20, 21, 22, 23, 27, 28, 29, 30, 31] (by decide +kernel) (by decide +kernel)
set_option maxRecDepth 20000 in
theorem gX2_init_X0_init : GoodIn wsX2_init (wsX0_init) := ggX2_init_X0_init
theorem dX2_init_0 : decode cX2_init 0 = .ok (.aload_n 0, 1) := by decide +kernel
theorem dX2_init_1 : decode cX2_init 1 = .ok (.invokespecial 1, 3) := by decide +kernel
theorem dX2_init_4 : decode cX2_init 4 = .ok (.aload_n 0, 1) := by decide +kernel
theorem dX2_init_5 : decode cX2_init 5 = .ok (.iconst 0, 1) := by decide +kernel
theorem dX2_init_6 : decode cX2_init 6 = .ok (.putfield 7, 3) := by decide +kernel
theorem dX2_init_9 : decode cX2_init 9 = .ok (.aload_n 0, 1) := by decide +kernel
theorem dX2_init_10 : decode cX2_init 10 = .ok (.iconst 0, 1) := by decide +kernel
theorem dX2_init_11 : decode cX2_init 11 = .ok (.putfield 13, 3) := by decide +kernel
theorem dX2_init_14 : decode cX2_init 14 = .ok (.aload_n 0, 1) := by decide +kernel
theorem dX2_init_15 : decode cX2_init 15 = .ok (.bipush 10, 2) := by decide +kernel
theorem dX2_init_17 : decode cX2_init 17 = .ok (.anewarray 16, 3) := by decide +kernel
theorem dX2_init_20 : decode cX2_init 20 = .ok (.putfield 18, 3) := by decide +kernel
theorem dX2_init_23 : decode cX2_init 23 = .ok (.iconst 0, 1) := by decide +kernel
theorem dX2_init_24 : decode cX2_init 24 = .ok (.istore_n 1, 1) := by decide +kernel
theorem dX2_init_25 : decode cX2_init 25 = .ok (.iload_n 1, 1) := by decide +kernel
theorem dX2_init_26 : decode cX2_init 26 = .ok (.bipush 10, 2) := by decide +kernel
theorem dX2_init_28 : decode cX2_init 28 = .ok (.if_icmp .ge 22, 3) := by decide +kernel
theorem dX2_init_31 : decode cX2_init 31 = .ok (.aload_n 0, 1) := by decide +kernel
theorem dX2_init_32 : decode cX2_init 32 = .ok (.getfield 18, 3) := by decide +kernel
theorem dX2_init_35 : decode cX2_init 35 = .ok (.iload_n 1, 1) := by decide +kernel
theorem dX2_init_36 : decode cX2_init 36 = .ok (.new 16, 3) := by decide +kernel
theorem dX2_init_39 : decode cX2_init 39 = .ok (.dup, 1) := by decide +kernel
theorem dX2_init_40 : decode cX2_init 40 = .ok (.invokespecial 22, 3) := by decide +kernel
theorem dX2_init_43 : decode cX2_init 43 = .ok (.aastore, 1) := by decide +kernel
theorem dX2_init_44 : decode cX2_init 44 = .ok (.iinc 1 1, 3) := by decide +kernel
theorem dX2_init_47 : decode cX2_init 47 = .ok (.goto (-22), 3) := by decide +kernel
theorem dX2_init_50 : decode cX2_init 50 = .ok (.return_, 1) := by decide +kernel
theorem dX2_forget_0 : decode cX2_forget 0 = .ok (.aload_n 0, 1) := by decide +kernel
theorem dX2_forget_1 : decode cX2_forget 1 = .ok (.iconst 0, 1) := by decide +kernel
theorem dX2_forget_2 : decode cX2_forget 2 = .ok (.putfield 7, 3) := by decide +kernel
theorem dX2_forget_5 : decode cX2_forget 5 = .ok (.return_, 1) := by decide +kernel
set_option maxRecDepth 20000 in
theorem ggX2_keep_X0_copyFrom : GoodIn wsX2_keep wsX0_copyFrom := goodIn_r _ [12, 13, 14, 15, 16, 17, 18, 19, 20, 21, 25, 26, 27, 28, 29] (by decide +kernel) (by decide +kernel)
set_option maxRecDepth 20000 in
theorem gX2_keep_X0_copyFrom : GoodIn wsX2_keep (wsV RX2 23 RX0 yX0_copyFrom wsX0_copyFrom) := goodIn_app (goodIn_of _ (by decide +kernel)) ggX2_keep_X0_copyFrom
theorem dX2_keep_0 : decode cX2_keep 0 = .ok (.aload_n 0, 1) := by decide +kernel
theorem dX2_keep_1 : decode cX2_keep 1 = .ok (.getfield 18, 3) := by decide +kernel
theorem dX2_keep_4 : decode cX2_keep 4 = .ok (.aload_n 0, 1) := by decide +kernel
theorem dX2_keep_5 : decode cX2_keep 5 = .ok (.getfield 13, 3) := by decide +kernel
theorem dX2_keep_8 : decode cX2_keep 8 = .ok (.aaload, 1) := by decide +kernel
theorem dX2_keep_9 : decode cX2_keep 9 = .ok (.aload_n 1, 1) := by decide +kernel
theorem dX2_keep_10 : decode cX2_keep 10 = .ok (.invokevirtual 23, 3) := by decide +kernel
theorem dX2_keep_13 : decode cX2_keep 13 = .ok (.aload_n 0, 1) := by decide +kernel
theorem dX2_keep_14 : decode cX2_keep 14 = .ok (.aload_n 0, 1) := by decide +kernel
theorem dX2_keep_15 : decode cX2_keep 15 = .ok (.getfield 13, 3) := by decide +kernel
theorem dX2_keep_18 : decode cX2_keep 18 = .ok (.iconst 1, 1) := by decide +kernel
theorem dX2_keep_19 : decode cX2_keep 19 = .ok (.iadd, 1) := by decide +kernel
theorem dX2_keep_20 : decode cX2_keep 20 = .ok (.bipush 10, 2) := by decide +kernel
theorem dX2_keep_22 : decode cX2_keep 22 = .ok (.if_icmp .ge 12, 3) := by decide +kernel
theorem dX2_keep_25 : decode cX2_keep 25 = .ok (.aload_n 0, 1) := by decide +kernel
theorem dX2_keep_26 : decode cX2_keep 26 = .ok (.getfield 13, 3) := by decide +kernel
theorem dX2_keep_29 : decode cX2_keep 29 = .ok (.iconst 1, 1) := by decide +kernel
theorem dX2_keep_30 : decode cX2_keep 30 = .ok (.iadd, 1) := by decide +kernel
theorem dX2_keep_31 : decode cX2_keep 31 = .ok (.goto 4, 3) := by decide +kernel
theorem dX2_keep_34 : decode cX2_keep 34 = .ok (.iconst 0, 1) := by decide +kernel
theorem dX2_keep_35 : decode cX2_keep 35 = .ok (.putfield 13, 3) := by decide +kernel
theorem dX2_keep_38 : decode cX2_keep 38 = .ok (.aload_n 0, 1) := by decide +kernel
theorem dX2_keep_39 : decode cX2_keep 39 = .ok (.aload_n 0, 1) := by decide +kernel
theorem dX2_keep_40 : decode cX2_keep 40 = .ok (.getfield 7, 3) := by decide +kernel
theorem dX2_keep_43 : decode cX2_keep 43 = .ok (.iconst 1, 1) := by decide +kernel
theorem dX2_keep_44 : decode cX2_keep 44 = .ok (.iadd, 1) := by decide +kernel
theorem dX2_keep_45 : decode cX2_keep 45 = .ok (.bipush 10, 2) := by decide +kernel
theorem dX2_keep_47 : decode cX2_keep 47 = .ok (.invokestatic 27, 3) := by decide +kernel
theorem dX2_keep_50 : decode cX2_keep 50 = .ok (.putfield 7, 3) := by decide +kernel
theorem dX2_keep_53 : decode cX2_keep 53 = .ok (.return_, 1) := by decide +kernel
set_option maxRecDepth 20000 in
theorem ggX2_giveBack_X0_copyFrom : GoodIn wsX2_giveBack wsX0_copyFrom := goodIn_r _ [8, 9, 10, 11, 12, 13, 14, 15, 16, 17, 21, 22, 23, 24, 25] (by decide +kernel) (by decide +kernel)
set_option maxRecDepth 20000 in
theorem gX2_giveBack_X0_copyFrom : GoodIn wsX2_giveBack (wsV RX2 23 RX0 yX0_copyFrom wsX0_copyFrom) := goodIn_app (goodIn_of _ (by decide +kernel)) ggX2_giveBack_X0_copyFrom
theorem dX2_giveBack_0 : decode cX2_giveBack 0 = .ok (.aload_n 0, 1) := by decide +kernel
theorem dX2_giveBack_1 : decode cX2_giveBack 1 = .ok (.getfield 7, 3) := by decide +kernel
theorem dX2_giveBack_4 : decode cX2_giveBack 4 = .ok (.ifCond .ne 5, 3) := by decide +kernel
theorem dX2_giveBack_7 : decode cX2_giveBack 7 = .ok (.iconst 0, 1) := by decide +kernel
theorem dX2_giveBack_8 : decode cX2_giveBack 8 = .ok (.ireturn, 1) := by decide +kernel
theorem dX2_giveBack_9 : decode cX2_giveBack 9 = .ok (.aload_n 0, 1) := by decide +kernel
theorem dX2_giveBack_10 : decode cX2_giveBack 10 = .ok (.aload_n 0, 1) := by decide +kernel
theorem dX2_giveBack_11 : decode cX2_giveBack 11 = .ok (.getfield 13, 3) := by decide +kernel
theorem dX2_giveBack_14 : decode cX2_giveBack 14 = .ok (.ifCond .le 12, 3) := by decide +kernel
theorem dX2_giveBack_17 : decode cX2_giveBack 17 = .ok (.aload_n 0, 1) := by decide +kernel
theorem dX2_giveBack_18 : decode cX2_giveBack 18 = .ok (.getfield 13, 3) := by decide +kernel
theorem dX2_giveBack_21 : decode cX2_giveBack 21 = .ok (.iconst 1, 1) := by decide +kernel
theorem dX2_giveBack_22 : decode cX2_giveBack 22 = .ok (.isub, 1) := by decide +kernel
theorem dX2_giveBack_23 : decode cX2_giveBack 23 = .ok (.goto 5, 3) := by decide +kernel
theorem dX2_giveBack_26 : decode cX2_giveBack 26 = .ok (.bipush 9, 2) := by decide +kernel
theorem dX2_giveBack_28 : decode cX2_giveBack 28 = .ok (.putfield 13, 3) := by decide +kernel
theorem dX2_giveBack_31 : decode cX2_giveBack 31 = .ok (.aload_n 1, 1) := by decide +kernel
theorem dX2_giveBack_32 : decode cX2_giveBack 32 = .ok (.aload_n 0, 1) := by decide +kernel
theorem dX2_giveBack_33 : decode cX2_giveBack 33 = .ok (.getfield 18, 3) := by decide +kernel
theorem dX2_giveBack_36 : decode cX2_giveBack 36 = .ok (.aload_n 0, 1) := by decide +kernel
theorem dX2_giveBack_37 : decode cX2_giveBack 37 = .ok (.getfield 13, 3) := by decide +kernel
theorem dX2_giveBack_40 : decode cX2_giveBack 40 = .ok (.aaload, 1) := by decide +kernel
theorem dX2_giveBack_41 : decode cX2_giveBack 41 = .ok (.invokevirtual 23, 3) := by decide +kernel
theorem dX2_giveBack_44 : decode cX2_giveBack 44 = .ok (.aload_n 0, 1) := by decide +kernel
theorem dX2_giveBack_45 : decode cX2_giveBack 45 = .ok (.dup, 1) := by decide +kernel
theorem dX2_giveBack_46 : decode cX2_giveBack 46 = .ok (.getfield 7, 3) := by decide +kernel
theorem dX2_giveBack_49 : decode cX2_giveBack 49 = .ok (.iconst 1, 1) := by decide +kernel
theorem dX2_giveBack_50 : decode cX2_giveBack 50 = .ok (.isub, 1) := by decide +kernel
theorem dX2_giveBack_51 : decode cX2_giveBack 51 = .ok (.putfield 7, 3) := by decide +kernel
theorem dX2_giveBack_54 : decode cX2_giveBack 54 = .ok (.iconst 1, 1) := by decide +kernel
theorem dX2_giveBack_55 : decode cX2_giveBack 55 = .ok (.ireturn, 1) := by decide +kernel
set_option maxRecDepth 20000 in
theorem ggX3_init_X0_init : GoodIn wsX3_init wsX0_init := goodIn_r _ [12, 13, 2, 3, 14, 15, 16, 17, 18, 19, 6, 20, 21, 22, 23, 24, 25, 26, 27, 28] (by decide +kernel) (by decide +kernel)
set_option maxRecDepth 20000 in
theorem gX3_init_X0_init : GoodIn wsX3_init (wsX0_init) := ggX3_init_X0_init
theorem dX3_init_0 : decode cX3_init 0 = .ok (.aload_n 0, 1) := by decide +kernel
theorem dX3_init_1 : decode cX3_init 1 = .ok (.invokespecial 3, 3) := by decide +kernel
theorem dX3_init_4 : decode cX3_init 4 = .ok (.aload_n 0, 1) := by decide +kernel
theorem dX3_init_5 : decode cX3_init 5 = .ok (.new 9, 3) := by decide +kernel
theorem dX3_init_8 : decode cX3_init 8 = .ok (.dup, 1) := by decide +kernel
theorem dX3_init_9 : decode cX3_init 9 = .ok (.invokespecial 11, 3) := by decide +kernel
theorem dX3_init_12 : decode cX3_init 12 = .ok (.putfield 12, 3) := by decide +kernel
theorem dX3_init_15 : decode cX3_init 15 = .ok (.aload_n 0, 1) := by decide +kernel
theorem dX3_init_16 : decode cX3_init 16 = .ok (.sipush 540, 3) := by decide +kernel
theorem dX3_init_19 : decode cX3_init 19 = .ok (.newarray .byte, 2) := by decide +kernel
theorem dX3_init_21 : decode cX3_init 21 = .ok (.putfield 18, 3) := by decide +kernel
theorem dX3_init_24 : decode cX3_init 24 = .ok (.return_, 1) := by decide +kernel
theorem dX3_hasRoom_0 : decode cX3_hasRoom 0 = .ok (.aload_n 0, 1) := by decide +kernel
theorem dX3_hasRoom_1 : decode cX3_hasRoom 1 = .ok (.getfield 22, 3) := by decide +kernel
theorem dX3_hasRoom_4 : decode cX3_hasRoom 4 = .ok (.iload_n 1, 1) := by decide +kernel
theorem dX3_hasRoom_5 : decode cX3_hasRoom 5 = .ok (.iadd, 1) := by decide +kernel
theorem dX3_hasRoom_6 : decode cX3_hasRoom 6 = .ok (.sipush 540, 3) := by decide +kernel
theorem dX3_hasRoom_9 : decode cX3_hasRoom 9 = .ok (.if_icmp .gt 7, 3) := by decide +kernel
theorem dX3_hasRoom_12 : decode cX3_hasRoom 12 = .ok (.iconst 1, 1) := by decide +kernel
theorem dX3_hasRoom_13 : decode cX3_hasRoom 13 = .ok (.goto 4, 3) := by decide +kernel
theorem dX3_hasRoom_16 : decode cX3_hasRoom 16 = .ok (.iconst 0, 1) := by decide +kernel
theorem dX3_hasRoom_17 : decode cX3_hasRoom 17 = .ok (.ireturn, 1) := by decide +kernel
set_option maxRecDepth 20000 in
theorem ggX3_addNumber_X3_hasRoom : GoodIn wsX3_addNumber wsX3_hasRoom := goodIn_r _ [7, 2, 8, 9, 10, 11, 12, 13, 14, 15, 16, 17, 18] (by decide +kernel) (by decide +kernel)
set_option maxRecDepth 20000 in
theorem gX3_addNumber_X3_hasRoom : GoodIn wsX3_addNumber (wsV RX3 26 RX3 yX3_hasRoom wsX3_hasRoom) := goodIn_app (goodIn_of _ (by decide +kernel)) ggX3_addNumber_X3_hasRoom
theorem dX3_addNumber_0 : decode cX3_addNumber 0 = .ok (.bipush 24, 2) := by decide +kernel
theorem dX3_addNumber_2 : decode cX3_addNumber 2 = .ok (.istore_n 2, 1) := by decide +kernel
theorem dX3_addNumber_3 : decode cX3_addNumber 3 = .ok (.iload_n 2, 1) := by decide +kernel
theorem dX3_addNumber_4 : decode cX3_addNumber 4 = .ok (.ifCond .lt 40, 3) := by decide +kernel
theorem dX3_addNumber_7 : decode cX3_addNumber 7 = .ok (.aload_n 0, 1) := by decide +kernel
theorem dX3_addNumber_8 : decode cX3_addNumber 8 = .ok (.iconst 1, 1) := by decide +kernel
theorem dX3_addNumber_9 : decode cX3_addNumber 9 = .ok (.invokevirtual 26, 3) := by decide +kernel
theorem dX3_addNumber_12 : decode cX3_addNumber 12 = .ok (.ifCond .eq 26, 3) := by decide +kernel
theorem dX3_addNumber_15 : decode cX3_addNumber 15 = .ok (.aload_n 0, 1) := by decide +kernel
theorem dX3_addNumber_16 : decode cX3_addNumber 16 = .ok (.getfield 18, 3) := by decide +kernel
theorem dX3_addNumber_19 : decode cX3_addNumber 19 = .ok (.aload_n 0, 1) := by decide +kernel
theorem dX3_addNumber_20 : decode cX3_addNumber 20 = .ok (.getfield 22, 3) := by decide +kernel
theorem dX3_addNumber_23 : decode cX3_addNumber 23 = .ok (.iload_n 1, 1) := by decide +kernel
theorem dX3_addNumber_24 : decode cX3_addNumber 24 = .ok (.iload_n 2, 1) := by decide +kernel
theorem dX3_addNumber_25 : decode cX3_addNumber 25 = .ok (.ishr, 1) := by decide +kernel
theorem dX3_addNumber_26 : decode cX3_addNumber 26 = .ok (.i2b, 1) := by decide +kernel
theorem dX3_addNumber_27 : decode cX3_addNumber 27 = .ok (.bastore, 1) := by decide +kernel
theorem dX3_addNumber_28 : decode cX3_addNumber 28 = .ok (.aload_n 0, 1) := by decide +kernel
theorem dX3_addNumber_29 : decode cX3_addNumber 29 = .ok (.dup, 1) := by decide +kernel
theorem dX3_addNumber_30 : decode cX3_addNumber 30 = .ok (.getfield 22, 3) := by decide +kernel
theorem dX3_addNumber_33 : decode cX3_addNumber 33 = .ok (.iconst 1, 1) := by decide +kernel
theorem dX3_addNumber_34 : decode cX3_addNumber 34 = .ok (.iadd, 1) := by decide +kernel
theorem dX3_addNumber_35 : decode cX3_addNumber 35 = .ok (.putfield 22, 3) := by decide +kernel
theorem dX3_addNumber_38 : decode cX3_addNumber 38 = .ok (.iinc 2 (-8), 3) := by decide +kernel
theorem dX3_addNumber_41 : decode cX3_addNumber 41 = .ok (.goto (-38), 3) := by decide +kernel
theorem dX3_addNumber_44 : decode cX3_addNumber 44 = .ok (.return_, 1) := by decide +kernel
set_option maxRecDepth 20000 in
theorem ggX3_read_X0_reset : GoodIn wsX3_read wsX0_reset := goodIn_r _ [11, 12, 13, 14, 15, 16, 187, 188, 189, 190, 191] (by decide +kernel) (by decide +kernel)
set_option maxRecDepth 20000 in
theorem gX3_read_X0_reset : GoodIn wsX3_read (wsV RX3 30 RX0 yX0_reset wsX0_reset) := goodIn_app (goodIn_of _ (by decide +kernel)) ggX3_read_X0_reset
set_option maxRecDepth 20000 in
theorem ggX3_read_X3_step : GoodIn wsX3_read wsX3_step := goodIn_r _ [21, 3, 22, 23, 6, 24, 25, 26, 27, 28, 29, 30, 31, 20, 32, 33, 34, 35, 36, 37, 38, 39, 40, 41, 42, 43, 44, 45, 46, 47, 48, 49, 50, 51, 52, 53, 54, 55, 56, 57, 58, 59, 60, 61, 62, 63, 64, 65, 66, 67, 68, 69, 70, 71, 72, 73, 74, 75, 76, 77, 78, 79, 80, 81, 82, 83, 84, 85, 86, 87, 88, 89, 90, 91, 92, 93, 94, 95, 96, 97, 98, 99, 100, 176, 177, 178, 179, 180, 181, 182, 183, 184, 185, 186] (by decide +kernel) (by decide +kernel)
set_option maxRecDepth 20000 in
theorem gX3_read_X3_step : GoodIn wsX3_read (wsV RX3 49 RX3 yX3_step wsX3_step) := goodIn_app (goodIn_of _ (by decide +kernel)) ggX3_read_X3_step
set_option maxRecDepth 20000 in
theorem ggX3_read_X3_take : GoodIn wsX3_read wsX3_take := goodIn_r _ [104, 6, 4, 2, 23, 105, 106, 107, 20, 108, 1, 109, 110, 111, 112, 113, 114, 115, 116, 117, 118, 119, 120, 121, 10, 122, 13, 123, 124, 125, 126, 127, 128, 129, 130, 43, 131, 132, 133, 134, 135, 136, 137, 138, 139, 140, 141, 12, 142, 143, 144, 145, 146, 147, 148, 149, 150, 151, 152, 153, 154, 155, 156, 157, 16, 158, 159, 160, 161, 162, 163, 164, 165, 166, 167, 168, 169, 170, 171, 172, 173, 174, 14, 175, 176, 177, 178, 179, 180, 181, 182, 183, 184, 185, 186, 187, 188, 189, 190, 191] (by decide +kernel) (by decide +kernel)
set_option maxRecDepth 20000 in
theorem gX3_read_X3_take : GoodIn wsX3_read (wsV RX3 52 RX3 yX3_take wsX3_take) := goodIn_app (goodIn_of _ (by decide +kernel)) ggX3_read_X3_take
theorem dX3_read_0 : decode cX3_read 0 = .ok (.aload_n 0, 1) := by decide +kernel
theorem dX3_read_1 : decode cX3_read 1 = .ok (.getfield 12, 3) := by decide +kernel
theorem dX3_read_4 : decode cX3_read 4 = .ok (.iconst 2, 1) := by decide +kernel
theorem dX3_read_5 : decode cX3_read 5 = .ok (.invokevirtual 30, 3) := by decide +kernel
theorem dX3_read_8 : decode cX3_read 8 = .ok (.aload_n 0, 1) := by decide +kernel
theorem dX3_read_9 : decode cX3_read 9 = .ok (.iconst 0, 1) := by decide +kernel
theorem dX3_read_10 : decode cX3_read 10 = .ok (.putfield 34, 3) := by decide +kernel
theorem dX3_read_13 : decode cX3_read 13 = .ok (.aload_n 0, 1) := by decide +kernel
theorem dX3_read_14 : decode cX3_read 14 = .ok (.iconst 0, 1) := by decide +kernel
theorem dX3_read_15 : decode cX3_read 15 = .ok (.putfield 37, 3) := by decide +kernel
theorem dX3_read_18 : decode cX3_read 18 = .ok (.aload_n 0, 1) := by decide +kernel
theorem dX3_read_19 : decode cX3_read 19 = .ok (.iconst 0, 1) := by decide +kernel
theorem dX3_read_20 : decode cX3_read 20 = .ok (.putfield 40, 3) := by decide +kernel
theorem dX3_read_23 : decode cX3_read 23 = .ok (.aload_n 0, 1) := by decide +kernel
theorem dX3_read_24 : decode cX3_read 24 = .ok (.iconst 0, 1) := by decide +kernel
theorem dX3_read_25 : decode cX3_read 25 = .ok (.putfield 43, 3) := by decide +kernel
theorem dX3_read_28 : decode cX3_read 28 = .ok (.aload_n 0, 1) := by decide +kernel
theorem dX3_read_29 : decode cX3_read 29 = .ok (.iconst 1, 1) := by decide +kernel
theorem dX3_read_30 : decode cX3_read 30 = .ok (.putfield 46, 3) := by decide +kernel
theorem dX3_read_33 : decode cX3_read 33 = .ok (.iconst 0, 1) := by decide +kernel
theorem dX3_read_34 : decode cX3_read 34 = .ok (.istore_n 1, 1) := by decide +kernel
theorem dX3_read_35 : decode cX3_read 35 = .ok (.iload_n 1, 1) := by decide +kernel
theorem dX3_read_36 : decode cX3_read 36 = .ok (.sipush 500, 3) := by decide +kernel
theorem dX3_read_39 : decode cX3_read 39 = .ok (.if_icmp .gt 35, 3) := by decide +kernel
theorem dX3_read_42 : decode cX3_read 42 = .ok (.aload_n 0, 1) := by decide +kernel
theorem dX3_read_43 : decode cX3_read 43 = .ok (.getfield 46, 3) := by decide +kernel
theorem dX3_read_46 : decode cX3_read 46 = .ok (.ifCond .eq 28, 3) := by decide +kernel
theorem dX3_read_49 : decode cX3_read 49 = .ok (.aload_n 0, 1) := by decide +kernel
theorem dX3_read_50 : decode cX3_read 50 = .ok (.getfield 43, 3) := by decide +kernel
theorem dX3_read_53 : decode cX3_read 53 = .ok (.ifCond .ne 21, 3) := by decide +kernel
theorem dX3_read_56 : decode cX3_read 56 = .ok (.aload_n 0, 1) := by decide +kernel
theorem dX3_read_57 : decode cX3_read 57 = .ok (.invokevirtual 49, 3) := by decide +kernel
theorem dX3_read_60 : decode cX3_read 60 = .ok (.aload_n 0, 1) := by decide +kernel
theorem dX3_read_61 : decode cX3_read 61 = .ok (.aload_n 0, 1) := by decide +kernel
theorem dX3_read_62 : decode cX3_read 62 = .ok (.invokevirtual 52, 3) := by decide +kernel
theorem dX3_read_65 : decode cX3_read 65 = .ok (.putfield 43, 3) := by decide +kernel
theorem dX3_read_68 : decode cX3_read 68 = .ok (.iinc 1 1, 3) := by decide +kernel
theorem dX3_read_71 : decode cX3_read 71 = .ok (.goto (-36), 3) := by decide +kernel
theorem dX3_read_74 : decode cX3_read 74 = .ok (.aload_n 0, 1) := by decide +kernel
theorem dX3_read_75 : decode cX3_read 75 = .ok (.getfield 43, 3) := by decide +kernel
theorem dX3_read_78 : decode cX3_read 78 = .ok (.ifCond .ne 7, 3) := by decide +kernel
theorem dX3_read_81 : decode cX3_read 81 = .ok (.iconst 1, 1) := by decide +kernel
theorem dX3_read_82 : decode cX3_read 82 = .ok (.goto 4, 3) := by decide +kernel
theorem dX3_read_85 : decode cX3_read 85 = .ok (.iconst 0, 1) := by decide +kernel
theorem dX3_read_86 : decode cX3_read 86 = .ok (.ireturn, 1) := by decide +kernel
set_option maxRecDepth 20000 in
theorem ggX3_take_X3_takeWord : GoodIn wsX3_take wsX3_takeWord := goodIn_r _ [9, 3, 1, 10, 11, 12, 13, 14, 15, 8, 16, 2, 17, 18, 19, 20, 21, 22, 23, 24, 25, 26, 84, 85, 86, 87, 88, 89, 90, 91, 92, 93, 94, 95, 96, 97, 98, 99] (by decide +kernel) (by decide +kernel)
set_option maxRecDepth 20000 in
theorem gX3_take_X3_takeWord : GoodIn wsX3_take (wsV RX3 56 RX3 yX3_takeWord wsX3_takeWord) := goodIn_app (goodIn_of _ (by decide +kernel)) ggX3_take_X3_takeWord
set_option maxRecDepth 20000 in
theorem ggX3_take_X3_takeSemicolon : GoodIn wsX3_take wsX3_takeSemicolon := goodIn_r _ [30, 1, 3, 13, 14, 15, 8, 16, 2, 84, 85, 86, 87, 88, 89, 90, 91, 92, 93, 94] (by decide +kernel) (by decide +kernel)
set_option maxRecDepth 20000 in
theorem gX3_take_X3_takeSemicolon : GoodIn wsX3_take (wsV RX3 59 RX3 yX3_takeSemicolon wsX3_takeSemicolon) := goodIn_app (goodIn_of _ (by decide +kernel)) ggX3_take_X3_takeSemicolon
set_option maxRecDepth 20000 in
theorem ggX3_take_X3_takeMonths : GoodIn wsX3_take wsX3_takeMonths := goodIn_r _ [34, 35, 10, 36, 13, 14, 15, 8, 16, 2, 84, 85, 86, 87, 88, 89, 90, 91, 92, 93, 94, 95, 96, 97, 98, 99] (by decide +kernel) (by decide +kernel)
set_option maxRecDepth 20000 in
theorem gX3_take_X3_takeMonths : GoodIn wsX3_take (wsV RX3 62 RX3 yX3_takeMonths wsX3_takeMonths) := goodIn_app (goodIn_of _ (by decide +kernel)) ggX3_take_X3_takeMonths
set_option maxRecDepth 20000 in
theorem ggX3_take_X3_takeGap : GoodIn wsX3_take wsX3_takeGap := goodIn_r _ [40, 10, 35, 41, 42, 43, 44, 45, 24, 46, 47, 13, 14, 15, 8, 16, 2, 84, 85, 86, 87, 88, 89, 90, 91, 92, 93, 94, 95, 96, 97, 98, 99] (by decide +kernel) (by decide +kernel)
set_option maxRecDepth 20000 in
theorem gX3_take_X3_takeGap : GoodIn wsX3_take (wsV RX3 65 RX3 yX3_takeGap wsX3_takeGap) := goodIn_app (goodIn_of _ (by decide +kernel)) ggX3_take_X3_takeGap
set_option maxRecDepth 20000 in
theorem ggX3_take_X3_takeWeight : GoodIn wsX3_take wsX3_takeWeight := goodIn_r _ [51, 35, 10, 42, 41, 43, 44, 45, 24, 46, 47, 13, 14, 15, 8, 16, 2, 84, 85, 86, 87, 88, 89, 90, 91, 92, 93, 94, 95, 96, 97, 98, 99] (by decide +kernel) (by decide +kernel)
set_option maxRecDepth 20000 in
theorem gX3_take_X3_takeWeight : GoodIn wsX3_take (wsV RX3 68 RX3 yX3_takeWeight wsX3_takeWeight) := goodIn_app (goodIn_of _ (by decide +kernel)) ggX3_take_X3_takeWeight
set_option maxRecDepth 20000 in
theorem ggX3_take_X3_takeMonth : GoodIn wsX3_take wsX3_takeMonth := goodIn_r _ [55, 10, 35, 11, 42, 56, 57, 58, 24, 59, 47, 60, 61, 62, 63, 64, 65, 66, 67, 68, 26, 69, 13, 14, 15, 8, 16, 2, 84, 85, 86, 87, 88, 89, 90, 91, 92, 93, 94, 95, 96, 97, 98, 99] (by decide +kernel) (by decide +kernel)
set_option maxRecDepth 20000 in
theorem gX3_take_X3_takeMonth : GoodIn wsX3_take (wsV RX3 71 RX3 yX3_takeMonth wsX3_takeMonth) := goodIn_app (goodIn_of _ (by decide +kernel)) ggX3_take_X3_takeMonth
set_option maxRecDepth 20000 in
theorem ggX3_take_X3_takeLevel : GoodIn wsX3_take wsX3_takeLevel := goodIn_r _ [73, 10, 11, 42, 35, 74, 75, 76, 24, 77, 64, 65, 66, 67, 68, 26, 69, 57, 58, 59, 47, 78, 79, 80, 81, 82, 83, 13, 14, 15, 8, 16, 2, 84, 85, 86, 87, 88, 89, 90, 91, 92, 93, 94, 95, 96, 97, 98, 99] (by decide +kernel) (by decide +kernel)
set_option maxRecDepth 20000 in
theorem gX3_take_X3_takeLevel : GoodIn wsX3_take (wsV RX3 74 RX3 yX3_takeLevel wsX3_takeLevel) := goodIn_app (goodIn_of _ (by decide +kernel)) ggX3_take_X3_takeLevel
theorem dX3_take_0 : decode cX3_take 0 = .ok (.aload_n 0, 1) := by decide +kernel
theorem dX3_take_1 : decode cX3_take 1 = .ok (.getfield 46, 3) := by decide +kernel
theorem dX3_take_4 : decode cX3_take 4 = .ok (.ifCond .ne 33, 3) := by decide +kernel
theorem dX3_take_7 : decode cX3_take 7 = .ok (.aload_n 0, 1) := by decide +kernel
theorem dX3_take_8 : decode cX3_take 8 = .ok (.getfield 40, 3) := by decide +kernel
theorem dX3_take_11 : decode cX3_take 11 = .ok (.ifCond .ne 24, 3) := by decide +kernel
theorem dX3_take_14 : decode cX3_take 14 = .ok (.aload_n 0, 1) := by decide +kernel
theorem dX3_take_15 : decode cX3_take 15 = .ok (.getfield 34, 3) := by decide +kernel
theorem dX3_take_18 : decode cX3_take 18 = .ok (.ifCond .le 17, 3) := by decide +kernel
theorem dX3_take_21 : decode cX3_take 21 = .ok (.aload_n 0, 1) := by decide +kernel
theorem dX3_take_22 : decode cX3_take 22 = .ok (.getfield 22, 3) := by decide +kernel
theorem dX3_take_25 : decode cX3_take 25 = .ok (.sipush 500, 3) := by decide +kernel
theorem dX3_take_28 : decode cX3_take 28 = .ok (.if_icmp .gt 7, 3) := by decide +kernel
theorem dX3_take_31 : decode cX3_take 31 = .ok (.iconst 0, 1) := by decide +kernel
theorem dX3_take_32 : decode cX3_take 32 = .ok (.goto 4, 3) := by decide +kernel
theorem dX3_take_35 : decode cX3_take 35 = .ok (.iconst 1, 1) := by decide +kernel
theorem dX3_take_36 : decode cX3_take 36 = .ok (.ireturn, 1) := by decide +kernel
theorem dX3_take_37 : decode cX3_take 37 = .ok (.aload_n 0, 1) := by decide +kernel
theorem dX3_take_38 : decode cX3_take 38 = .ok (.getfield 40, 3) := by decide +kernel
theorem dX3_take_41 : decode cX3_take 41 = .ok (.ifCond .ne 8, 3) := by decide +kernel
theorem dX3_take_44 : decode cX3_take 44 = .ok (.aload_n 0, 1) := by decide +kernel
theorem dX3_take_45 : decode cX3_take 45 = .ok (.invokevirtual 56, 3) := by decide +kernel
theorem dX3_take_48 : decode cX3_take 48 = .ok (.ireturn, 1) := by decide +kernel
theorem dX3_take_49 : decode cX3_take 49 = .ok (.aload_n 0, 1) := by decide +kernel
theorem dX3_take_50 : decode cX3_take 50 = .ok (.getfield 40, 3) := by decide +kernel
theorem dX3_take_53 : decode cX3_take 53 = .ok (.bipush 6, 2) := by decide +kernel
theorem dX3_take_55 : decode cX3_take 55 = .ok (.if_icmp .ne 8, 3) := by decide +kernel
theorem dX3_take_58 : decode cX3_take 58 = .ok (.aload_n 0, 1) := by decide +kernel
theorem dX3_take_59 : decode cX3_take 59 = .ok (.invokevirtual 59, 3) := by decide +kernel
theorem dX3_take_62 : decode cX3_take 62 = .ok (.ireturn, 1) := by decide +kernel
theorem dX3_take_63 : decode cX3_take 63 = .ok (.aload_n 0, 1) := by decide +kernel
theorem dX3_take_64 : decode cX3_take 64 = .ok (.getfield 46, 3) := by decide +kernel
theorem dX3_take_67 : decode cX3_take 67 = .ok (.iconst 2, 1) := by decide +kernel
theorem dX3_take_68 : decode cX3_take 68 = .ok (.if_icmp .eq 5, 3) := by decide +kernel
theorem dX3_take_71 : decode cX3_take 71 = .ok (.iconst 1, 1) := by decide +kernel
theorem dX3_take_72 : decode cX3_take 72 = .ok (.ireturn, 1) := by decide +kernel
theorem dX3_take_73 : decode cX3_take 73 = .ok (.aload_n 0, 1) := by decide +kernel
theorem dX3_take_74 : decode cX3_take 74 = .ok (.getfield 40, 3) := by decide +kernel
theorem dX3_take_77 : decode cX3_take 77 = .ok (.tableswitch 51 1 4 #[31, 36, 41, 46], 31) := by decide +kernel
theorem dX3_take_108 : decode cX3_take 108 = .ok (.aload_n 0, 1) := by decide +kernel
theorem dX3_take_109 : decode cX3_take 109 = .ok (.invokevirtual 62, 3) := by decide +kernel
theorem dX3_take_112 : decode cX3_take 112 = .ok (.ireturn, 1) := by decide +kernel
theorem dX3_take_113 : decode cX3_take 113 = .ok (.aload_n 0, 1) := by decide +kernel
theorem dX3_take_114 : decode cX3_take 114 = .ok (.invokevirtual 65, 3) := by decide +kernel
theorem dX3_take_117 : decode cX3_take 117 = .ok (.ireturn, 1) := by decide +kernel
theorem dX3_take_118 : decode cX3_take 118 = .ok (.aload_n 0, 1) := by decide +kernel
theorem dX3_take_119 : decode cX3_take 119 = .ok (.invokevirtual 68, 3) := by decide +kernel
theorem dX3_take_122 : decode cX3_take 122 = .ok (.ireturn, 1) := by decide +kernel
theorem dX3_take_123 : decode cX3_take 123 = .ok (.aload_n 0, 1) := by decide +kernel
theorem dX3_take_124 : decode cX3_take 124 = .ok (.invokevirtual 71, 3) := by decide +kernel
theorem dX3_take_127 : decode cX3_take 127 = .ok (.ireturn, 1) := by decide +kernel
theorem dX3_take_128 : decode cX3_take 128 = .ok (.aload_n 0, 1) := by decide +kernel
theorem dX3_take_129 : decode cX3_take 129 = .ok (.invokevirtual 74, 3) := by decide +kernel
theorem dX3_take_132 : decode cX3_take 132 = .ok (.ireturn, 1) := by decide +kernel
set_option maxRecDepth 20000 in
theorem ggX3_takeWord_X3_goOn : GoodIn wsX3_takeWord wsX3_goOn := goodIn_r _ [10, 11, 22, 23, 24, 25, 26, 27, 28, 29, 30, 31, 32] (by decide +kernel) (by decide +kernel)
set_option maxRecDepth 20000 in
theorem gX3_takeWord_X3_goOn : GoodIn wsX3_takeWord (wsV RX3 77 RX3 yX3_goOn wsX3_goOn) := goodIn_app (goodIn_of _ (by decide +kernel)) ggX3_takeWord_X3_goOn
set_option maxRecDepth 20000 in
theorem ggX3_takeWord_X3_takeHome : GoodIn wsX3_takeWord wsX3_takeHome := goodIn_r _ [15, 3, 4, 16, 17, 18, 19, 20, 21, 6, 7, 8, 9, 10, 11, 22, 23, 24, 25, 26, 27, 28, 29, 30, 31, 32, 33, 34, 35, 36, 37] (by decide +kernel) (by decide +kernel)
set_option maxRecDepth 20000 in
theorem gX3_takeWord_X3_takeHome : GoodIn wsX3_takeWord (wsV RX3 84 RX3 yX3_takeHome wsX3_takeHome) := goodIn_app (goodIn_of _ (by decide +kernel)) ggX3_takeWord_X3_takeHome
theorem dX3_takeWord_0 : decode cX3_takeWord 0 = .ok (.aload_n 0, 1) := by decide +kernel
theorem dX3_takeWord_1 : decode cX3_takeWord 1 = .ok (.getfield 34, 3) := by decide +kernel
theorem dX3_takeWord_4 : decode cX3_takeWord 4 = .ok (.ifCond .ne 7, 3) := by decide +kernel
theorem dX3_takeWord_7 : decode cX3_takeWord 7 = .ok (.iconst 1, 1) := by decide +kernel
theorem dX3_takeWord_8 : decode cX3_takeWord 8 = .ok (.goto 4, 3) := by decide +kernel
theorem dX3_takeWord_11 : decode cX3_takeWord 11 = .ok (.iconst 0, 1) := by decide +kernel
theorem dX3_takeWord_12 : decode cX3_takeWord 12 = .ok (.istore_n 1, 1) := by decide +kernel
theorem dX3_takeWord_13 : decode cX3_takeWord 13 = .ok (.aload_n 0, 1) := by decide +kernel
theorem dX3_takeWord_14 : decode cX3_takeWord 14 = .ok (.getfield 46, 3) := by decide +kernel
theorem dX3_takeWord_17 : decode cX3_takeWord 17 = .ok (.iconst 4, 1) := by decide +kernel
theorem dX3_takeWord_18 : decode cX3_takeWord 18 = .ok (.if_icmp .ne 13, 3) := by decide +kernel
theorem dX3_takeWord_21 : decode cX3_takeWord 21 = .ok (.iload_n 1, 1) := by decide +kernel
theorem dX3_takeWord_22 : decode cX3_takeWord 22 = .ok (.ifCond .eq 9, 3) := by decide +kernel
theorem dX3_takeWord_25 : decode cX3_takeWord 25 = .ok (.aload_n 0, 1) := by decide +kernel
theorem dX3_takeWord_26 : decode cX3_takeWord 26 = .ok (.iconst 1, 1) := by decide +kernel
theorem dX3_takeWord_27 : decode cX3_takeWord 27 = .ok (.invokevirtual 77, 3) := by decide +kernel
theorem dX3_takeWord_30 : decode cX3_takeWord 30 = .ok (.ireturn, 1) := by decide +kernel
theorem dX3_takeWord_31 : decode cX3_takeWord 31 = .ok (.aload_n 0, 1) := by decide +kernel
theorem dX3_takeWord_32 : decode cX3_takeWord 32 = .ok (.getfield 46, 3) := by decide +kernel
theorem dX3_takeWord_35 : decode cX3_takeWord 35 = .ok (.iconst 5, 1) := by decide +kernel
theorem dX3_takeWord_36 : decode cX3_takeWord 36 = .ok (.if_icmp .ne 23, 3) := by decide +kernel
theorem dX3_takeWord_39 : decode cX3_takeWord 39 = .ok (.iload_n 1, 1) := by decide +kernel
theorem dX3_takeWord_40 : decode cX3_takeWord 40 = .ok (.ifCond .ne 19, 3) := by decide +kernel
theorem dX3_takeWord_43 : decode cX3_takeWord 43 = .ok (.aload_n 0, 1) := by decide +kernel
theorem dX3_takeWord_44 : decode cX3_takeWord 44 = .ok (.getfield 12, 3) := by decide +kernel
theorem dX3_takeWord_47 : decode cX3_takeWord 47 = .ok (.getfield 81, 3) := by decide +kernel
theorem dX3_takeWord_50 : decode cX3_takeWord 50 = .ok (.ifCond .ne 9, 3) := by decide +kernel
theorem dX3_takeWord_53 : decode cX3_takeWord 53 = .ok (.aload_n 0, 1) := by decide +kernel
theorem dX3_takeWord_54 : decode cX3_takeWord 54 = .ok (.iconst 2, 1) := by decide +kernel
theorem dX3_takeWord_55 : decode cX3_takeWord 55 = .ok (.invokevirtual 77, 3) := by decide +kernel
theorem dX3_takeWord_58 : decode cX3_takeWord 58 = .ok (.ireturn, 1) := by decide +kernel
theorem dX3_takeWord_59 : decode cX3_takeWord 59 = .ok (.aload_n 0, 1) := by decide +kernel
theorem dX3_takeWord_60 : decode cX3_takeWord 60 = .ok (.getfield 46, 3) := by decide +kernel
theorem dX3_takeWord_63 : decode cX3_takeWord 63 = .ok (.bipush 6, 2) := by decide +kernel
theorem dX3_takeWord_65 : decode cX3_takeWord 65 = .ok (.if_icmp .ne 12, 3) := by decide +kernel
theorem dX3_takeWord_68 : decode cX3_takeWord 68 = .ok (.iload_n 1, 1) := by decide +kernel
theorem dX3_takeWord_69 : decode cX3_takeWord 69 = .ok (.ifCond .ne 8, 3) := by decide +kernel
theorem dX3_takeWord_72 : decode cX3_takeWord 72 = .ok (.aload_n 0, 1) := by decide +kernel
theorem dX3_takeWord_73 : decode cX3_takeWord 73 = .ok (.invokevirtual 84, 3) := by decide +kernel
theorem dX3_takeWord_76 : decode cX3_takeWord 76 = .ok (.ireturn, 1) := by decide +kernel
theorem dX3_takeWord_77 : decode cX3_takeWord 77 = .ok (.aload_n 0, 1) := by decide +kernel
theorem dX3_takeWord_78 : decode cX3_takeWord 78 = .ok (.getfield 46, 3) := by decide +kernel
theorem dX3_takeWord_81 : decode cX3_takeWord 81 = .ok (.bipush 7, 2) := by decide +kernel
theorem dX3_takeWord_83 : decode cX3_takeWord 83 = .ok (.if_icmp .ne 35, 3) := by decide +kernel
theorem dX3_takeWord_86 : decode cX3_takeWord 86 = .ok (.aload_n 0, 1) := by decide +kernel
theorem dX3_takeWord_87 : decode cX3_takeWord 87 = .ok (.getfield 12, 3) := by decide +kernel
theorem dX3_takeWord_90 : decode cX3_takeWord 90 = .ok (.getfield 81, 3) := by decide +kernel
theorem dX3_takeWord_93 : decode cX3_takeWord 93 = .ok (.ifCond .le 25, 3) := by decide +kernel
theorem dX3_takeWord_96 : decode cX3_takeWord 96 = .ok (.aload_n 0, 1) := by decide +kernel
theorem dX3_takeWord_97 : decode cX3_takeWord 97 = .ok (.getfield 12, 3) := by decide +kernel
theorem dX3_takeWord_100 : decode cX3_takeWord 100 = .ok (.getfield 87, 3) := by decide +kernel
theorem dX3_takeWord_103 : decode cX3_takeWord 103 = .ok (.bipush 18, 2) := by decide +kernel
theorem dX3_takeWord_105 : decode cX3_takeWord 105 = .ok (.if_icmp .ge 11, 3) := by decide +kernel
theorem dX3_takeWord_108 : decode cX3_takeWord 108 = .ok (.aload_n 0, 1) := by decide +kernel
theorem dX3_takeWord_109 : decode cX3_takeWord 109 = .ok (.iconst 4, 1) := by decide +kernel
theorem dX3_takeWord_110 : decode cX3_takeWord 110 = .ok (.invokevirtual 77, 3) := by decide +kernel
theorem dX3_takeWord_113 : decode cX3_takeWord 113 = .ok (.goto 4, 3) := by decide +kernel
theorem dX3_takeWord_116 : decode cX3_takeWord 116 = .ok (.iconst 3, 1) := by decide +kernel
theorem dX3_takeWord_117 : decode cX3_takeWord 117 = .ok (.ireturn, 1) := by decide +kernel
theorem dX3_takeWord_118 : decode cX3_takeWord 118 = .ok (.iconst 1, 1) := by decide +kernel
theorem dX3_takeWord_119 : decode cX3_takeWord 119 = .ok (.ireturn, 1) := by decide +kernel
set_option maxRecDepth 20000 in
theorem ggX3_takeHome_X0_addHome : GoodIn wsX3_takeHome wsX0_addHome := goodIn_r _ [7, 8, 26, 27, 28, 29, 30] (by decide +kernel) (by decide +kernel)
set_option maxRecDepth 20000 in
theorem gX3_takeHome_X0_addHome : GoodIn wsX3_takeHome (wsV RX3 90 RX0 yX0_addHome wsX0_addHome) := goodIn_app (goodIn_of _ (by decide +kernel)) ggX3_takeHome_X0_addHome
set_option maxRecDepth 20000 in
theorem ggX3_takeHome_X3_goOn : GoodIn wsX3_takeHome wsX3_goOn := goodIn_r _ [13, 14, 15, 16, 17, 18, 19, 20, 21, 22, 23, 24, 25] (by decide +kernel) (by decide +kernel)
set_option maxRecDepth 20000 in
theorem gX3_takeHome_X3_goOn : GoodIn wsX3_takeHome (wsV RX3 77 RX3 yX3_goOn wsX3_goOn) := goodIn_app (goodIn_of _ (by decide +kernel)) ggX3_takeHome_X3_goOn
theorem dX3_takeHome_0 : decode cX3_takeHome 0 = .ok (.aload_n 0, 1) := by decide +kernel
theorem dX3_takeHome_1 : decode cX3_takeHome 1 = .ok (.getfield 12, 3) := by decide +kernel
theorem dX3_takeHome_4 : decode cX3_takeHome 4 = .ok (.getfield 81, 3) := by decide +kernel
theorem dX3_takeHome_7 : decode cX3_takeHome 7 = .ok (.bipush 6, 2) := by decide +kernel
theorem dX3_takeHome_9 : decode cX3_takeHome 9 = .ok (.if_icmp .lt 5, 3) := by decide +kernel
theorem dX3_takeHome_12 : decode cX3_takeHome 12 = .ok (.iconst 3, 1) := by decide +kernel
theorem dX3_takeHome_13 : decode cX3_takeHome 13 = .ok (.ireturn, 1) := by decide +kernel
theorem dX3_takeHome_14 : decode cX3_takeHome 14 = .ok (.aload_n 0, 1) := by decide +kernel
theorem dX3_takeHome_15 : decode cX3_takeHome 15 = .ok (.getfield 12, 3) := by decide +kernel
theorem dX3_takeHome_18 : decode cX3_takeHome 18 = .ok (.invokevirtual 90, 3) := by decide +kernel
theorem dX3_takeHome_21 : decode cX3_takeHome 21 = .ok (.pop, 1) := by decide +kernel
theorem dX3_takeHome_22 : decode cX3_takeHome 22 = .ok (.aload_n 0, 1) := by decide +kernel
theorem dX3_takeHome_23 : decode cX3_takeHome 23 = .ok (.bipush 6, 2) := by decide +kernel
theorem dX3_takeHome_25 : decode cX3_takeHome 25 = .ok (.invokevirtual 77, 3) := by decide +kernel
theorem dX3_takeHome_28 : decode cX3_takeHome 28 = .ok (.ireturn, 1) := by decide +kernel
set_option maxRecDepth 20000 in
theorem ggX3_takeSemicolon_X3_goOn : GoodIn wsX3_takeSemicolon wsX3_goOn := goodIn_r _ [7, 8, 9, 10, 11, 12, 13, 14, 15, 16, 17, 18, 19] (by decide +kernel) (by decide +kernel)
set_option maxRecDepth 20000 in
theorem gX3_takeSemicolon_X3_goOn : GoodIn wsX3_takeSemicolon (wsV RX3 77 RX3 yX3_goOn wsX3_goOn) := goodIn_app (goodIn_of _ (by decide +kernel)) ggX3_takeSemicolon_X3_goOn
theorem dX3_takeSemicolon_0 : decode cX3_takeSemicolon 0 = .ok (.aload_n 0, 1) := by decide +kernel
theorem dX3_takeSemicolon_1 : decode cX3_takeSemicolon 1 = .ok (.getfield 46, 3) := by decide +kernel
theorem dX3_takeSemicolon_4 : decode cX3_takeSemicolon 4 = .ok (.iconst 3, 1) := by decide +kernel
theorem dX3_takeSemicolon_5 : decode cX3_takeSemicolon 5 = .ok (.if_icmp .eq 5, 3) := by decide +kernel
theorem dX3_takeSemicolon_8 : decode cX3_takeSemicolon 8 = .ok (.iconst 1, 1) := by decide +kernel
theorem dX3_takeSemicolon_9 : decode cX3_takeSemicolon 9 = .ok (.ireturn, 1) := by decide +kernel
theorem dX3_takeSemicolon_10 : decode cX3_takeSemicolon 10 = .ok (.aload_n 0, 1) := by decide +kernel
theorem dX3_takeSemicolon_11 : decode cX3_takeSemicolon 11 = .ok (.dup, 1) := by decide +kernel
theorem dX3_takeSemicolon_12 : decode cX3_takeSemicolon 12 = .ok (.getfield 34, 3) := by decide +kernel
theorem dX3_takeSemicolon_15 : decode cX3_takeSemicolon 15 = .ok (.iconst 1, 1) := by decide +kernel
theorem dX3_takeSemicolon_16 : decode cX3_takeSemicolon 16 = .ok (.iadd, 1) := by decide +kernel
theorem dX3_takeSemicolon_17 : decode cX3_takeSemicolon 17 = .ok (.putfield 34, 3) := by decide +kernel
theorem dX3_takeSemicolon_20 : decode cX3_takeSemicolon 20 = .ok (.aload_n 0, 1) := by decide +kernel
theorem dX3_takeSemicolon_21 : decode cX3_takeSemicolon 21 = .ok (.iconst 0, 1) := by decide +kernel
theorem dX3_takeSemicolon_22 : decode cX3_takeSemicolon 22 = .ok (.invokevirtual 77, 3) := by decide +kernel
theorem dX3_takeSemicolon_25 : decode cX3_takeSemicolon 25 = .ok (.ireturn, 1) := by decide +kernel
set_option maxRecDepth 20000 in
theorem ggX3_takeMonths_X3_goOn : GoodIn wsX3_takeMonths wsX3_goOn := goodIn_r _ [8, 9, 10, 11, 12, 13, 14, 15, 16, 17, 18, 19, 20] (by decide +kernel) (by decide +kernel)
set_option maxRecDepth 20000 in
theorem gX3_takeMonths_X3_goOn : GoodIn wsX3_takeMonths (wsV RX3 77 RX3 yX3_goOn wsX3_goOn) := goodIn_app (goodIn_of _ (by decide +kernel)) ggX3_takeMonths_X3_goOn
theorem dX3_takeMonths_0 : decode cX3_takeMonths 0 = .ok (.aload_n 0, 1) := by decide +kernel
theorem dX3_takeMonths_1 : decode cX3_takeMonths 1 = .ok (.getfield 93, 3) := by decide +kernel
theorem dX3_takeMonths_4 : decode cX3_takeMonths 4 = .ok (.iconst 2, 1) := by decide +kernel
theorem dX3_takeMonths_5 : decode cX3_takeMonths 5 = .ok (.if_icmp .lt 12, 3) := by decide +kernel
theorem dX3_takeMonths_8 : decode cX3_takeMonths 8 = .ok (.aload_n 0, 1) := by decide +kernel
theorem dX3_takeMonths_9 : decode cX3_takeMonths 9 = .ok (.getfield 93, 3) := by decide +kernel
theorem dX3_takeMonths_12 : decode cX3_takeMonths 12 = .ok (.bipush 8, 2) := by decide +kernel
theorem dX3_takeMonths_14 : decode cX3_takeMonths 14 = .ok (.if_icmp .le 5, 3) := by decide +kernel
theorem dX3_takeMonths_17 : decode cX3_takeMonths 17 = .ok (.iconst 2, 1) := by decide +kernel
theorem dX3_takeMonths_18 : decode cX3_takeMonths 18 = .ok (.ireturn, 1) := by decide +kernel
theorem dX3_takeMonths_19 : decode cX3_takeMonths 19 = .ok (.aload_n 0, 1) := by decide +kernel
theorem dX3_takeMonths_20 : decode cX3_takeMonths 20 = .ok (.getfield 12, 3) := by decide +kernel
theorem dX3_takeMonths_23 : decode cX3_takeMonths 23 = .ok (.aload_n 0, 1) := by decide +kernel
theorem dX3_takeMonths_24 : decode cX3_takeMonths 24 = .ok (.getfield 93, 3) := by decide +kernel
theorem dX3_takeMonths_27 : decode cX3_takeMonths 27 = .ok (.putfield 96, 3) := by decide +kernel
theorem dX3_takeMonths_30 : decode cX3_takeMonths 30 = .ok (.aload_n 0, 1) := by decide +kernel
theorem dX3_takeMonths_31 : decode cX3_takeMonths 31 = .ok (.bipush 6, 2) := by decide +kernel
theorem dX3_takeMonths_33 : decode cX3_takeMonths 33 = .ok (.invokevirtual 77, 3) := by decide +kernel
theorem dX3_takeMonths_36 : decode cX3_takeMonths 36 = .ok (.ireturn, 1) := by decide +kernel
set_option maxRecDepth 20000 in
theorem ggX3_takeGap_X0_hasGap : GoodIn wsX3_takeGap wsX0_hasGap := goodIn_r _ [9, 10, 28, 29, 30, 31, 32] (by decide +kernel) (by decide +kernel)
set_option maxRecDepth 20000 in
theorem gX3_takeGap_X0_hasGap : GoodIn wsX3_takeGap (wsV RX3 99 RX0 yX0_hasGap wsX0_hasGap) := goodIn_app (goodIn_of _ (by decide +kernel)) ggX3_takeGap_X0_hasGap
set_option maxRecDepth 20000 in
theorem ggX3_takeGap_X3_goOn : GoodIn wsX3_takeGap wsX3_goOn := goodIn_r _ [15, 16, 17, 18, 19, 20, 21, 22, 23, 24, 25, 26, 27] (by decide +kernel) (by decide +kernel)
set_option maxRecDepth 20000 in
theorem gX3_takeGap_X3_goOn : GoodIn wsX3_takeGap (wsV RX3 77 RX3 yX3_goOn wsX3_goOn) := goodIn_app (goodIn_of _ (by decide +kernel)) ggX3_takeGap_X3_goOn
theorem dX3_takeGap_0 : decode cX3_takeGap 0 = .ok (.aload_n 0, 1) := by decide +kernel
theorem dX3_takeGap_1 : decode cX3_takeGap 1 = .ok (.getfield 12, 3) := by decide +kernel
theorem dX3_takeGap_4 : decode cX3_takeGap 4 = .ok (.aload_n 0, 1) := by decide +kernel
theorem dX3_takeGap_5 : decode cX3_takeGap 5 = .ok (.getfield 93, 3) := by decide +kernel
theorem dX3_takeGap_8 : decode cX3_takeGap 8 = .ok (.invokevirtual 99, 3) := by decide +kernel
theorem dX3_takeGap_11 : decode cX3_takeGap 11 = .ok (.ifCond .eq 18, 3) := by decide +kernel
theorem dX3_takeGap_14 : decode cX3_takeGap 14 = .ok (.aload_n 0, 1) := by decide +kernel
theorem dX3_takeGap_15 : decode cX3_takeGap 15 = .ok (.getfield 12, 3) := by decide +kernel
theorem dX3_takeGap_18 : decode cX3_takeGap 18 = .ok (.getfield 102, 3) := by decide +kernel
theorem dX3_takeGap_21 : decode cX3_takeGap 21 = .ok (.aload_n 0, 1) := by decide +kernel
theorem dX3_takeGap_22 : decode cX3_takeGap 22 = .ok (.getfield 93, 3) := by decide +kernel
theorem dX3_takeGap_25 : decode cX3_takeGap 25 = .ok (.iaload, 1) := by decide +kernel
theorem dX3_takeGap_26 : decode cX3_takeGap 26 = .ok (.ifCond .eq 5, 3) := by decide +kernel
theorem dX3_takeGap_29 : decode cX3_takeGap 29 = .ok (.iconst 2, 1) := by decide +kernel
theorem dX3_takeGap_30 : decode cX3_takeGap 30 = .ok (.ireturn, 1) := by decide +kernel
theorem dX3_takeGap_31 : decode cX3_takeGap 31 = .ok (.aload_n 0, 1) := by decide +kernel
theorem dX3_takeGap_32 : decode cX3_takeGap 32 = .ok (.aload_n 0, 1) := by decide +kernel
theorem dX3_takeGap_33 : decode cX3_takeGap 33 = .ok (.getfield 93, 3) := by decide +kernel
theorem dX3_takeGap_36 : decode cX3_takeGap 36 = .ok (.putfield 106, 3) := by decide +kernel
theorem dX3_takeGap_39 : decode cX3_takeGap 39 = .ok (.aload_n 0, 1) := by decide +kernel
theorem dX3_takeGap_40 : decode cX3_takeGap 40 = .ok (.iconst 3, 1) := by decide +kernel
theorem dX3_takeGap_41 : decode cX3_takeGap 41 = .ok (.invokevirtual 77, 3) := by decide +kernel
theorem dX3_takeGap_44 : decode cX3_takeGap 44 = .ok (.ireturn, 1) := by decide +kernel
set_option maxRecDepth 20000 in
theorem ggX3_takeWeight_X0_hasGap : GoodIn wsX3_takeWeight wsX0_hasGap := goodIn_r _ [9, 10, 28, 29, 30, 31, 32] (by decide +kernel) (by decide +kernel)
set_option maxRecDepth 20000 in
theorem gX3_takeWeight_X0_hasGap : GoodIn wsX3_takeWeight (wsV RX3 99 RX0 yX0_hasGap wsX0_hasGap) := goodIn_app (goodIn_of _ (by decide +kernel)) ggX3_takeWeight_X0_hasGap
set_option maxRecDepth 20000 in
theorem ggX3_takeWeight_X3_goOn : GoodIn wsX3_takeWeight wsX3_goOn := goodIn_r _ [15, 16, 17, 18, 19, 20, 21, 22, 23, 24, 25, 26, 27] (by decide +kernel) (by decide +kernel)
set_option maxRecDepth 20000 in
theorem gX3_takeWeight_X3_goOn : GoodIn wsX3_takeWeight (wsV RX3 77 RX3 yX3_goOn wsX3_goOn) := goodIn_app (goodIn_of _ (by decide +kernel)) ggX3_takeWeight_X3_goOn
theorem dX3_takeWeight_0 : decode cX3_takeWeight 0 = .ok (.aload_n 0, 1) := by decide +kernel
theorem dX3_takeWeight_1 : decode cX3_takeWeight 1 = .ok (.getfield 93, 3) := by decide +kernel
theorem dX3_takeWeight_4 : decode cX3_takeWeight 4 = .ok (.iconst 1, 1) := by decide +kernel
theorem dX3_takeWeight_5 : decode cX3_takeWeight 5 = .ok (.if_icmp .lt 25, 3) := by decide +kernel
theorem dX3_takeWeight_8 : decode cX3_takeWeight 8 = .ok (.aload_n 0, 1) := by decide +kernel
theorem dX3_takeWeight_9 : decode cX3_takeWeight 9 = .ok (.getfield 93, 3) := by decide +kernel
theorem dX3_takeWeight_12 : decode cX3_takeWeight 12 = .ok (.iconst 3, 1) := by decide +kernel
theorem dX3_takeWeight_13 : decode cX3_takeWeight 13 = .ok (.if_icmp .gt 17, 3) := by decide +kernel
theorem dX3_takeWeight_16 : decode cX3_takeWeight 16 = .ok (.aload_n 0, 1) := by decide +kernel
theorem dX3_takeWeight_17 : decode cX3_takeWeight 17 = .ok (.getfield 12, 3) := by decide +kernel
theorem dX3_takeWeight_20 : decode cX3_takeWeight 20 = .ok (.aload_n 0, 1) := by decide +kernel
theorem dX3_takeWeight_21 : decode cX3_takeWeight 21 = .ok (.getfield 106, 3) := by decide +kernel
theorem dX3_takeWeight_24 : decode cX3_takeWeight 24 = .ok (.invokevirtual 99, 3) := by decide +kernel
theorem dX3_takeWeight_27 : decode cX3_takeWeight 27 = .ok (.ifCond .ne 5, 3) := by decide +kernel
theorem dX3_takeWeight_30 : decode cX3_takeWeight 30 = .ok (.iconst 2, 1) := by decide +kernel
theorem dX3_takeWeight_31 : decode cX3_takeWeight 31 = .ok (.ireturn, 1) := by decide +kernel
theorem dX3_takeWeight_32 : decode cX3_takeWeight 32 = .ok (.aload_n 0, 1) := by decide +kernel
theorem dX3_takeWeight_33 : decode cX3_takeWeight 33 = .ok (.getfield 12, 3) := by decide +kernel
theorem dX3_takeWeight_36 : decode cX3_takeWeight 36 = .ok (.getfield 102, 3) := by decide +kernel
theorem dX3_takeWeight_39 : decode cX3_takeWeight 39 = .ok (.aload_n 0, 1) := by decide +kernel
theorem dX3_takeWeight_40 : decode cX3_takeWeight 40 = .ok (.getfield 106, 3) := by decide +kernel
theorem dX3_takeWeight_43 : decode cX3_takeWeight 43 = .ok (.aload_n 0, 1) := by decide +kernel
theorem dX3_takeWeight_44 : decode cX3_takeWeight 44 = .ok (.getfield 93, 3) := by decide +kernel
theorem dX3_takeWeight_47 : decode cX3_takeWeight 47 = .ok (.iastore, 1) := by decide +kernel
theorem dX3_takeWeight_48 : decode cX3_takeWeight 48 = .ok (.aload_n 0, 1) := by decide +kernel
theorem dX3_takeWeight_49 : decode cX3_takeWeight 49 = .ok (.bipush 6, 2) := by decide +kernel
theorem dX3_takeWeight_51 : decode cX3_takeWeight 51 = .ok (.invokevirtual 77, 3) := by decide +kernel
theorem dX3_takeWeight_54 : decode cX3_takeWeight 54 = .ok (.ireturn, 1) := by decide +kernel
set_option maxRecDepth 20000 in
theorem ggX3_takeMonth_X0_hasMonth : GoodIn wsX3_takeMonth wsX0_hasMonth := goodIn_r _ [9, 10, 39, 40, 41, 42, 43] (by decide +kernel) (by decide +kernel)
set_option maxRecDepth 20000 in
theorem gX3_takeMonth_X0_hasMonth : GoodIn wsX3_takeMonth (wsV RX3 109 RX0 yX0_hasMonth wsX0_hasMonth) := goodIn_app (goodIn_of _ (by decide +kernel)) ggX3_takeMonth_X0_hasMonth
set_option maxRecDepth 20000 in
theorem ggX3_takeMonth_X0_levelAt : GoodIn wsX3_takeMonth wsX0_levelAt := goodIn_r _ [14, 15, 16, 17, 18, 8, 19, 20, 21, 6, 7, 9, 10, 39, 40, 41, 42, 43] (by decide +kernel) (by decide +kernel)
set_option maxRecDepth 20000 in
theorem gX3_takeMonth_X0_levelAt : GoodIn wsX3_takeMonth (wsV RX3 112 RX0 yX0_levelAt wsX0_levelAt) := goodIn_app (goodIn_of _ (by decide +kernel)) ggX3_takeMonth_X0_levelAt
set_option maxRecDepth 20000 in
theorem ggX3_takeMonth_X3_goOn : GoodIn wsX3_takeMonth wsX3_goOn := goodIn_r _ [26, 27, 28, 29, 30, 31, 32, 33, 34, 35, 36, 37, 38] (by decide +kernel) (by decide +kernel)
set_option maxRecDepth 20000 in
theorem gX3_takeMonth_X3_goOn : GoodIn wsX3_takeMonth (wsV RX3 77 RX3 yX3_goOn wsX3_goOn) := goodIn_app (goodIn_of _ (by decide +kernel)) ggX3_takeMonth_X3_goOn
theorem dX3_takeMonth_0 : decode cX3_takeMonth 0 = .ok (.aload_n 0, 1) := by decide +kernel
theorem dX3_takeMonth_1 : decode cX3_takeMonth 1 = .ok (.getfield 12, 3) := by decide +kernel
theorem dX3_takeMonth_4 : decode cX3_takeMonth 4 = .ok (.aload_n 0, 1) := by decide +kernel
theorem dX3_takeMonth_5 : decode cX3_takeMonth 5 = .ok (.getfield 93, 3) := by decide +kernel
theorem dX3_takeMonth_8 : decode cX3_takeMonth 8 = .ok (.invokevirtual 109, 3) := by decide +kernel
theorem dX3_takeMonth_11 : decode cX3_takeMonth 11 = .ok (.ifCond .eq 27, 3) := by decide +kernel
theorem dX3_takeMonth_14 : decode cX3_takeMonth 14 = .ok (.aload_n 0, 1) := by decide +kernel
theorem dX3_takeMonth_15 : decode cX3_takeMonth 15 = .ok (.getfield 12, 3) := by decide +kernel
theorem dX3_takeMonth_18 : decode cX3_takeMonth 18 = .ok (.aload_n 0, 1) := by decide +kernel
theorem dX3_takeMonth_19 : decode cX3_takeMonth 19 = .ok (.getfield 12, 3) := by decide +kernel
theorem dX3_takeMonth_22 : decode cX3_takeMonth 22 = .ok (.getfield 81, 3) := by decide +kernel
theorem dX3_takeMonth_25 : decode cX3_takeMonth 25 = .ok (.iconst 1, 1) := by decide +kernel
theorem dX3_takeMonth_26 : decode cX3_takeMonth 26 = .ok (.isub, 1) := by decide +kernel
theorem dX3_takeMonth_27 : decode cX3_takeMonth 27 = .ok (.aload_n 0, 1) := by decide +kernel
theorem dX3_takeMonth_28 : decode cX3_takeMonth 28 = .ok (.getfield 93, 3) := by decide +kernel
theorem dX3_takeMonth_31 : decode cX3_takeMonth 31 = .ok (.invokevirtual 112, 3) := by decide +kernel
theorem dX3_takeMonth_34 : decode cX3_takeMonth 34 = .ok (.iconst (-1), 1) := by decide +kernel
theorem dX3_takeMonth_35 : decode cX3_takeMonth 35 = .ok (.if_icmp .eq 5, 3) := by decide +kernel
theorem dX3_takeMonth_38 : decode cX3_takeMonth 38 = .ok (.iconst 2, 1) := by decide +kernel
theorem dX3_takeMonth_39 : decode cX3_takeMonth 39 = .ok (.ireturn, 1) := by decide +kernel
theorem dX3_takeMonth_40 : decode cX3_takeMonth 40 = .ok (.aload_n 0, 1) := by decide +kernel
theorem dX3_takeMonth_41 : decode cX3_takeMonth 41 = .ok (.aload_n 0, 1) := by decide +kernel
theorem dX3_takeMonth_42 : decode cX3_takeMonth 42 = .ok (.getfield 93, 3) := by decide +kernel
theorem dX3_takeMonth_45 : decode cX3_takeMonth 45 = .ok (.putfield 106, 3) := by decide +kernel
theorem dX3_takeMonth_48 : decode cX3_takeMonth 48 = .ok (.aload_n 0, 1) := by decide +kernel
theorem dX3_takeMonth_49 : decode cX3_takeMonth 49 = .ok (.iconst 5, 1) := by decide +kernel
theorem dX3_takeMonth_50 : decode cX3_takeMonth 50 = .ok (.invokevirtual 77, 3) := by decide +kernel
theorem dX3_takeMonth_53 : decode cX3_takeMonth 53 = .ok (.ireturn, 1) := by decide +kernel
set_option maxRecDepth 20000 in
theorem ggX3_takeLevel_X0_canTake : GoodIn wsX3_takeLevel wsX0_canTake := goodIn_r _ [9, 10, 11, 12, 13, 8, 14, 15, 16, 17, 18, 19, 20, 44, 45, 46, 47, 48] (by decide +kernel) (by decide +kernel)
set_option maxRecDepth 20000 in
theorem gX3_takeLevel_X0_canTake : GoodIn wsX3_takeLevel (wsV RX3 116 RX0 yX0_canTake wsX0_canTake) := goodIn_app (goodIn_of _ (by decide +kernel)) ggX3_takeLevel_X0_canTake
set_option maxRecDepth 20000 in
theorem ggX3_takeLevel_X0_putSale : GoodIn wsX3_takeLevel wsX0_putSale := goodIn_r _ [24, 10, 25, 26, 6, 7, 8, 9, 11, 12, 13, 14, 15, 16, 17, 18, 19, 20, 44, 45, 46, 47, 48] (by decide +kernel) (by decide +kernel)
set_option maxRecDepth 20000 in
theorem gX3_takeLevel_X0_putSale : GoodIn wsX3_takeLevel (wsV RX3 120 RX0 yX0_putSale wsX0_putSale) := goodIn_app (goodIn_of _ (by decide +kernel)) ggX3_takeLevel_X0_putSale
set_option maxRecDepth 20000 in
theorem ggX3_takeLevel_X3_goOn : GoodIn wsX3_takeLevel wsX3_goOn := goodIn_r _ [31, 32, 33, 34, 35, 36, 37, 38, 39, 40, 41, 42, 43] (by decide +kernel) (by decide +kernel)
set_option maxRecDepth 20000 in
theorem gX3_takeLevel_X3_goOn : GoodIn wsX3_takeLevel (wsV RX3 77 RX3 yX3_goOn wsX3_goOn) := goodIn_app (goodIn_of _ (by decide +kernel)) ggX3_takeLevel_X3_goOn
theorem dX3_takeLevel_0 : decode cX3_takeLevel 0 = .ok (.aload_n 0, 1) := by decide +kernel
theorem dX3_takeLevel_1 : decode cX3_takeLevel 1 = .ok (.getfield 12, 3) := by decide +kernel
theorem dX3_takeLevel_4 : decode cX3_takeLevel 4 = .ok (.aload_n 0, 1) := by decide +kernel
theorem dX3_takeLevel_5 : decode cX3_takeLevel 5 = .ok (.getfield 12, 3) := by decide +kernel
theorem dX3_takeLevel_8 : decode cX3_takeLevel 8 = .ok (.getfield 81, 3) := by decide +kernel
theorem dX3_takeLevel_11 : decode cX3_takeLevel 11 = .ok (.iconst 1, 1) := by decide +kernel
theorem dX3_takeLevel_12 : decode cX3_takeLevel 12 = .ok (.isub, 1) := by decide +kernel
theorem dX3_takeLevel_13 : decode cX3_takeLevel 13 = .ok (.aload_n 0, 1) := by decide +kernel
theorem dX3_takeLevel_14 : decode cX3_takeLevel 14 = .ok (.getfield 106, 3) := by decide +kernel
theorem dX3_takeLevel_17 : decode cX3_takeLevel 17 = .ok (.aload_n 0, 1) := by decide +kernel
theorem dX3_takeLevel_18 : decode cX3_takeLevel 18 = .ok (.getfield 93, 3) := by decide +kernel
theorem dX3_takeLevel_21 : decode cX3_takeLevel 21 = .ok (.invokevirtual 116, 3) := by decide +kernel
theorem dX3_takeLevel_24 : decode cX3_takeLevel 24 = .ok (.ifCond .ne 5, 3) := by decide +kernel
theorem dX3_takeLevel_27 : decode cX3_takeLevel 27 = .ok (.iconst 2, 1) := by decide +kernel
theorem dX3_takeLevel_28 : decode cX3_takeLevel 28 = .ok (.ireturn, 1) := by decide +kernel
theorem dX3_takeLevel_29 : decode cX3_takeLevel 29 = .ok (.aload_n 0, 1) := by decide +kernel
theorem dX3_takeLevel_30 : decode cX3_takeLevel 30 = .ok (.getfield 12, 3) := by decide +kernel
theorem dX3_takeLevel_33 : decode cX3_takeLevel 33 = .ok (.aload_n 0, 1) := by decide +kernel
theorem dX3_takeLevel_34 : decode cX3_takeLevel 34 = .ok (.getfield 12, 3) := by decide +kernel
theorem dX3_takeLevel_37 : decode cX3_takeLevel 37 = .ok (.getfield 81, 3) := by decide +kernel
theorem dX3_takeLevel_40 : decode cX3_takeLevel 40 = .ok (.iconst 1, 1) := by decide +kernel
theorem dX3_takeLevel_41 : decode cX3_takeLevel 41 = .ok (.isub, 1) := by decide +kernel
theorem dX3_takeLevel_42 : decode cX3_takeLevel 42 = .ok (.aload_n 0, 1) := by decide +kernel
theorem dX3_takeLevel_43 : decode cX3_takeLevel 43 = .ok (.getfield 106, 3) := by decide +kernel
theorem dX3_takeLevel_46 : decode cX3_takeLevel 46 = .ok (.aload_n 0, 1) := by decide +kernel
theorem dX3_takeLevel_47 : decode cX3_takeLevel 47 = .ok (.getfield 93, 3) := by decide +kernel
theorem dX3_takeLevel_50 : decode cX3_takeLevel 50 = .ok (.invokevirtual 120, 3) := by decide +kernel
theorem dX3_takeLevel_53 : decode cX3_takeLevel 53 = .ok (.aload_n 0, 1) := by decide +kernel
theorem dX3_takeLevel_54 : decode cX3_takeLevel 54 = .ok (.bipush 6, 2) := by decide +kernel
theorem dX3_takeLevel_56 : decode cX3_takeLevel 56 = .ok (.invokevirtual 77, 3) := by decide +kernel
theorem dX3_takeLevel_59 : decode cX3_takeLevel 59 = .ok (.ireturn, 1) := by decide +kernel
theorem dX3_goOn_0 : decode cX3_goOn 0 = .ok (.aload_n 0, 1) := by decide +kernel
theorem dX3_goOn_1 : decode cX3_goOn 1 = .ok (.iload_n 1, 1) := by decide +kernel
theorem dX3_goOn_2 : decode cX3_goOn 2 = .ok (.putfield 40, 3) := by decide +kernel
theorem dX3_goOn_5 : decode cX3_goOn 5 = .ok (.iconst 0, 1) := by decide +kernel
theorem dX3_goOn_6 : decode cX3_goOn 6 = .ok (.ireturn, 1) := by decide +kernel
set_option maxRecDepth 20000 in
theorem ggX3_step_X3_skipBlanks : GoodIn wsX3_step wsX3_skipBlanks := goodIn_r _ [14, 1, 3, 9, 83, 84, 85, 86, 87, 88, 89, 90, 91, 92, 93] (by decide +kernel) (by decide +kernel)
set_option maxRecDepth 20000 in
theorem gX3_step_X3_skipBlanks : GoodIn wsX3_step (wsV RX3 124 RX3 yX3_skipBlanks wsX3_skipBlanks) := goodIn_app (goodIn_of _ (by decide +kernel)) ggX3_step_X3_skipBlanks
set_option maxRecDepth 20000 in
theorem ggX3_step_X3_isOfRun : GoodIn wsX3_step wsX3_isOfRun := goodIn_r _ [17, 18, 19, 13, 20] (by decide +kernel) (by decide +kernel)
set_option maxRecDepth 20000 in
theorem gX3_step_X3_isOfRun : GoodIn wsX3_step (va_wsS RX3 135 yX3_isOfRun wsX3_isOfRun) := goodIn_app (goodIn_of _ (by decide +kernel)) ggX3_step_X3_isOfRun
set_option maxRecDepth 20000 in
theorem ggX3_step_X3_readRun : GoodIn wsX3_step wsX3_readRun := goodIn_r _ [24, 25, 1, 3, 9, 4, 2, 15, 16, 13, 17, 18, 19, 20, 26, 27, 28, 29, 30, 31, 32, 33, 34, 35, 36, 37, 38, 39, 40, 41, 42, 43, 44, 45, 46, 47, 48, 49, 50, 51, 52, 53, 54, 55, 56, 57, 58, 59, 60, 61, 62, 63, 64, 65, 66, 67, 68, 69, 70, 71, 72, 73, 74, 75, 76, 77, 78, 79, 80, 81, 82, 83, 84, 85, 86, 87, 88, 89, 90, 91, 92, 93] (by decide +kernel) (by decide +kernel)
set_option maxRecDepth 20000 in
theorem gX3_step_X3_readRun : GoodIn wsX3_step (wsV RX3 138 RX3 yX3_readRun wsX3_readRun) := goodIn_app (goodIn_of _ (by decide +kernel)) ggX3_step_X3_readRun
theorem dX3_step_0 : decode cX3_step 0 = .ok (.aload_n 0, 1) := by decide +kernel
theorem dX3_step_1 : decode cX3_step 1 = .ok (.invokevirtual 124, 3) := by decide +kernel
theorem dX3_step_4 : decode cX3_step 4 = .ok (.aload_n 0, 1) := by decide +kernel
theorem dX3_step_5 : decode cX3_step 5 = .ok (.aload_n 0, 1) := by decide +kernel
theorem dX3_step_6 : decode cX3_step 6 = .ok (.getfield 37, 3) := by decide +kernel
theorem dX3_step_9 : decode cX3_step 9 = .ok (.putfield 127, 3) := by decide +kernel
theorem dX3_step_12 : decode cX3_step 12 = .ok (.aload_n 0, 1) := by decide +kernel
theorem dX3_step_13 : decode cX3_step 13 = .ok (.getfield 37, 3) := by decide +kernel
theorem dX3_step_16 : decode cX3_step 16 = .ok (.aload_n 0, 1) := by decide +kernel
theorem dX3_step_17 : decode cX3_step 17 = .ok (.getfield 22, 3) := by decide +kernel
theorem dX3_step_20 : decode cX3_step 20 = .ok (.if_icmp .ge 13, 3) := by decide +kernel
theorem dX3_step_23 : decode cX3_step 23 = .ok (.aload_n 0, 1) := by decide +kernel
theorem dX3_step_24 : decode cX3_step 24 = .ok (.getfield 37, 3) := by decide +kernel
theorem dX3_step_27 : decode cX3_step 27 = .ok (.sipush 500, 3) := by decide +kernel
theorem dX3_step_30 : decode cX3_step 30 = .ok (.if_icmp .lt 25, 3) := by decide +kernel
theorem dX3_step_33 : decode cX3_step 33 = .ok (.aload_n 0, 1) := by decide +kernel
theorem dX3_step_34 : decode cX3_step 34 = .ok (.iconst 0, 1) := by decide +kernel
theorem dX3_step_35 : decode cX3_step 35 = .ok (.putfield 46, 3) := by decide +kernel
theorem dX3_step_38 : decode cX3_step 38 = .ok (.aload_n 0, 1) := by decide +kernel
theorem dX3_step_39 : decode cX3_step 39 = .ok (.aload_n 0, 1) := by decide +kernel
theorem dX3_step_40 : decode cX3_step 40 = .ok (.getfield 22, 3) := by decide +kernel
theorem dX3_step_43 : decode cX3_step 43 = .ok (.sipush 500, 3) := by decide +kernel
theorem dX3_step_46 : decode cX3_step 46 = .ok (.invokestatic 130, 3) := by decide +kernel
