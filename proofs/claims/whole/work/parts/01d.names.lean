theorem dX0_init_0 : decode cX0_init 0 = .ok (.aload_n 0, 1) := by decide +kernel
theorem dX0_init_1 : decode cX0_init 1 = .ok (.invokespecial 3, 3) := by decide +kernel
theorem dX0_init_4 : decode cX0_init 4 = .ok (.aload_n 0, 1) := by decide +kernel
theorem dX0_init_5 : decode cX0_init 5 = .ok (.bipush 64, 2) := by decide +kernel
theorem dX0_init_7 : decode cX0_init 7 = .ok (.newarray .int, 2) := by decide +kernel
theorem dX0_init_9 : decode cX0_init 9 = .ok (.putfield 9, 3) := by decide +kernel
theorem dX0_init_12 : decode cX0_init 12 = .ok (.return_, 1) := by decide +kernel
theorem dX0_at_0 : decode cX0_at 0 = .ok (.iload_n 1, 1) := by decide +kernel
theorem dX0_at_1 : decode cX0_at 1 = .ok (.ifCond .lt 21, 3) := by decide +kernel
theorem dX0_at_4 : decode cX0_at 4 = .ok (.iload_n 1, 1) := by decide +kernel
theorem dX0_at_5 : decode cX0_at 5 = .ok (.aload_n 0, 1) := by decide +kernel
theorem dX0_at_6 : decode cX0_at 6 = .ok (.getfield 9, 3) := by decide +kernel
theorem dX0_at_9 : decode cX0_at 9 = .ok (.arraylength, 1) := by decide +kernel
theorem dX0_at_10 : decode cX0_at 10 = .ok (.if_icmp .ge 12, 3) := by decide +kernel
theorem dX0_at_13 : decode cX0_at 13 = .ok (.aload_n 0, 1) := by decide +kernel
theorem dX0_at_14 : decode cX0_at 14 = .ok (.getfield 9, 3) := by decide +kernel
theorem dX0_at_17 : decode cX0_at 17 = .ok (.iload_n 1, 1) := by decide +kernel
theorem dX0_at_18 : decode cX0_at 18 = .ok (.iaload, 1) := by decide +kernel
theorem dX0_at_19 : decode cX0_at 19 = .ok (.goto 5, 3) := by decide +kernel
theorem dX0_at_22 : decode cX0_at 22 = .ok (.bipush (-9), 2) := by decide +kernel
theorem dX0_at_24 : decode cX0_at 24 = .ok (.ireturn, 1) := by decide +kernel
set_option maxRecDepth 20000 in
theorem ggX0_restart_X2_rank : GoodIn wsX0_restart wsX2_rank := goodIn_r _ [6, 7, 8, 9, 10, 11, 12, 13, 14, 15, 16, 17, 18, 19, 20, 21, 22, 23, 24, 25, 26, 27, 28, 29, 30, 31, 32, 33, 34, 35, 36, 37, 38, 39, 40, 41, 42, 43, 44, 45, 46, 47, 48, 49, 50, 51, 52, 53, 54, 55, 56, 57, 59, 60, 61, 62, 63, 64, 65, 66, 67, 68, 69, 70, 71] (by decide +kernel) (by decide +kernel)
set_option maxRecDepth 20000 in
theorem gX0_restart_X2_rank : GoodIn wsX0_restart (wsV RX0 15 RX2 yX2_rank wsX2_rank) := goodIn_app (goodIn_of _ (by decide +kernel)) ggX0_restart_X2_rank
theorem dX0_restart_0 : decode cX0_restart 0 = .ok (.iconst 0, 1) := by decide +kernel
theorem dX0_restart_1 : decode cX0_restart 1 = .ok (.istore_n 2, 1) := by decide +kernel
theorem dX0_restart_2 : decode cX0_restart 2 = .ok (.iload_n 2, 1) := by decide +kernel
theorem dX0_restart_3 : decode cX0_restart 3 = .ok (.aload_n 0, 1) := by decide +kernel
theorem dX0_restart_4 : decode cX0_restart 4 = .ok (.getfield 9, 3) := by decide +kernel
theorem dX0_restart_7 : decode cX0_restart 7 = .ok (.arraylength, 1) := by decide +kernel
theorem dX0_restart_8 : decode cX0_restart 8 = .ok (.if_icmp .ge 20, 3) := by decide +kernel
theorem dX0_restart_11 : decode cX0_restart 11 = .ok (.aload_n 0, 1) := by decide +kernel
theorem dX0_restart_12 : decode cX0_restart 12 = .ok (.getfield 9, 3) := by decide +kernel
theorem dX0_restart_15 : decode cX0_restart 15 = .ok (.iload_n 2, 1) := by decide +kernel
theorem dX0_restart_16 : decode cX0_restart 16 = .ok (.aload_n 1, 1) := by decide +kernel
theorem dX0_restart_17 : decode cX0_restart 17 = .ok (.iload_n 2, 1) := by decide +kernel
theorem dX0_restart_18 : decode cX0_restart 18 = .ok (.invokevirtual 15, 3) := by decide +kernel
theorem dX0_restart_21 : decode cX0_restart 21 = .ok (.iastore, 1) := by decide +kernel
theorem dX0_restart_22 : decode cX0_restart 22 = .ok (.iinc 2 1, 3) := by decide +kernel
theorem dX0_restart_25 : decode cX0_restart 25 = .ok (.goto (-23), 3) := by decide +kernel
theorem dX0_restart_28 : decode cX0_restart 28 = .ok (.return_, 1) := by decide +kernel
set_option maxRecDepth 20000 in
theorem ggX0_least_X7_holds : GoodIn wsX0_least wsX7_holds := goodIn_r _ [8] (by decide +kernel) (by decide +kernel)
set_option maxRecDepth 20000 in
theorem gX0_least_X7_holds_n21 : GoodIn wsX0_least (wsX7_holds) := ggX0_least_X7_holds
theorem dX0_least_0 : decode cX0_least 0 = .ok (.bipush 99, 2) := by decide +kernel
theorem dX0_least_2 : decode cX0_least 2 = .ok (.istore_n 3, 1) := by decide +kernel
theorem dX0_least_3 : decode cX0_least 3 = .ok (.iconst 0, 1) := by decide +kernel
theorem dX0_least_4 : decode cX0_least 4 = .ok (.istore 4, 2) := by decide +kernel
theorem dX0_least_6 : decode cX0_least 6 = .ok (.iload 4, 2) := by decide +kernel
theorem dX0_least_8 : decode cX0_least 8 = .ok (.aload_n 0, 1) := by decide +kernel
theorem dX0_least_9 : decode cX0_least 9 = .ok (.getfield 9, 3) := by decide +kernel
theorem dX0_least_12 : decode cX0_least 12 = .ok (.arraylength, 1) := by decide +kernel
theorem dX0_least_13 : decode cX0_least 13 = .ok (.if_icmp .ge 30, 3) := by decide +kernel
theorem dX0_least_16 : decode cX0_least 16 = .ok (.lload_n 1, 1) := by decide +kernel
theorem dX0_least_17 : decode cX0_least 17 = .ok (.iload 4, 2) := by decide +kernel
theorem dX0_least_19 : decode cX0_least 19 = .ok (.invokestatic 21, 3) := by decide +kernel
theorem dX0_least_22 : decode cX0_least 22 = .ok (.ifCond .eq 15, 3) := by decide +kernel
theorem dX0_least_25 : decode cX0_least 25 = .ok (.iload_n 3, 1) := by decide +kernel
theorem dX0_least_26 : decode cX0_least 26 = .ok (.aload_n 0, 1) := by decide +kernel
theorem dX0_least_27 : decode cX0_least 27 = .ok (.getfield 9, 3) := by decide +kernel
theorem dX0_least_30 : decode cX0_least 30 = .ok (.iload 4, 2) := by decide +kernel
theorem dX0_least_32 : decode cX0_least 32 = .ok (.iaload, 1) := by decide +kernel
theorem dX0_least_33 : decode cX0_least 33 = .ok (.invokestatic 25, 3) := by decide +kernel
theorem dX0_least_36 : decode cX0_least 36 = .ok (.istore_n 3, 1) := by decide +kernel
theorem dX0_least_37 : decode cX0_least 37 = .ok (.iinc 4 1, 3) := by decide +kernel
theorem dX0_least_40 : decode cX0_least 40 = .ok (.goto (-34), 3) := by decide +kernel
theorem dX0_least_43 : decode cX0_least 43 = .ok (.iload_n 3, 1) := by decide +kernel
theorem dX0_least_44 : decode cX0_least 44 = .ok (.ireturn, 1) := by decide +kernel
set_option maxRecDepth 20000 in
theorem ggX0_shift_X7_holds : GoodIn wsX0_shift wsX7_holds := goodIn_r _ [8] (by decide +kernel) (by decide +kernel)
set_option maxRecDepth 20000 in
theorem gX0_shift_X7_holds_n21 : GoodIn wsX0_shift (wsX7_holds) := ggX0_shift_X7_holds
theorem dX0_shift_0 : decode cX0_shift 0 = .ok (.iconst 0, 1) := by decide +kernel
theorem dX0_shift_1 : decode cX0_shift 1 = .ok (.istore 4, 2) := by decide +kernel
theorem dX0_shift_3 : decode cX0_shift 3 = .ok (.iload 4, 2) := by decide +kernel
theorem dX0_shift_5 : decode cX0_shift 5 = .ok (.aload_n 0, 1) := by decide +kernel
theorem dX0_shift_6 : decode cX0_shift 6 = .ok (.getfield 9, 3) := by decide +kernel
theorem dX0_shift_9 : decode cX0_shift 9 = .ok (.arraylength, 1) := by decide +kernel
theorem dX0_shift_10 : decode cX0_shift 10 = .ok (.if_icmp .ge 39, 3) := by decide +kernel
theorem dX0_shift_13 : decode cX0_shift 13 = .ok (.lload_n 1, 1) := by decide +kernel
theorem dX0_shift_14 : decode cX0_shift 14 = .ok (.iload 4, 2) := by decide +kernel
theorem dX0_shift_16 : decode cX0_shift 16 = .ok (.invokestatic 21, 3) := by decide +kernel
theorem dX0_shift_19 : decode cX0_shift 19 = .ok (.ifCond .eq 24, 3) := by decide +kernel
theorem dX0_shift_22 : decode cX0_shift 22 = .ok (.aload_n 0, 1) := by decide +kernel
theorem dX0_shift_23 : decode cX0_shift 23 = .ok (.getfield 9, 3) := by decide +kernel
theorem dX0_shift_26 : decode cX0_shift 26 = .ok (.iload 4, 2) := by decide +kernel
theorem dX0_shift_28 : decode cX0_shift 28 = .ok (.bipush 99, 2) := by decide +kernel
theorem dX0_shift_30 : decode cX0_shift 30 = .ok (.aload_n 0, 1) := by decide +kernel
theorem dX0_shift_31 : decode cX0_shift 31 = .ok (.getfield 9, 3) := by decide +kernel
theorem dX0_shift_34 : decode cX0_shift 34 = .ok (.iload 4, 2) := by decide +kernel
theorem dX0_shift_36 : decode cX0_shift 36 = .ok (.iaload, 1) := by decide +kernel
theorem dX0_shift_37 : decode cX0_shift 37 = .ok (.iload_n 3, 1) := by decide +kernel
theorem dX0_shift_38 : decode cX0_shift 38 = .ok (.iadd, 1) := by decide +kernel
theorem dX0_shift_39 : decode cX0_shift 39 = .ok (.invokestatic 25, 3) := by decide +kernel
theorem dX0_shift_42 : decode cX0_shift 42 = .ok (.iastore, 1) := by decide +kernel
theorem dX0_shift_43 : decode cX0_shift 43 = .ok (.iinc 4 1, 3) := by decide +kernel
theorem dX0_shift_46 : decode cX0_shift 46 = .ok (.goto (-43), 3) := by decide +kernel
theorem dX0_shift_49 : decode cX0_shift 49 = .ok (.return_, 1) := by decide +kernel
theorem dX0_free_0 : decode cX0_free 0 = .ok (.iconst 0, 1) := by decide +kernel
theorem dX0_free_1 : decode cX0_free 1 = .ok (.istore_n 1, 1) := by decide +kernel
theorem dX0_free_2 : decode cX0_free 2 = .ok (.iconst 0, 1) := by decide +kernel
theorem dX0_free_3 : decode cX0_free 3 = .ok (.istore_n 2, 1) := by decide +kernel
theorem dX0_free_4 : decode cX0_free 4 = .ok (.iload_n 2, 1) := by decide +kernel
theorem dX0_free_5 : decode cX0_free 5 = .ok (.aload_n 0, 1) := by decide +kernel
theorem dX0_free_6 : decode cX0_free 6 = .ok (.getfield 9, 3) := by decide +kernel
theorem dX0_free_9 : decode cX0_free 9 = .ok (.arraylength, 1) := by decide +kernel
theorem dX0_free_10 : decode cX0_free 10 = .ok (.if_icmp .ge 21, 3) := by decide +kernel
theorem dX0_free_13 : decode cX0_free 13 = .ok (.aload_n 0, 1) := by decide +kernel
theorem dX0_free_14 : decode cX0_free 14 = .ok (.getfield 9, 3) := by decide +kernel
theorem dX0_free_17 : decode cX0_free 17 = .ok (.iload_n 2, 1) := by decide +kernel
theorem dX0_free_18 : decode cX0_free 18 = .ok (.iaload, 1) := by decide +kernel
theorem dX0_free_19 : decode cX0_free 19 = .ok (.ifCond .ne 6, 3) := by decide +kernel
theorem dX0_free_22 : decode cX0_free 22 = .ok (.iinc 1 1, 3) := by decide +kernel
theorem dX0_free_25 : decode cX0_free 25 = .ok (.iinc 2 1, 3) := by decide +kernel
theorem dX0_free_28 : decode cX0_free 28 = .ok (.goto (-24), 3) := by decide +kernel
theorem dX0_free_31 : decode cX0_free 31 = .ok (.iload_n 1, 1) := by decide +kernel
theorem dX0_free_32 : decode cX0_free 32 = .ok (.ireturn, 1) := by decide +kernel
theorem dX1_init_0 : decode cX1_init 0 = .ok (.aload_n 0, 1) := by decide +kernel
theorem dX1_init_1 : decode cX1_init 1 = .ok (.invokespecial 3, 3) := by decide +kernel
theorem dX1_init_4 : decode cX1_init 4 = .ok (.aload_n 0, 1) := by decide +kernel
theorem dX1_init_5 : decode cX1_init 5 = .ok (.sipush 256, 3) := by decide +kernel
theorem dX1_init_8 : decode cX1_init 8 = .ok (.newarray .int, 2) := by decide +kernel
theorem dX1_init_10 : decode cX1_init 10 = .ok (.putfield 9, 3) := by decide +kernel
theorem dX1_init_13 : decode cX1_init 13 = .ok (.aload_n 0, 1) := by decide +kernel
theorem dX1_init_14 : decode cX1_init 14 = .ok (.sipush 256, 3) := by decide +kernel
theorem dX1_init_17 : decode cX1_init 17 = .ok (.newarray .long, 2) := by decide +kernel
theorem dX1_init_19 : decode cX1_init 19 = .ok (.putfield 15, 3) := by decide +kernel
theorem dX1_init_22 : decode cX1_init 22 = .ok (.aload_n 0, 1) := by decide +kernel
theorem dX1_init_23 : decode cX1_init 23 = .ok (.iconst 0, 1) := by decide +kernel
theorem dX1_init_24 : decode cX1_init 24 = .ok (.putfield 19, 3) := by decide +kernel
theorem dX1_init_27 : decode cX1_init 27 = .ok (.return_, 1) := by decide +kernel
theorem dX1_size_0 : decode cX1_size 0 = .ok (.aload_n 0, 1) := by decide +kernel
theorem dX1_size_1 : decode cX1_size 1 = .ok (.getfield 19, 3) := by decide +kernel
theorem dX1_size_4 : decode cX1_size 4 = .ok (.ireturn, 1) := by decide +kernel
theorem dX1_has_0 : decode cX1_has 0 = .ok (.iload_n 1, 1) := by decide +kernel
theorem dX1_has_1 : decode cX1_has 1 = .ok (.ifCond .lt 15, 3) := by decide +kernel
theorem dX1_has_4 : decode cX1_has 4 = .ok (.iload_n 1, 1) := by decide +kernel
theorem dX1_has_5 : decode cX1_has 5 = .ok (.aload_n 0, 1) := by decide +kernel
theorem dX1_has_6 : decode cX1_has 6 = .ok (.getfield 19, 3) := by decide +kernel
theorem dX1_has_9 : decode cX1_has 9 = .ok (.if_icmp .ge 7, 3) := by decide +kernel
theorem dX1_has_12 : decode cX1_has 12 = .ok (.iconst 1, 1) := by decide +kernel
theorem dX1_has_13 : decode cX1_has 13 = .ok (.goto 4, 3) := by decide +kernel
theorem dX1_has_16 : decode cX1_has 16 = .ok (.iconst 0, 1) := by decide +kernel
theorem dX1_has_17 : decode cX1_has 17 = .ok (.ireturn, 1) := by decide +kernel
theorem dX1_setAt_0 : decode cX1_setAt 0 = .ok (.iload_n 1, 1) := by decide +kernel
theorem dX1_setAt_1 : decode cX1_setAt 1 = .ok (.ifCond .lt 29, 3) := by decide +kernel
theorem dX1_setAt_4 : decode cX1_setAt 4 = .ok (.iload_n 1, 1) := by decide +kernel
theorem dX1_setAt_5 : decode cX1_setAt 5 = .ok (.aload_n 0, 1) := by decide +kernel
theorem dX1_setAt_6 : decode cX1_setAt 6 = .ok (.getfield 19, 3) := by decide +kernel
theorem dX1_setAt_9 : decode cX1_setAt 9 = .ok (.if_icmp .ge 21, 3) := by decide +kernel
theorem dX1_setAt_12 : decode cX1_setAt 12 = .ok (.iload_n 1, 1) := by decide +kernel
theorem dX1_setAt_13 : decode cX1_setAt 13 = .ok (.aload_n 0, 1) := by decide +kernel
theorem dX1_setAt_14 : decode cX1_setAt 14 = .ok (.getfield 9, 3) := by decide +kernel
theorem dX1_setAt_17 : decode cX1_setAt 17 = .ok (.arraylength, 1) := by decide +kernel
theorem dX1_setAt_18 : decode cX1_setAt 18 = .ok (.if_icmp .ge 12, 3) := by decide +kernel
theorem dX1_setAt_21 : decode cX1_setAt 21 = .ok (.aload_n 0, 1) := by decide +kernel
theorem dX1_setAt_22 : decode cX1_setAt 22 = .ok (.getfield 9, 3) := by decide +kernel
theorem dX1_setAt_25 : decode cX1_setAt 25 = .ok (.iload_n 1, 1) := by decide +kernel
theorem dX1_setAt_26 : decode cX1_setAt 26 = .ok (.iaload, 1) := by decide +kernel
theorem dX1_setAt_27 : decode cX1_setAt 27 = .ok (.goto 4, 3) := by decide +kernel
theorem dX1_setAt_30 : decode cX1_setAt 30 = .ok (.iconst 0, 1) := by decide +kernel
theorem dX1_setAt_31 : decode cX1_setAt 31 = .ok (.ireturn, 1) := by decide +kernel
theorem dX1_leftAt_0 : decode cX1_leftAt 0 = .ok (.iload_n 1, 1) := by decide +kernel
theorem dX1_leftAt_1 : decode cX1_leftAt 1 = .ok (.ifCond .lt 29, 3) := by decide +kernel
theorem dX1_leftAt_4 : decode cX1_leftAt 4 = .ok (.iload_n 1, 1) := by decide +kernel
theorem dX1_leftAt_5 : decode cX1_leftAt 5 = .ok (.aload_n 0, 1) := by decide +kernel
theorem dX1_leftAt_6 : decode cX1_leftAt 6 = .ok (.getfield 19, 3) := by decide +kernel
theorem dX1_leftAt_9 : decode cX1_leftAt 9 = .ok (.if_icmp .ge 21, 3) := by decide +kernel
theorem dX1_leftAt_12 : decode cX1_leftAt 12 = .ok (.iload_n 1, 1) := by decide +kernel
theorem dX1_leftAt_13 : decode cX1_leftAt 13 = .ok (.aload_n 0, 1) := by decide +kernel
theorem dX1_leftAt_14 : decode cX1_leftAt 14 = .ok (.getfield 15, 3) := by decide +kernel
theorem dX1_leftAt_17 : decode cX1_leftAt 17 = .ok (.arraylength, 1) := by decide +kernel
theorem dX1_leftAt_18 : decode cX1_leftAt 18 = .ok (.if_icmp .ge 12, 3) := by decide +kernel
theorem dX1_leftAt_21 : decode cX1_leftAt 21 = .ok (.aload_n 0, 1) := by decide +kernel
theorem dX1_leftAt_22 : decode cX1_leftAt 22 = .ok (.getfield 15, 3) := by decide +kernel
theorem dX1_leftAt_25 : decode cX1_leftAt 25 = .ok (.iload_n 1, 1) := by decide +kernel
theorem dX1_leftAt_26 : decode cX1_leftAt 26 = .ok (.laload, 1) := by decide +kernel
theorem dX1_leftAt_27 : decode cX1_leftAt 27 = .ok (.goto 4, 3) := by decide +kernel
theorem dX1_leftAt_30 : decode cX1_leftAt 30 = .ok (.lconst 0, 1) := by decide +kernel
theorem dX1_leftAt_31 : decode cX1_leftAt 31 = .ok (.lreturn, 1) := by decide +kernel
set_option maxRecDepth 20000 in
theorem ggX1_holding_X1_leftAt : GoodIn wsX1_holding wsX1_leftAt := goodIn_r _ [6, 1, 7, 12, 13, 14] (by decide +kernel) (by decide +kernel)
set_option maxRecDepth 20000 in
theorem gX1_holding_X1_leftAt : GoodIn wsX1_holding (wsV RX1 23 RX1 yX1_leftAt wsX1_leftAt) := goodIn_app (goodIn_of _ (by decide +kernel)) ggX1_holding_X1_leftAt
set_option maxRecDepth 20000 in
theorem ggX1_holding_X7_allIn : GoodIn wsX1_holding wsX7_allIn := goodIn_r _ [10, 11] (by decide +kernel) (by decide +kernel)
set_option maxRecDepth 20000 in
theorem gX1_holding_X7_allIn_n27 : GoodIn wsX1_holding (wsX7_allIn) := ggX1_holding_X7_allIn
theorem dX1_holding_0 : decode cX1_holding 0 = .ok (.iconst 0, 1) := by decide +kernel
theorem dX1_holding_1 : decode cX1_holding 1 = .ok (.istore_n 3, 1) := by decide +kernel
theorem dX1_holding_2 : decode cX1_holding 2 = .ok (.iconst 0, 1) := by decide +kernel
theorem dX1_holding_3 : decode cX1_holding 3 = .ok (.istore 4, 2) := by decide +kernel
theorem dX1_holding_5 : decode cX1_holding 5 = .ok (.iload 4, 2) := by decide +kernel
theorem dX1_holding_7 : decode cX1_holding 7 = .ok (.aload_n 0, 1) := by decide +kernel
theorem dX1_holding_8 : decode cX1_holding 8 = .ok (.getfield 19, 3) := by decide +kernel
theorem dX1_holding_11 : decode cX1_holding 11 = .ok (.if_icmp .ge 25, 3) := by decide +kernel
theorem dX1_holding_14 : decode cX1_holding 14 = .ok (.aload_n 0, 1) := by decide +kernel
theorem dX1_holding_15 : decode cX1_holding 15 = .ok (.iload 4, 2) := by decide +kernel
theorem dX1_holding_17 : decode cX1_holding 17 = .ok (.invokevirtual 23, 3) := by decide +kernel
theorem dX1_holding_20 : decode cX1_holding 20 = .ok (.lload_n 1, 1) := by decide +kernel
theorem dX1_holding_21 : decode cX1_holding 21 = .ok (.invokestatic 27, 3) := by decide +kernel
theorem dX1_holding_24 : decode cX1_holding 24 = .ok (.ifCond .eq 6, 3) := by decide +kernel
theorem dX1_holding_27 : decode cX1_holding 27 = .ok (.iinc 3 1, 3) := by decide +kernel
theorem dX1_holding_30 : decode cX1_holding 30 = .ok (.iinc 4 1, 3) := by decide +kernel
theorem dX1_holding_33 : decode cX1_holding 33 = .ok (.goto (-28), 3) := by decide +kernel
theorem dX1_holding_36 : decode cX1_holding 36 = .ok (.iload_n 3, 1) := by decide +kernel
theorem dX1_holding_37 : decode cX1_holding 37 = .ok (.ireturn, 1) := by decide +kernel
set_option maxRecDepth 20000 in
theorem ggX1_find_X4_size : GoodIn wsX1_find wsX4_size := goodIn_r _ [6, 7, 8, 9, 10, 11, 12, 13, 43, 44, 45, 46, 47, 48, 49] (by decide +kernel) (by decide +kernel)
set_option maxRecDepth 20000 in
theorem gX1_find_X4_size : GoodIn wsX1_find (wsV RX1 31 RX4 yX4_size wsX4_size) := goodIn_app (goodIn_of _ (by decide +kernel)) ggX1_find_X4_size
set_option maxRecDepth 20000 in
theorem ggX1_find_X1_takenOn : GoodIn wsX1_find wsX1_takenOn := goodIn_r _ [17, 18, 19, 2, 3, 4, 5, 6, 7, 8, 9, 10, 11, 12, 13, 20, 21, 22, 23, 24, 25, 26, 27, 28, 29, 30, 43, 44, 45, 46, 47, 48, 49] (by decide +kernel) (by decide +kernel)
set_option maxRecDepth 20000 in
theorem gX1_find_X1_takenOn : GoodIn wsX1_find (va_wsS RX1 36 yX1_takenOn wsX1_takenOn) := goodIn_app (goodIn_of _ (by decide +kernel)) ggX1_find_X1_takenOn
set_option maxRecDepth 20000 in
theorem ggX1_find_X1_isWhole : GoodIn wsX1_find wsX1_isWhole := goodIn_r _ [33, 18, 19, 2, 3, 4, 5, 6, 7, 8, 9, 10, 11, 12, 13, 23, 24, 25, 26, 27, 28, 21, 29, 30, 20, 22, 43, 44, 45, 46, 47, 48, 49] (by decide +kernel) (by decide +kernel)
set_option maxRecDepth 20000 in
theorem gX1_find_X1_isWhole : GoodIn wsX1_find (va_wsS RX1 40 yX1_isWhole wsX1_isWhole) := goodIn_app (goodIn_of _ (by decide +kernel)) ggX1_find_X1_isWhole
set_option maxRecDepth 20000 in
theorem ggX1_find_X1_add : GoodIn wsX1_find wsX1_add := goodIn_r _ [37, 1, 38, 39, 40, 41, 42] (by decide +kernel) (by decide +kernel)
set_option maxRecDepth 20000 in
theorem gX1_find_X1_add : GoodIn wsX1_find (wsV RX1 44 RX1 yX1_add wsX1_add) := goodIn_app (goodIn_of _ (by decide +kernel)) ggX1_find_X1_add
theorem dX1_find_0 : decode cX1_find 0 = .ok (.aload_n 0, 1) := by decide +kernel
theorem dX1_find_1 : decode cX1_find 1 = .ok (.iconst 0, 1) := by decide +kernel
theorem dX1_find_2 : decode cX1_find 2 = .ok (.putfield 19, 3) := by decide +kernel
theorem dX1_find_5 : decode cX1_find 5 = .ok (.iconst 0, 1) := by decide +kernel
theorem dX1_find_6 : decode cX1_find 6 = .ok (.istore 4, 2) := by decide +kernel
theorem dX1_find_8 : decode cX1_find 8 = .ok (.iload 4, 2) := by decide +kernel
theorem dX1_find_10 : decode cX1_find 10 = .ok (.sipush 256, 3) := by decide +kernel
theorem dX1_find_13 : decode cX1_find 13 = .ok (.if_icmp .ge 54, 3) := by decide +kernel
theorem dX1_find_16 : decode cX1_find 16 = .ok (.iload 4, 2) := by decide +kernel
theorem dX1_find_18 : decode cX1_find 18 = .ok (.aload_n 1, 1) := by decide +kernel
theorem dX1_find_19 : decode cX1_find 19 = .ok (.invokevirtual 31, 3) := by decide +kernel
theorem dX1_find_22 : decode cX1_find 22 = .ok (.iushr, 1) := by decide +kernel
theorem dX1_find_23 : decode cX1_find 23 = .ok (.ifCond .ne 44, 3) := by decide +kernel
theorem dX1_find_26 : decode cX1_find 26 = .ok (.aload_n 1, 1) := by decide +kernel
theorem dX1_find_27 : decode cX1_find 27 = .ok (.iload 4, 2) := by decide +kernel
theorem dX1_find_29 : decode cX1_find 29 = .ok (.lload_n 2, 1) := by decide +kernel
theorem dX1_find_30 : decode cX1_find 30 = .ok (.invokestatic 36, 3) := by decide +kernel
theorem dX1_find_33 : decode cX1_find 33 = .ok (.lstore 5, 2) := by decide +kernel
theorem dX1_find_35 : decode cX1_find 35 = .ok (.lload 5, 2) := by decide +kernel
theorem dX1_find_37 : decode cX1_find 37 = .ok (.lconst 0, 1) := by decide +kernel
theorem dX1_find_38 : decode cX1_find 38 = .ok (.lcmp, 1) := by decide +kernel
theorem dX1_find_39 : decode cX1_find 39 = .ok (.ifCond .eq 22, 3) := by decide +kernel
theorem dX1_find_42 : decode cX1_find 42 = .ok (.aload_n 1, 1) := by decide +kernel
theorem dX1_find_43 : decode cX1_find 43 = .ok (.iload 4, 2) := by decide +kernel
theorem dX1_find_45 : decode cX1_find 45 = .ok (.lload 5, 2) := by decide +kernel
theorem dX1_find_47 : decode cX1_find 47 = .ok (.invokestatic 40, 3) := by decide +kernel
theorem dX1_find_50 : decode cX1_find 50 = .ok (.ifCond .eq 11, 3) := by decide +kernel
theorem dX1_find_53 : decode cX1_find 53 = .ok (.aload_n 0, 1) := by decide +kernel
theorem dX1_find_54 : decode cX1_find 54 = .ok (.iload 4, 2) := by decide +kernel
theorem dX1_find_56 : decode cX1_find 56 = .ok (.lload 5, 2) := by decide +kernel
theorem dX1_find_58 : decode cX1_find 58 = .ok (.invokevirtual 44, 3) := by decide +kernel
theorem dX1_find_61 : decode cX1_find 61 = .ok (.iinc 4 1, 3) := by decide +kernel
theorem dX1_find_64 : decode cX1_find 64 = .ok (.goto (-56), 3) := by decide +kernel
theorem dX1_find_67 : decode cX1_find 67 = .ok (.return_, 1) := by decide +kernel
theorem dX1_add_0 : decode cX1_add 0 = .ok (.aload_n 0, 1) := by decide +kernel
theorem dX1_add_1 : decode cX1_add 1 = .ok (.getfield 19, 3) := by decide +kernel
theorem dX1_add_4 : decode cX1_add 4 = .ok (.aload_n 0, 1) := by decide +kernel
theorem dX1_add_5 : decode cX1_add 5 = .ok (.getfield 9, 3) := by decide +kernel
theorem dX1_add_8 : decode cX1_add 8 = .ok (.arraylength, 1) := by decide +kernel
theorem dX1_add_9 : decode cX1_add 9 = .ok (.if_icmp .ge 45, 3) := by decide +kernel
theorem dX1_add_12 : decode cX1_add 12 = .ok (.aload_n 0, 1) := by decide +kernel
theorem dX1_add_13 : decode cX1_add 13 = .ok (.getfield 19, 3) := by decide +kernel
theorem dX1_add_16 : decode cX1_add 16 = .ok (.aload_n 0, 1) := by decide +kernel
theorem dX1_add_17 : decode cX1_add 17 = .ok (.getfield 15, 3) := by decide +kernel
theorem dX1_add_20 : decode cX1_add 20 = .ok (.arraylength, 1) := by decide +kernel
theorem dX1_add_21 : decode cX1_add 21 = .ok (.if_icmp .ge 33, 3) := by decide +kernel
theorem dX1_add_24 : decode cX1_add 24 = .ok (.aload_n 0, 1) := by decide +kernel
theorem dX1_add_25 : decode cX1_add 25 = .ok (.getfield 9, 3) := by decide +kernel
theorem dX1_add_28 : decode cX1_add 28 = .ok (.aload_n 0, 1) := by decide +kernel
theorem dX1_add_29 : decode cX1_add 29 = .ok (.getfield 19, 3) := by decide +kernel
theorem dX1_add_32 : decode cX1_add 32 = .ok (.iload_n 1, 1) := by decide +kernel
theorem dX1_add_33 : decode cX1_add 33 = .ok (.iastore, 1) := by decide +kernel
theorem dX1_add_34 : decode cX1_add 34 = .ok (.aload_n 0, 1) := by decide +kernel
theorem dX1_add_35 : decode cX1_add 35 = .ok (.getfield 15, 3) := by decide +kernel
theorem dX1_add_38 : decode cX1_add 38 = .ok (.aload_n 0, 1) := by decide +kernel
theorem dX1_add_39 : decode cX1_add 39 = .ok (.getfield 19, 3) := by decide +kernel
theorem dX1_add_42 : decode cX1_add 42 = .ok (.lload_n 2, 1) := by decide +kernel
theorem dX1_add_43 : decode cX1_add 43 = .ok (.lastore, 1) := by decide +kernel
theorem dX1_add_44 : decode cX1_add 44 = .ok (.aload_n 0, 1) := by decide +kernel
theorem dX1_add_45 : decode cX1_add 45 = .ok (.dup, 1) := by decide +kernel
theorem dX1_add_46 : decode cX1_add 46 = .ok (.getfield 19, 3) := by decide +kernel
theorem dX1_add_49 : decode cX1_add 49 = .ok (.iconst 1, 1) := by decide +kernel
theorem dX1_add_50 : decode cX1_add 50 = .ok (.iadd, 1) := by decide +kernel
theorem dX1_add_51 : decode cX1_add 51 = .ok (.putfield 19, 3) := by decide +kernel
theorem dX1_add_54 : decode cX1_add 54 = .ok (.return_, 1) := by decide +kernel
set_option maxRecDepth 20000 in
theorem ggX1_takenOn_X4_size : GoodIn wsX1_takenOn wsX4_size := goodIn_r _ [7, 8, 9, 10, 11, 12, 13, 14, 26, 27, 28, 29, 30, 31, 32] (by decide +kernel) (by decide +kernel)
set_option maxRecDepth 20000 in
theorem gX1_takenOn_X4_size : GoodIn wsX1_takenOn (wsV RX1 31 RX4 yX4_size wsX4_size) := goodIn_app (goodIn_of _ (by decide +kernel)) ggX1_takenOn_X4_size
set_option maxRecDepth 20000 in
theorem ggX1_takenOn_X7_inSet : GoodIn wsX1_takenOn wsX7_inSet := goodIn_r _ [17] (by decide +kernel) (by decide +kernel)
set_option maxRecDepth 20000 in
theorem gX1_takenOn_X7_inSet_n48 : GoodIn wsX1_takenOn (wsX7_inSet) := ggX1_takenOn_X7_inSet
set_option maxRecDepth 20000 in
theorem ggX1_takenOn_X5_get : GoodIn wsX1_takenOn wsX5_get := goodIn_r _ [21, 14, 22, 30, 31, 32] (by decide +kernel) (by decide +kernel)
set_option maxRecDepth 20000 in
theorem gX1_takenOn_X5_get : GoodIn wsX1_takenOn (wsV RX1 56 RX5 yX5_get wsX5_get) := goodIn_app (goodIn_of _ (by decide +kernel)) ggX1_takenOn_X5_get
set_option maxRecDepth 20000 in
theorem ggX1_takenOn_X7_allIn : GoodIn wsX1_takenOn wsX7_allIn := goodIn_r _ [24, 25] (by decide +kernel) (by decide +kernel)
set_option maxRecDepth 20000 in
theorem gX1_takenOn_X7_allIn_n27 : GoodIn wsX1_takenOn (wsX7_allIn) := ggX1_takenOn_X7_allIn
theorem dX1_takenOn_0 : decode cX1_takenOn 0 = .ok (.lload_n 2, 1) := by decide +kernel
theorem dX1_takenOn_1 : decode cX1_takenOn 1 = .ok (.lstore 4, 2) := by decide +kernel
theorem dX1_takenOn_3 : decode cX1_takenOn 3 = .ok (.iload_n 1, 1) := by decide +kernel
theorem dX1_takenOn_4 : decode cX1_takenOn 4 = .ok (.istore 6, 2) := by decide +kernel
theorem dX1_takenOn_6 : decode cX1_takenOn 6 = .ok (.iconst 0, 1) := by decide +kernel
theorem dX1_takenOn_7 : decode cX1_takenOn 7 = .ok (.istore 7, 2) := by decide +kernel
theorem dX1_takenOn_9 : decode cX1_takenOn 9 = .ok (.iload 7, 2) := by decide +kernel
theorem dX1_takenOn_11 : decode cX1_takenOn 11 = .ok (.bipush 8, 2) := by decide +kernel
theorem dX1_takenOn_13 : decode cX1_takenOn 13 = .ok (.if_icmp .ge 97, 3) := by decide +kernel
theorem dX1_takenOn_16 : decode cX1_takenOn 16 = .ok (.iload 6, 2) := by decide +kernel
theorem dX1_takenOn_18 : decode cX1_takenOn 18 = .ok (.ifCond .eq 92, 3) := by decide +kernel
theorem dX1_takenOn_21 : decode cX1_takenOn 21 = .ok (.iload 6, 2) := by decide +kernel
theorem dX1_takenOn_23 : decode cX1_takenOn 23 = .ok (.istore 8, 2) := by decide +kernel
theorem dX1_takenOn_25 : decode cX1_takenOn 25 = .ok (.iconst 0, 1) := by decide +kernel
theorem dX1_takenOn_26 : decode cX1_takenOn 26 = .ok (.istore 9, 2) := by decide +kernel
theorem dX1_takenOn_28 : decode cX1_takenOn 28 = .ok (.iload 9, 2) := by decide +kernel
theorem dX1_takenOn_30 : decode cX1_takenOn 30 = .ok (.aload_n 0, 1) := by decide +kernel
theorem dX1_takenOn_31 : decode cX1_takenOn 31 = .ok (.invokevirtual 31, 3) := by decide +kernel
theorem dX1_takenOn_34 : decode cX1_takenOn 34 = .ok (.if_icmp .ge 61, 3) := by decide +kernel
theorem dX1_takenOn_37 : decode cX1_takenOn 37 = .ok (.iload 6, 2) := by decide +kernel
theorem dX1_takenOn_39 : decode cX1_takenOn 39 = .ok (.iload 9, 2) := by decide +kernel
theorem dX1_takenOn_41 : decode cX1_takenOn 41 = .ok (.invokestatic 48, 3) := by decide +kernel
theorem dX1_takenOn_44 : decode cX1_takenOn 44 = .ok (.ifCond .eq 45, 3) := by decide +kernel
theorem dX1_takenOn_47 : decode cX1_takenOn 47 = .ok (.lload 4, 2) := by decide +kernel
theorem dX1_takenOn_49 : decode cX1_takenOn 49 = .ok (.aload_n 0, 1) := by decide +kernel
theorem dX1_takenOn_50 : decode cX1_takenOn 50 = .ok (.getfield 52, 3) := by decide +kernel
theorem dX1_takenOn_53 : decode cX1_takenOn 53 = .ok (.iload 9, 2) := by decide +kernel
theorem dX1_takenOn_55 : decode cX1_takenOn 55 = .ok (.invokevirtual 56, 3) := by decide +kernel
theorem dX1_takenOn_58 : decode cX1_takenOn 58 = .ok (.invokestatic 27, 3) := by decide +kernel
theorem dX1_takenOn_61 : decode cX1_takenOn 61 = .ok (.ifCond .eq 28, 3) := by decide +kernel
theorem dX1_takenOn_64 : decode cX1_takenOn 64 = .ok (.lload 4, 2) := by decide +kernel
theorem dX1_takenOn_66 : decode cX1_takenOn 66 = .ok (.aload_n 0, 1) := by decide +kernel
theorem dX1_takenOn_67 : decode cX1_takenOn 67 = .ok (.getfield 61, 3) := by decide +kernel
theorem dX1_takenOn_70 : decode cX1_takenOn 70 = .ok (.iload 9, 2) := by decide +kernel
theorem dX1_takenOn_72 : decode cX1_takenOn 72 = .ok (.invokevirtual 56, 3) := by decide +kernel
theorem dX1_takenOn_75 : decode cX1_takenOn 75 = .ok (.land, 1) := by decide +kernel
theorem dX1_takenOn_76 : decode cX1_takenOn 76 = .ok (.lstore 4, 2) := by decide +kernel
theorem dX1_takenOn_78 : decode cX1_takenOn 78 = .ok (.iload 6, 2) := by decide +kernel
theorem dX1_takenOn_80 : decode cX1_takenOn 80 = .ok (.iconst 1, 1) := by decide +kernel
theorem dX1_takenOn_81 : decode cX1_takenOn 81 = .ok (.iload 9, 2) := by decide +kernel
theorem dX1_takenOn_83 : decode cX1_takenOn 83 = .ok (.ishl, 1) := by decide +kernel
theorem dX1_takenOn_84 : decode cX1_takenOn 84 = .ok (.iconst (-1), 1) := by decide +kernel
theorem dX1_takenOn_85 : decode cX1_takenOn 85 = .ok (.ixor, 1) := by decide +kernel
theorem dX1_takenOn_86 : decode cX1_takenOn 86 = .ok (.iand, 1) := by decide +kernel
theorem dX1_takenOn_87 : decode cX1_takenOn 87 = .ok (.istore 6, 2) := by decide +kernel
theorem dX1_takenOn_89 : decode cX1_takenOn 89 = .ok (.iinc 9 1, 3) := by decide +kernel
theorem dX1_takenOn_92 : decode cX1_takenOn 92 = .ok (.goto (-64), 3) := by decide +kernel
theorem dX1_takenOn_95 : decode cX1_takenOn 95 = .ok (.iload 6, 2) := by decide +kernel
theorem dX1_takenOn_97 : decode cX1_takenOn 97 = .ok (.iload 8, 2) := by decide +kernel
theorem dX1_takenOn_99 : decode cX1_takenOn 99 = .ok (.if_icmp .ne 5, 3) := by decide +kernel
theorem dX1_takenOn_102 : decode cX1_takenOn 102 = .ok (.lconst 0, 1) := by decide +kernel
theorem dX1_takenOn_103 : decode cX1_takenOn 103 = .ok (.lreturn, 1) := by decide +kernel
theorem dX1_takenOn_104 : decode cX1_takenOn 104 = .ok (.iinc 7 1, 3) := by decide +kernel
theorem dX1_takenOn_107 : decode cX1_takenOn 107 = .ok (.goto (-98), 3) := by decide +kernel
theorem dX1_takenOn_110 : decode cX1_takenOn 110 = .ok (.lload 4, 2) := by decide +kernel
theorem dX1_takenOn_112 : decode cX1_takenOn 112 = .ok (.lreturn, 1) := by decide +kernel
set_option maxRecDepth 20000 in
theorem ggX1_isWhole_X4_size : GoodIn wsX1_isWhole wsX4_size := goodIn_r _ [7, 8, 9, 10, 11, 12, 13, 14, 26, 27, 28, 29, 30, 31, 32] (by decide +kernel) (by decide +kernel)
set_option maxRecDepth 20000 in
theorem gX1_isWhole_X4_size : GoodIn wsX1_isWhole (wsV RX1 31 RX4 yX4_size wsX4_size) := goodIn_app (goodIn_of _ (by decide +kernel)) ggX1_isWhole_X4_size
set_option maxRecDepth 20000 in
theorem ggX1_isWhole_X5_get : GoodIn wsX1_isWhole wsX5_get := goodIn_r _ [18, 14, 19, 30, 31, 32] (by decide +kernel) (by decide +kernel)
set_option maxRecDepth 20000 in
theorem gX1_isWhole_X5_get : GoodIn wsX1_isWhole (wsV RX1 56 RX5 yX5_get wsX5_get) := goodIn_app (goodIn_of _ (by decide +kernel)) ggX1_isWhole_X5_get
set_option maxRecDepth 20000 in
theorem ggX1_isWhole_X7_allIn : GoodIn wsX1_isWhole wsX7_allIn := goodIn_r _ [22, 23] (by decide +kernel) (by decide +kernel)
set_option maxRecDepth 20000 in
theorem gX1_isWhole_X7_allIn_n27 : GoodIn wsX1_isWhole (wsX7_allIn) := ggX1_isWhole_X7_allIn
set_option maxRecDepth 20000 in
theorem ggX1_isWhole_X7_inSet : GoodIn wsX1_isWhole wsX7_inSet := goodIn_r _ [25] (by decide +kernel) (by decide +kernel)
set_option maxRecDepth 20000 in
theorem gX1_isWhole_X7_inSet_n48 : GoodIn wsX1_isWhole (wsX7_inSet) := ggX1_isWhole_X7_inSet
theorem dX1_isWhole_0 : decode cX1_isWhole 0 = .ok (.iconst 0, 1) := by decide +kernel
theorem dX1_isWhole_1 : decode cX1_isWhole 1 = .ok (.istore 4, 2) := by decide +kernel
theorem dX1_isWhole_3 : decode cX1_isWhole 3 = .ok (.iload 4, 2) := by decide +kernel
theorem dX1_isWhole_5 : decode cX1_isWhole 5 = .ok (.aload_n 0, 1) := by decide +kernel
theorem dX1_isWhole_6 : decode cX1_isWhole 6 = .ok (.invokevirtual 31, 3) := by decide +kernel
theorem dX1_isWhole_9 : decode cX1_isWhole 9 = .ok (.if_icmp .ge 64, 3) := by decide +kernel
theorem dX1_isWhole_12 : decode cX1_isWhole 12 = .ok (.lload_n 2, 1) := by decide +kernel
theorem dX1_isWhole_13 : decode cX1_isWhole 13 = .ok (.aload_n 0, 1) := by decide +kernel
theorem dX1_isWhole_14 : decode cX1_isWhole 14 = .ok (.getfield 52, 3) := by decide +kernel
theorem dX1_isWhole_17 : decode cX1_isWhole 17 = .ok (.iload 4, 2) := by decide +kernel
theorem dX1_isWhole_19 : decode cX1_isWhole 19 = .ok (.invokevirtual 56, 3) := by decide +kernel
theorem dX1_isWhole_22 : decode cX1_isWhole 22 = .ok (.invokestatic 27, 3) := by decide +kernel
theorem dX1_isWhole_25 : decode cX1_isWhole 25 = .ok (.ifCond .eq 23, 3) := by decide +kernel
theorem dX1_isWhole_28 : decode cX1_isWhole 28 = .ok (.lload_n 2, 1) := by decide +kernel
theorem dX1_isWhole_29 : decode cX1_isWhole 29 = .ok (.aload_n 0, 1) := by decide +kernel
theorem dX1_isWhole_30 : decode cX1_isWhole 30 = .ok (.getfield 61, 3) := by decide +kernel
theorem dX1_isWhole_33 : decode cX1_isWhole 33 = .ok (.iload 4, 2) := by decide +kernel
theorem dX1_isWhole_35 : decode cX1_isWhole 35 = .ok (.invokevirtual 56, 3) := by decide +kernel
theorem dX1_isWhole_38 : decode cX1_isWhole 38 = .ok (.land, 1) := by decide +kernel
theorem dX1_isWhole_39 : decode cX1_isWhole 39 = .ok (.lconst 0, 1) := by decide +kernel
theorem dX1_isWhole_40 : decode cX1_isWhole 40 = .ok (.lcmp, 1) := by decide +kernel
theorem dX1_isWhole_41 : decode cX1_isWhole 41 = .ok (.ifCond .eq 7, 3) := by decide +kernel
theorem dX1_isWhole_44 : decode cX1_isWhole 44 = .ok (.iconst 1, 1) := by decide +kernel
theorem dX1_isWhole_45 : decode cX1_isWhole 45 = .ok (.goto 4, 3) := by decide +kernel
theorem dX1_isWhole_48 : decode cX1_isWhole 48 = .ok (.iconst 0, 1) := by decide +kernel
theorem dX1_isWhole_49 : decode cX1_isWhole 49 = .ok (.istore 5, 2) := by decide +kernel
theorem dX1_isWhole_51 : decode cX1_isWhole 51 = .ok (.iload 5, 2) := by decide +kernel
theorem dX1_isWhole_53 : decode cX1_isWhole 53 = .ok (.ifCond .eq 14, 3) := by decide +kernel
theorem dX1_isWhole_56 : decode cX1_isWhole 56 = .ok (.iload_n 1, 1) := by decide +kernel
theorem dX1_isWhole_57 : decode cX1_isWhole 57 = .ok (.iload 4, 2) := by decide +kernel
theorem dX1_isWhole_59 : decode cX1_isWhole 59 = .ok (.invokestatic 48, 3) := by decide +kernel
theorem dX1_isWhole_62 : decode cX1_isWhole 62 = .ok (.ifCond .ne 5, 3) := by decide +kernel
theorem dX1_isWhole_65 : decode cX1_isWhole 65 = .ok (.iconst 0, 1) := by decide +kernel
theorem dX1_isWhole_66 : decode cX1_isWhole 66 = .ok (.ireturn, 1) := by decide +kernel
theorem dX1_isWhole_67 : decode cX1_isWhole 67 = .ok (.iinc 4 1, 3) := by decide +kernel
theorem dX1_isWhole_70 : decode cX1_isWhole 70 = .ok (.goto (-67), 3) := by decide +kernel
theorem dX1_isWhole_73 : decode cX1_isWhole 73 = .ok (.iconst 1, 1) := by decide +kernel
theorem dX1_isWhole_74 : decode cX1_isWhole 74 = .ok (.ireturn, 1) := by decide +kernel
set_option maxRecDepth 20000 in
theorem ggX2_init_X5_init : GoodIn wsX2_init wsX5_init := goodIn_r _ [19, 20, 2, 3, 21, 22, 23, 24, 25, 26, 27, 28, 40, 41, 42] (by decide +kernel) (by decide +kernel)
set_option maxRecDepth 20000 in
theorem gX2_init_X5_init : GoodIn wsX2_init (wsX5_init) := ggX2_init_X5_init
set_option maxRecDepth 20000 in
theorem ggX2_init_X4_init : GoodIn wsX2_init wsX4_init := goodIn_r _ [31, 32, 2, 3, 33, 34, 35, 36, 5, 6, 37, 38, 39, 18, 19, 20, 21, 22, 23, 24, 25, 26, 27, 28, 49, 50, 51, 52, 40, 41, 42] (by decide +kernel) (by decide +kernel)
set_option maxRecDepth 20000 in
theorem gX2_init_X4_init : GoodIn wsX2_init (wsX4_init) := ggX2_init_X4_init
theorem dX2_init_0 : decode cX2_init 0 = .ok (.aload_n 0, 1) := by decide +kernel
theorem dX2_init_1 : decode cX2_init 1 = .ok (.invokespecial 3, 3) := by decide +kernel
theorem dX2_init_4 : decode cX2_init 4 = .ok (.aload_n 0, 1) := by decide +kernel
theorem dX2_init_5 : decode cX2_init 5 = .ok (.new 9, 3) := by decide +kernel
theorem dX2_init_8 : decode cX2_init 8 = .ok (.dup, 1) := by decide +kernel
theorem dX2_init_9 : decode cX2_init 9 = .ok (.iconst 4, 1) := by decide +kernel
theorem dX2_init_10 : decode cX2_init 10 = .ok (.invokespecial 11, 3) := by decide +kernel
theorem dX2_init_13 : decode cX2_init 13 = .ok (.putfield 14, 3) := by decide +kernel
theorem dX2_init_16 : decode cX2_init 16 = .ok (.aload_n 0, 1) := by decide +kernel
theorem dX2_init_17 : decode cX2_init 17 = .ok (.new 20, 3) := by decide +kernel
theorem dX2_init_20 : decode cX2_init 20 = .ok (.dup, 1) := by decide +kernel
theorem dX2_init_21 : decode cX2_init 21 = .ok (.bipush 8, 2) := by decide +kernel
theorem dX2_init_23 : decode cX2_init 23 = .ok (.invokespecial 22, 3) := by decide +kernel
theorem dX2_init_26 : decode cX2_init 26 = .ok (.putfield 23, 3) := by decide +kernel
theorem dX2_init_29 : decode cX2_init 29 = .ok (.aload_n 0, 1) := by decide +kernel
theorem dX2_init_30 : decode cX2_init 30 = .ok (.new 9, 3) := by decide +kernel
theorem dX2_init_33 : decode cX2_init 33 = .ok (.dup, 1) := by decide +kernel
theorem dX2_init_34 : decode cX2_init 34 = .ok (.iconst 4, 1) := by decide +kernel
theorem dX2_init_35 : decode cX2_init 35 = .ok (.invokespecial 11, 3) := by decide +kernel
theorem dX2_init_38 : decode cX2_init 38 = .ok (.putfield 27, 3) := by decide +kernel
theorem dX2_init_41 : decode cX2_init 41 = .ok (.aload_n 0, 1) := by decide +kernel
theorem dX2_init_42 : decode cX2_init 42 = .ok (.new 9, 3) := by decide +kernel
theorem dX2_init_45 : decode cX2_init 45 = .ok (.dup, 1) := by decide +kernel
theorem dX2_init_46 : decode cX2_init 46 = .ok (.bipush 6, 2) := by decide +kernel
theorem dX2_init_48 : decode cX2_init 48 = .ok (.invokespecial 11, 3) := by decide +kernel
theorem dX2_init_51 : decode cX2_init 51 = .ok (.putfield 30, 3) := by decide +kernel
theorem dX2_init_54 : decode cX2_init 54 = .ok (.aload_n 0, 1) := by decide +kernel
theorem dX2_init_55 : decode cX2_init 55 = .ok (.ldc2_w 33, 3) := by decide +kernel
theorem dX2_init_58 : decode cX2_init 58 = .ok (.putfield 35, 3) := by decide +kernel
theorem dX2_init_61 : decode cX2_init 61 = .ok (.aload_n 0, 1) := by decide +kernel
theorem dX2_init_62 : decode cX2_init 62 = .ok (.ldc2_w 33, 3) := by decide +kernel
theorem dX2_init_65 : decode cX2_init 65 = .ok (.putfield 39, 3) := by decide +kernel
theorem dX2_init_68 : decode cX2_init 68 = .ok (.return_, 1) := by decide +kernel
set_option maxRecDepth 20000 in
theorem ggX2_size_X5_size : GoodIn wsX2_size wsX5_size := goodIn_r _ [9, 10, 24, 25, 26] (by decide +kernel) (by decide +kernel)
set_option maxRecDepth 20000 in
theorem gX2_size_X5_size : GoodIn wsX2_size (wsV RX2 42 RX5 yX5_size wsX5_size) := goodIn_app (goodIn_of _ (by decide +kernel)) ggX2_size_X5_size
set_option maxRecDepth 20000 in
theorem ggX2_size_X4_size : GoodIn wsX2_size wsX4_size := goodIn_r _ [15, 16, 17, 6, 7, 8, 9, 10, 27, 28, 29, 30, 24, 25, 26] (by decide +kernel) (by decide +kernel)
set_option maxRecDepth 20000 in
theorem gX2_size_X4_size : GoodIn wsX2_size (wsV RX2 46 RX4 yX4_size wsX4_size) := goodIn_app (goodIn_of _ (by decide +kernel)) ggX2_size_X4_size
theorem dX2_size_0 : decode cX2_size 0 = .ok (.aload_n 0, 1) := by decide +kernel
theorem dX2_size_1 : decode cX2_size 1 = .ok (.getfield 14, 3) := by decide +kernel
theorem dX2_size_4 : decode cX2_size 4 = .ok (.invokevirtual 42, 3) := by decide +kernel
theorem dX2_size_7 : decode cX2_size 7 = .ok (.aload_n 0, 1) := by decide +kernel
theorem dX2_size_8 : decode cX2_size 8 = .ok (.getfield 23, 3) := by decide +kernel
theorem dX2_size_11 : decode cX2_size 11 = .ok (.invokevirtual 46, 3) := by decide +kernel
theorem dX2_size_14 : decode cX2_size 14 = .ok (.iadd, 1) := by decide +kernel
theorem dX2_size_15 : decode cX2_size 15 = .ok (.aload_n 0, 1) := by decide +kernel
theorem dX2_size_16 : decode cX2_size 16 = .ok (.getfield 27, 3) := by decide +kernel
theorem dX2_size_19 : decode cX2_size 19 = .ok (.invokevirtual 42, 3) := by decide +kernel
theorem dX2_size_22 : decode cX2_size 22 = .ok (.iadd, 1) := by decide +kernel
theorem dX2_size_23 : decode cX2_size 23 = .ok (.aload_n 0, 1) := by decide +kernel
theorem dX2_size_24 : decode cX2_size 24 = .ok (.getfield 30, 3) := by decide +kernel
theorem dX2_size_27 : decode cX2_size 27 = .ok (.invokevirtual 42, 3) := by decide +kernel
theorem dX2_size_30 : decode cX2_size 30 = .ok (.iadd, 1) := by decide +kernel
theorem dX2_size_31 : decode cX2_size 31 = .ok (.ireturn, 1) := by decide +kernel
set_option maxRecDepth 20000 in
theorem ggX2_empty_X5_empty : GoodIn wsX2_empty wsX5_empty := goodIn_r _ [9, 10, 25, 26, 27] (by decide +kernel) (by decide +kernel)
set_option maxRecDepth 20000 in
theorem gX2_empty_X5_empty : GoodIn wsX2_empty (wsV RX2 47 RX5 yX5_empty wsX5_empty) := goodIn_app (goodIn_of _ (by decide +kernel)) ggX2_empty_X5_empty
set_option maxRecDepth 20000 in
theorem ggX2_empty_X4_empty : GoodIn wsX2_empty wsX4_empty := goodIn_r _ [15, 16, 17, 18, 6, 7, 8, 9, 10, 28, 29, 30, 31, 25, 26, 27] (by decide +kernel) (by decide +kernel)
set_option maxRecDepth 20000 in
theorem gX2_empty_X4_empty : GoodIn wsX2_empty (wsV RX2 50 RX4 yX4_empty wsX4_empty) := goodIn_app (goodIn_of _ (by decide +kernel)) ggX2_empty_X4_empty
theorem dX2_empty_0 : decode cX2_empty 0 = .ok (.aload_n 0, 1) := by decide +kernel
theorem dX2_empty_1 : decode cX2_empty 1 = .ok (.getfield 14, 3) := by decide +kernel
theorem dX2_empty_4 : decode cX2_empty 4 = .ok (.invokevirtual 47, 3) := by decide +kernel
theorem dX2_empty_7 : decode cX2_empty 7 = .ok (.aload_n 0, 1) := by decide +kernel
theorem dX2_empty_8 : decode cX2_empty 8 = .ok (.getfield 23, 3) := by decide +kernel
theorem dX2_empty_11 : decode cX2_empty 11 = .ok (.invokevirtual 50, 3) := by decide +kernel
theorem dX2_empty_14 : decode cX2_empty 14 = .ok (.aload_n 0, 1) := by decide +kernel
theorem dX2_empty_15 : decode cX2_empty 15 = .ok (.getfield 27, 3) := by decide +kernel
theorem dX2_empty_18 : decode cX2_empty 18 = .ok (.invokevirtual 47, 3) := by decide +kernel
theorem dX2_empty_21 : decode cX2_empty 21 = .ok (.aload_n 0, 1) := by decide +kernel
theorem dX2_empty_22 : decode cX2_empty 22 = .ok (.getfield 30, 3) := by decide +kernel
theorem dX2_empty_25 : decode cX2_empty 25 = .ok (.invokevirtual 47, 3) := by decide +kernel
theorem dX2_empty_28 : decode cX2_empty 28 = .ok (.return_, 1) := by decide +kernel
set_option maxRecDepth 20000 in
theorem ggX2_settle_X5_meet : GoodIn wsX2_settle wsX5_meet := goodIn_r _ [10, 11, 12, 13, 14, 15, 9, 16, 17, 58, 59, 60] (by decide +kernel) (by decide +kernel)
set_option maxRecDepth 20000 in
theorem gX2_settle_X5_meet : GoodIn wsX2_settle (wsV RX2 51 RX5 yX5_meet wsX5_meet) := goodIn_app (goodIn_of _ (by decide +kernel)) ggX2_settle_X5_meet
set_option maxRecDepth 20000 in
theorem ggX2_settle_X4_sort : GoodIn wsX2_settle wsX4_sort := goodIn_r _ [22, 23, 24, 25, 26, 27, 21, 28, 29, 30, 31, 32, 9, 33, 12, 34, 35, 36, 37, 38, 39, 40, 41, 42, 43, 44, 45, 46, 47, 14, 15, 16, 17, 48, 49, 50, 51, 61, 62, 63, 64, 58, 59, 60] (by decide +kernel) (by decide +kernel)
set_option maxRecDepth 20000 in
theorem gX2_settle_X4_sort : GoodIn wsX2_settle (wsV RX2 55 RX4 yX4_sort wsX4_sort) := goodIn_app (goodIn_of _ (by decide +kernel)) ggX2_settle_X4_sort
theorem dX2_settle_0 : decode cX2_settle 0 = .ok (.aload_n 0, 1) := by decide +kernel
theorem dX2_settle_1 : decode cX2_settle 1 = .ok (.aload_n 0, 1) := by decide +kernel
theorem dX2_settle_2 : decode cX2_settle 2 = .ok (.getfield 14, 3) := by decide +kernel
theorem dX2_settle_5 : decode cX2_settle 5 = .ok (.invokevirtual 51, 3) := by decide +kernel
theorem dX2_settle_8 : decode cX2_settle 8 = .ok (.putfield 35, 3) := by decide +kernel
theorem dX2_settle_11 : decode cX2_settle 11 = .ok (.aload_n 0, 1) := by decide +kernel
theorem dX2_settle_12 : decode cX2_settle 12 = .ok (.aload_n 0, 1) := by decide +kernel
theorem dX2_settle_13 : decode cX2_settle 13 = .ok (.getfield 35, 3) := by decide +kernel
theorem dX2_settle_16 : decode cX2_settle 16 = .ok (.aload_n 0, 1) := by decide +kernel
theorem dX2_settle_17 : decode cX2_settle 17 = .ok (.getfield 27, 3) := by decide +kernel
theorem dX2_settle_20 : decode cX2_settle 20 = .ok (.invokevirtual 51, 3) := by decide +kernel
theorem dX2_settle_23 : decode cX2_settle 23 = .ok (.land, 1) := by decide +kernel
theorem dX2_settle_24 : decode cX2_settle 24 = .ok (.putfield 39, 3) := by decide +kernel
theorem dX2_settle_27 : decode cX2_settle 27 = .ok (.aload_n 0, 1) := by decide +kernel
theorem dX2_settle_28 : decode cX2_settle 28 = .ok (.getfield 23, 3) := by decide +kernel
theorem dX2_settle_31 : decode cX2_settle 31 = .ok (.aload_n 0, 1) := by decide +kernel
theorem dX2_settle_32 : decode cX2_settle 32 = .ok (.getfield 35, 3) := by decide +kernel
theorem dX2_settle_35 : decode cX2_settle 35 = .ok (.invokevirtual 55, 3) := by decide +kernel
theorem dX2_settle_38 : decode cX2_settle 38 = .ok (.return_, 1) := by decide +kernel
theorem dX2_worldsThere_0 : decode cX2_worldsThere 0 = .ok (.aload_n 0, 1) := by decide +kernel
theorem dX2_worldsThere_1 : decode cX2_worldsThere 1 = .ok (.getfield 35, 3) := by decide +kernel
theorem dX2_worldsThere_4 : decode cX2_worldsThere 4 = .ok (.lreturn, 1) := by decide +kernel
theorem dX2_worldsOfGround_0 : decode cX2_worldsOfGround 0 = .ok (.aload_n 0, 1) := by decide +kernel
theorem dX2_worldsOfGround_1 : decode cX2_worldsOfGround 1 = .ok (.getfield 39, 3) := by decide +kernel
theorem dX2_worldsOfGround_4 : decode cX2_worldsOfGround 4 = .ok (.lreturn, 1) := by decide +kernel
set_option maxRecDepth 20000 in
theorem ggX2_unbroken_X4_size : GoodIn wsX2_unbroken wsX4_size := goodIn_r _ [8, 9, 10, 11, 12, 13, 14, 15, 33, 34, 35, 36, 37, 38, 39] (by decide +kernel) (by decide +kernel)
set_option maxRecDepth 20000 in
theorem gX2_unbroken_X4_size : GoodIn wsX2_unbroken (wsV RX2 46 RX4 yX4_size wsX4_size) := goodIn_app (goodIn_of _ (by decide +kernel)) ggX2_unbroken_X4_size
set_option maxRecDepth 20000 in
theorem ggX2_unbroken_X4_breaking : GoodIn wsX2_unbroken wsX4_breaking := goodIn_r _ [19, 9, 20, 21, 22, 23, 24, 13, 25, 15, 26, 33, 34, 35, 36, 37, 38, 39] (by decide +kernel) (by decide +kernel)
set_option maxRecDepth 20000 in
theorem gX2_unbroken_X4_breaking : GoodIn wsX2_unbroken (wsV RX2 59 RX4 yX4_breaking wsX4_breaking) := goodIn_app (goodIn_of _ (by decide +kernel)) ggX2_unbroken_X4_breaking
theorem dX2_unbroken_0 : decode cX2_unbroken 0 = .ok (.aload_n 0, 1) := by decide +kernel
theorem dX2_unbroken_1 : decode cX2_unbroken 1 = .ok (.getfield 35, 3) := by decide +kernel
theorem dX2_unbroken_4 : decode cX2_unbroken 4 = .ok (.lstore_n 1, 1) := by decide +kernel
theorem dX2_unbroken_5 : decode cX2_unbroken 5 = .ok (.iconst 0, 1) := by decide +kernel
theorem dX2_unbroken_6 : decode cX2_unbroken 6 = .ok (.istore_n 3, 1) := by decide +kernel
theorem dX2_unbroken_7 : decode cX2_unbroken 7 = .ok (.iload_n 3, 1) := by decide +kernel
theorem dX2_unbroken_8 : decode cX2_unbroken 8 = .ok (.aload_n 0, 1) := by decide +kernel
theorem dX2_unbroken_9 : decode cX2_unbroken 9 = .ok (.getfield 23, 3) := by decide +kernel
theorem dX2_unbroken_12 : decode cX2_unbroken 12 = .ok (.invokevirtual 46, 3) := by decide +kernel
theorem dX2_unbroken_15 : decode cX2_unbroken 15 = .ok (.if_icmp .ge 24, 3) := by decide +kernel
theorem dX2_unbroken_18 : decode cX2_unbroken 18 = .ok (.lload_n 1, 1) := by decide +kernel
theorem dX2_unbroken_19 : decode cX2_unbroken 19 = .ok (.aload_n 0, 1) := by decide +kernel
theorem dX2_unbroken_20 : decode cX2_unbroken 20 = .ok (.getfield 23, 3) := by decide +kernel
theorem dX2_unbroken_23 : decode cX2_unbroken 23 = .ok (.iload_n 3, 1) := by decide +kernel
theorem dX2_unbroken_24 : decode cX2_unbroken 24 = .ok (.invokevirtual 59, 3) := by decide +kernel
theorem dX2_unbroken_27 : decode cX2_unbroken 27 = .ok (.ldc2_w 33, 3) := by decide +kernel
theorem dX2_unbroken_30 : decode cX2_unbroken 30 = .ok (.lxor, 1) := by decide +kernel
theorem dX2_unbroken_31 : decode cX2_unbroken 31 = .ok (.land, 1) := by decide +kernel
theorem dX2_unbroken_32 : decode cX2_unbroken 32 = .ok (.lstore_n 1, 1) := by decide +kernel
theorem dX2_unbroken_33 : decode cX2_unbroken 33 = .ok (.iinc 3 1, 3) := by decide +kernel
theorem dX2_unbroken_36 : decode cX2_unbroken 36 = .ok (.goto (-29), 3) := by decide +kernel
theorem dX2_unbroken_39 : decode cX2_unbroken 39 = .ok (.lload_n 1, 1) := by decide +kernel
theorem dX2_unbroken_40 : decode cX2_unbroken 40 = .ok (.lreturn, 1) := by decide +kernel
set_option maxRecDepth 20000 in
theorem ggX2_rank_X7_holds : GoodIn wsX2_rank wsX7_holds := goodIn_r _ [5] (by decide +kernel) (by decide +kernel)
set_option maxRecDepth 20000 in
theorem gX2_rank_X7_holds_n63 : GoodIn wsX2_rank (wsX7_holds) := ggX2_rank_X7_holds
set_option maxRecDepth 20000 in
theorem ggX2_rank_X4_brokenIn : GoodIn wsX2_rank wsX4_brokenIn := goodIn_r _ [10, 11, 12, 13, 9, 14, 15, 16, 17, 18, 19, 20, 21, 22, 23, 24, 25, 26, 27, 28, 29, 30, 31, 32, 3, 4, 5, 58, 59, 60, 61, 62, 63, 64] (by decide +kernel) (by decide +kernel)
set_option maxRecDepth 20000 in
theorem gX2_rank_X4_brokenIn : GoodIn wsX2_rank (wsV RX2 67 RX4 yX4_brokenIn wsX4_brokenIn) := goodIn_app (goodIn_of _ (by decide +kernel)) ggX2_rank_X4_brokenIn
set_option maxRecDepth 20000 in
theorem ggX2_rank_X4_rankOf : GoodIn wsX2_rank wsX4_rankOf := goodIn_r _ [36, 37, 38, 39, 40, 11, 12, 13, 9, 14, 15, 16, 17, 18, 19, 20, 21, 41, 4, 42, 43, 44, 45, 46, 47, 48, 49, 50, 51, 58, 59, 60, 61, 62, 63, 64] (by decide +kernel) (by decide +kernel)
set_option maxRecDepth 20000 in
theorem gX2_rank_X4_rankOf : GoodIn wsX2_rank (wsV RX2 71 RX4 yX4_rankOf wsX4_rankOf) := goodIn_app (goodIn_of _ (by decide +kernel)) ggX2_rank_X4_rankOf
theorem dX2_rank_0 : decode cX2_rank 0 = .ok (.aload_n 0, 1) := by decide +kernel
theorem dX2_rank_1 : decode cX2_rank 1 = .ok (.getfield 35, 3) := by decide +kernel
theorem dX2_rank_4 : decode cX2_rank 4 = .ok (.iload_n 1, 1) := by decide +kernel
theorem dX2_rank_5 : decode cX2_rank 5 = .ok (.invokestatic 63, 3) := by decide +kernel
theorem dX2_rank_8 : decode cX2_rank 8 = .ok (.ifCond .eq 21, 3) := by decide +kernel
theorem dX2_rank_11 : decode cX2_rank 11 = .ok (.aload_n 0, 1) := by decide +kernel
theorem dX2_rank_12 : decode cX2_rank 12 = .ok (.getfield 23, 3) := by decide +kernel
theorem dX2_rank_15 : decode cX2_rank 15 = .ok (.aload_n 0, 1) := by decide +kernel
theorem dX2_rank_16 : decode cX2_rank 16 = .ok (.getfield 23, 3) := by decide +kernel
theorem dX2_rank_19 : decode cX2_rank 19 = .ok (.iload_n 1, 1) := by decide +kernel
theorem dX2_rank_20 : decode cX2_rank 20 = .ok (.invokevirtual 67, 3) := by decide +kernel
theorem dX2_rank_23 : decode cX2_rank 23 = .ok (.invokevirtual 71, 3) := by decide +kernel
theorem dX2_rank_26 : decode cX2_rank 26 = .ok (.goto 5, 3) := by decide +kernel
theorem dX2_rank_29 : decode cX2_rank 29 = .ok (.bipush (-9), 2) := by decide +kernel
theorem dX2_rank_31 : decode cX2_rank 31 = .ok (.ireturn, 1) := by decide +kernel
set_option maxRecDepth 20000 in
theorem ggX2_least_X7_holds : GoodIn wsX2_least wsX7_holds := goodIn_r _ [6] (by decide +kernel) (by decide +kernel)
set_option maxRecDepth 20000 in
theorem gX2_least_X7_holds_n63 : GoodIn wsX2_least (wsX7_holds) := ggX2_least_X7_holds
set_option maxRecDepth 20000 in
theorem ggX2_least_X4_brokenIn : GoodIn wsX2_least wsX4_brokenIn := goodIn_r _ [11, 12, 13, 14, 10, 15, 16, 17, 18, 19, 20, 21, 22, 23, 24, 25, 26, 27, 28, 29, 30, 31, 32, 33, 4, 5, 6, 63, 64, 65, 66, 67, 68, 69] (by decide +kernel) (by decide +kernel)
set_option maxRecDepth 20000 in
theorem gX2_least_X4_brokenIn : GoodIn wsX2_least (wsV RX2 67 RX4 yX4_brokenIn wsX4_brokenIn) := goodIn_app (goodIn_of _ (by decide +kernel)) ggX2_least_X4_brokenIn
set_option maxRecDepth 20000 in
theorem ggX2_least_X4_rankOf : GoodIn wsX2_least wsX4_rankOf := goodIn_r _ [37, 38, 39, 40, 41, 12, 13, 14, 10, 15, 16, 17, 18, 19, 20, 21, 22, 42, 5, 43, 44, 45, 46, 47, 48, 49, 50, 51, 52, 63, 64, 65, 66, 67, 68, 69] (by decide +kernel) (by decide +kernel)
set_option maxRecDepth 20000 in
theorem gX2_least_X4_rankOf : GoodIn wsX2_least (wsV RX2 71 RX4 yX4_rankOf wsX4_rankOf) := goodIn_app (goodIn_of _ (by decide +kernel)) ggX2_least_X4_rankOf
set_option maxRecDepth 20000 in
theorem ggX2_least_X4_tallyOf : GoodIn wsX2_least wsX4_tallyOf := goodIn_r _ [56, 12, 13, 14, 10, 15, 16, 17, 18, 19, 20, 21, 22, 42, 5, 43, 44, 45, 46, 47, 48, 49, 50, 51, 52, 63, 64, 65, 66, 67, 68, 69] (by decide +kernel) (by decide +kernel)
set_option maxRecDepth 20000 in
theorem gX2_least_X4_tallyOf : GoodIn wsX2_least (wsV RX2 78 RX4 yX4_tallyOf wsX4_tallyOf) := goodIn_app (goodIn_of _ (by decide +kernel)) ggX2_least_X4_tallyOf
theorem dX2_least_0 : decode cX2_least 0 = .ok (.lconst 0, 1) := by decide +kernel
theorem dX2_least_1 : decode cX2_least 1 = .ok (.lstore 4, 2) := by decide +kernel
theorem dX2_least_3 : decode cX2_least 3 = .ok (.ldc2_w 76, 3) := by decide +kernel
theorem dX2_least_6 : decode cX2_least 6 = .ok (.lstore 6, 2) := by decide +kernel
theorem dX2_least_8 : decode cX2_least 8 = .ok (.iconst 0, 1) := by decide +kernel
theorem dX2_least_9 : decode cX2_least 9 = .ok (.istore 8, 2) := by decide +kernel
theorem dX2_least_11 : decode cX2_least 11 = .ok (.iload 8, 2) := by decide +kernel
theorem dX2_least_13 : decode cX2_least 13 = .ok (.bipush 64, 2) := by decide +kernel
theorem dX2_least_15 : decode cX2_least 15 = .ok (.if_icmp .ge 94, 3) := by decide +kernel
theorem dX2_least_18 : decode cX2_least 18 = .ok (.aload_n 0, 1) := by decide +kernel
theorem dX2_least_19 : decode cX2_least 19 = .ok (.getfield 35, 3) := by decide +kernel
theorem dX2_least_22 : decode cX2_least 22 = .ok (.lload_n 1, 1) := by decide +kernel
theorem dX2_least_23 : decode cX2_least 23 = .ok (.land, 1) := by decide +kernel
theorem dX2_least_24 : decode cX2_least 24 = .ok (.iload 8, 2) := by decide +kernel
theorem dX2_least_26 : decode cX2_least 26 = .ok (.invokestatic 63, 3) := by decide +kernel
theorem dX2_least_29 : decode cX2_least 29 = .ok (.ifCond .eq 74, 3) := by decide +kernel
theorem dX2_least_32 : decode cX2_least 32 = .ok (.aload_n 0, 1) := by decide +kernel
theorem dX2_least_33 : decode cX2_least 33 = .ok (.getfield 23, 3) := by decide +kernel
theorem dX2_least_36 : decode cX2_least 36 = .ok (.iload 8, 2) := by decide +kernel
theorem dX2_least_38 : decode cX2_least 38 = .ok (.invokevirtual 67, 3) := by decide +kernel
theorem dX2_least_41 : decode cX2_least 41 = .ok (.istore 9, 2) := by decide +kernel
theorem dX2_least_43 : decode cX2_least 43 = .ok (.iload_n 3, 1) := by decide +kernel
theorem dX2_least_44 : decode cX2_least 44 = .ok (.ifCond .ne 16, 3) := by decide +kernel
theorem dX2_least_47 : decode cX2_least 47 = .ok (.aload_n 0, 1) := by decide +kernel
theorem dX2_least_48 : decode cX2_least 48 = .ok (.getfield 23, 3) := by decide +kernel
theorem dX2_least_51 : decode cX2_least 51 = .ok (.iload 9, 2) := by decide +kernel
theorem dX2_least_53 : decode cX2_least 53 = .ok (.invokevirtual 71, 3) := by decide +kernel
theorem dX2_least_56 : decode cX2_least 56 = .ok (.i2l, 1) := by decide +kernel
theorem dX2_least_57 : decode cX2_least 57 = .ok (.goto 12, 3) := by decide +kernel
theorem dX2_least_60 : decode cX2_least 60 = .ok (.aload_n 0, 1) := by decide +kernel
theorem dX2_least_61 : decode cX2_least 61 = .ok (.getfield 23, 3) := by decide +kernel
theorem dX2_least_64 : decode cX2_least 64 = .ok (.iload 9, 2) := by decide +kernel
theorem dX2_least_66 : decode cX2_least 66 = .ok (.invokevirtual 78, 3) := by decide +kernel
theorem dX2_least_69 : decode cX2_least 69 = .ok (.lstore 10, 2) := by decide +kernel
theorem dX2_least_71 : decode cX2_least 71 = .ok (.lload 10, 2) := by decide +kernel
theorem dX2_least_73 : decode cX2_least 73 = .ok (.lload 6, 2) := by decide +kernel
theorem dX2_least_75 : decode cX2_least 75 = .ok (.lcmp, 1) := by decide +kernel
theorem dX2_least_76 : decode cX2_least 76 = .ok (.ifCond .ge 10, 3) := by decide +kernel
theorem dX2_least_79 : decode cX2_least 79 = .ok (.lload 10, 2) := by decide +kernel
theorem dX2_least_81 : decode cX2_least 81 = .ok (.lstore 6, 2) := by decide +kernel
theorem dX2_least_83 : decode cX2_least 83 = .ok (.lconst 0, 1) := by decide +kernel
theorem dX2_least_84 : decode cX2_least 84 = .ok (.lstore 4, 2) := by decide +kernel
theorem dX2_least_86 : decode cX2_least 86 = .ok (.lload 10, 2) := by decide +kernel
theorem dX2_least_88 : decode cX2_least 88 = .ok (.lload 6, 2) := by decide +kernel
theorem dX2_least_90 : decode cX2_least 90 = .ok (.lcmp, 1) := by decide +kernel
theorem dX2_least_91 : decode cX2_least 91 = .ok (.ifCond .ne 12, 3) := by decide +kernel
theorem dX2_least_94 : decode cX2_least 94 = .ok (.lload 4, 2) := by decide +kernel
theorem dX2_least_96 : decode cX2_least 96 = .ok (.lconst 1, 1) := by decide +kernel
theorem dX2_least_97 : decode cX2_least 97 = .ok (.iload 8, 2) := by decide +kernel
theorem dX2_least_99 : decode cX2_least 99 = .ok (.lshl, 1) := by decide +kernel
theorem dX2_least_100 : decode cX2_least 100 = .ok (.lor, 1) := by decide +kernel
theorem dX2_least_101 : decode cX2_least 101 = .ok (.lstore 4, 2) := by decide +kernel
theorem dX2_least_103 : decode cX2_least 103 = .ok (.iinc 8 1, 3) := by decide +kernel
theorem dX2_least_106 : decode cX2_least 106 = .ok (.goto (-95), 3) := by decide +kernel
theorem dX2_least_109 : decode cX2_least 109 = .ok (.lload 4, 2) := by decide +kernel
theorem dX2_least_111 : decode cX2_least 111 = .ok (.lreturn, 1) := by decide +kernel
set_option maxRecDepth 20000 in
theorem ggX2_tellsWhy_X5_size : GoodIn wsX2_tellsWhy wsX5_size := goodIn_r _ [6, 7, 31, 32, 33] (by decide +kernel) (by decide +kernel)
set_option maxRecDepth 20000 in
theorem gX2_tellsWhy_X5_size : GoodIn wsX2_tellsWhy (wsV RX2 42 RX5 yX5_size wsX5_size) := goodIn_app (goodIn_of _ (by decide +kernel)) ggX2_tellsWhy_X5_size
set_option maxRecDepth 20000 in
theorem ggX2_tellsWhy_X2_guessed : GoodIn wsX2_tellsWhy wsX2_guessed := goodIn_r _ [12, 13, 1, 2, 3, 4, 5, 6, 7, 14, 15, 16, 17, 18, 19, 20, 21, 25, 26, 27, 28, 29, 30, 31, 32, 33] (by decide +kernel) (by decide +kernel)
set_option maxRecDepth 20000 in
theorem gX2_tellsWhy_X2_guessed : GoodIn wsX2_tellsWhy (wsV RX2 81 RX2 yX2_guessed wsX2_guessed) := goodIn_app (goodIn_of _ (by decide +kernel)) ggX2_tellsWhy_X2_guessed
set_option maxRecDepth 20000 in
theorem ggX2_tellsWhy_X7_allIn : GoodIn wsX2_tellsWhy wsX7_allIn := goodIn_r _ [23, 24] (by decide +kernel) (by decide +kernel)
set_option maxRecDepth 20000 in
theorem gX2_tellsWhy_X7_allIn_n84 : GoodIn wsX2_tellsWhy (wsX7_allIn) := ggX2_tellsWhy_X7_allIn
set_option maxRecDepth 20000 in
theorem ggX2_tellsWhy_X7_inSet : GoodIn wsX2_tellsWhy wsX7_inSet := goodIn_r _ [16] (by decide +kernel) (by decide +kernel)
set_option maxRecDepth 20000 in
theorem gX2_tellsWhy_X7_inSet_n88 : GoodIn wsX2_tellsWhy (wsX7_inSet) := ggX2_tellsWhy_X7_inSet
theorem dX2_tellsWhy_0 : decode cX2_tellsWhy 0 = .ok (.iload_n 1, 1) := by decide +kernel
theorem dX2_tellsWhy_1 : decode cX2_tellsWhy 1 = .ok (.aload_n 0, 1) := by decide +kernel
theorem dX2_tellsWhy_2 : decode cX2_tellsWhy 2 = .ok (.getfield 30, 3) := by decide +kernel
theorem dX2_tellsWhy_5 : decode cX2_tellsWhy 5 = .ok (.invokevirtual 42, 3) := by decide +kernel
theorem dX2_tellsWhy_8 : decode cX2_tellsWhy 8 = .ok (.iushr, 1) := by decide +kernel
theorem dX2_tellsWhy_9 : decode cX2_tellsWhy 9 = .ok (.ifCond .eq 5, 3) := by decide +kernel
theorem dX2_tellsWhy_12 : decode cX2_tellsWhy 12 = .ok (.iconst 0, 1) := by decide +kernel
theorem dX2_tellsWhy_13 : decode cX2_tellsWhy 13 = .ok (.ireturn, 1) := by decide +kernel
theorem dX2_tellsWhy_14 : decode cX2_tellsWhy 14 = .ok (.aload_n 0, 1) := by decide +kernel
theorem dX2_tellsWhy_15 : decode cX2_tellsWhy 15 = .ok (.iload_n 1, 1) := by decide +kernel
theorem dX2_tellsWhy_16 : decode cX2_tellsWhy 16 = .ok (.invokevirtual 81, 3) := by decide +kernel
theorem dX2_tellsWhy_19 : decode cX2_tellsWhy 19 = .ok (.lstore 4, 2) := by decide +kernel
theorem dX2_tellsWhy_21 : decode cX2_tellsWhy 21 = .ok (.lload 4, 2) := by decide +kernel
theorem dX2_tellsWhy_23 : decode cX2_tellsWhy 23 = .ok (.lconst 0, 1) := by decide +kernel
theorem dX2_tellsWhy_24 : decode cX2_tellsWhy 24 = .ok (.lcmp, 1) := by decide +kernel
theorem dX2_tellsWhy_25 : decode cX2_tellsWhy 25 = .ok (.ifCond .eq 12, 3) := by decide +kernel
theorem dX2_tellsWhy_28 : decode cX2_tellsWhy 28 = .ok (.lload 4, 2) := by decide +kernel
theorem dX2_tellsWhy_30 : decode cX2_tellsWhy 30 = .ok (.lload_n 2, 1) := by decide +kernel
theorem dX2_tellsWhy_31 : decode cX2_tellsWhy 31 = .ok (.invokestatic 84, 3) := by decide +kernel
theorem dX2_tellsWhy_34 : decode cX2_tellsWhy 34 = .ok (.ifCond .ne 5, 3) := by decide +kernel
theorem dX2_tellsWhy_37 : decode cX2_tellsWhy 37 = .ok (.iconst 0, 1) := by decide +kernel
theorem dX2_tellsWhy_38 : decode cX2_tellsWhy 38 = .ok (.ireturn, 1) := by decide +kernel
theorem dX2_tellsWhy_39 : decode cX2_tellsWhy 39 = .ok (.iconst 0, 1) := by decide +kernel
theorem dX2_tellsWhy_40 : decode cX2_tellsWhy 40 = .ok (.istore 6, 2) := by decide +kernel
theorem dX2_tellsWhy_42 : decode cX2_tellsWhy 42 = .ok (.iload 6, 2) := by decide +kernel
theorem dX2_tellsWhy_44 : decode cX2_tellsWhy 44 = .ok (.aload_n 0, 1) := by decide +kernel
theorem dX2_tellsWhy_45 : decode cX2_tellsWhy 45 = .ok (.getfield 30, 3) := by decide +kernel
theorem dX2_tellsWhy_48 : decode cX2_tellsWhy 48 = .ok (.invokevirtual 42, 3) := by decide +kernel
theorem dX2_tellsWhy_51 : decode cX2_tellsWhy 51 = .ok (.if_icmp .ge 39, 3) := by decide +kernel
theorem dX2_tellsWhy_54 : decode cX2_tellsWhy 54 = .ok (.iload_n 1, 1) := by decide +kernel
theorem dX2_tellsWhy_55 : decode cX2_tellsWhy 55 = .ok (.iload 6, 2) := by decide +kernel
theorem dX2_tellsWhy_57 : decode cX2_tellsWhy 57 = .ok (.invokestatic 88, 3) := by decide +kernel
theorem dX2_tellsWhy_60 : decode cX2_tellsWhy 60 = .ok (.ifCond .eq 24, 3) := by decide +kernel
theorem dX2_tellsWhy_63 : decode cX2_tellsWhy 63 = .ok (.aload_n 0, 1) := by decide +kernel
theorem dX2_tellsWhy_64 : decode cX2_tellsWhy 64 = .ok (.iload_n 1, 1) := by decide +kernel
theorem dX2_tellsWhy_65 : decode cX2_tellsWhy 65 = .ok (.iconst 1, 1) := by decide +kernel
theorem dX2_tellsWhy_66 : decode cX2_tellsWhy 66 = .ok (.iload 6, 2) := by decide +kernel
theorem dX2_tellsWhy_68 : decode cX2_tellsWhy 68 = .ok (.ishl, 1) := by decide +kernel
theorem dX2_tellsWhy_69 : decode cX2_tellsWhy 69 = .ok (.iconst (-1), 1) := by decide +kernel
theorem dX2_tellsWhy_70 : decode cX2_tellsWhy 70 = .ok (.ixor, 1) := by decide +kernel
theorem dX2_tellsWhy_71 : decode cX2_tellsWhy 71 = .ok (.iand, 1) := by decide +kernel
theorem dX2_tellsWhy_72 : decode cX2_tellsWhy 72 = .ok (.invokevirtual 81, 3) := by decide +kernel
theorem dX2_tellsWhy_75 : decode cX2_tellsWhy 75 = .ok (.lload_n 2, 1) := by decide +kernel
theorem dX2_tellsWhy_76 : decode cX2_tellsWhy 76 = .ok (.invokestatic 84, 3) := by decide +kernel
theorem dX2_tellsWhy_79 : decode cX2_tellsWhy 79 = .ok (.ifCond .eq 5, 3) := by decide +kernel
theorem dX2_tellsWhy_82 : decode cX2_tellsWhy 82 = .ok (.iconst 0, 1) := by decide +kernel
theorem dX2_tellsWhy_83 : decode cX2_tellsWhy 83 = .ok (.ireturn, 1) := by decide +kernel
theorem dX2_tellsWhy_84 : decode cX2_tellsWhy 84 = .ok (.iinc 6 1, 3) := by decide +kernel
theorem dX2_tellsWhy_87 : decode cX2_tellsWhy 87 = .ok (.goto (-45), 3) := by decide +kernel
theorem dX2_tellsWhy_90 : decode cX2_tellsWhy 90 = .ok (.iconst 1, 1) := by decide +kernel
theorem dX2_tellsWhy_91 : decode cX2_tellsWhy 91 = .ok (.ireturn, 1) := by decide +kernel
set_option maxRecDepth 20000 in
theorem ggX2_guessed_X5_size : GoodIn wsX2_guessed wsX5_size := goodIn_r _ [7, 8, 23, 24, 25] (by decide +kernel) (by decide +kernel)
set_option maxRecDepth 20000 in
theorem gX2_guessed_X5_size : GoodIn wsX2_guessed (wsV RX2 42 RX5 yX5_size wsX5_size) := goodIn_app (goodIn_of _ (by decide +kernel)) ggX2_guessed_X5_size
set_option maxRecDepth 20000 in
theorem ggX2_guessed_X7_inSet : GoodIn wsX2_guessed wsX7_inSet := goodIn_r _ [11] (by decide +kernel) (by decide +kernel)
set_option maxRecDepth 20000 in
theorem gX2_guessed_X7_inSet_n88 : GoodIn wsX2_guessed (wsX7_inSet) := ggX2_guessed_X7_inSet
set_option maxRecDepth 20000 in
theorem ggX2_guessed_X5_get : GoodIn wsX2_guessed wsX5_get := goodIn_r _ [15, 8, 16, 23, 24, 25] (by decide +kernel) (by decide +kernel)
set_option maxRecDepth 20000 in
theorem gX2_guessed_X5_get : GoodIn wsX2_guessed (wsV RX2 92 RX5 yX5_get wsX5_get) := goodIn_app (goodIn_of _ (by decide +kernel)) ggX2_guessed_X5_get
theorem dX2_guessed_0 : decode cX2_guessed 0 = .ok (.aload_n 0, 1) := by decide +kernel
theorem dX2_guessed_1 : decode cX2_guessed 1 = .ok (.getfield 39, 3) := by decide +kernel
theorem dX2_guessed_4 : decode cX2_guessed 4 = .ok (.lstore_n 2, 1) := by decide +kernel
theorem dX2_guessed_5 : decode cX2_guessed 5 = .ok (.iconst 0, 1) := by decide +kernel
theorem dX2_guessed_6 : decode cX2_guessed 6 = .ok (.istore 4, 2) := by decide +kernel
theorem dX2_guessed_8 : decode cX2_guessed 8 = .ok (.iload 4, 2) := by decide +kernel
theorem dX2_guessed_10 : decode cX2_guessed 10 = .ok (.aload_n 0, 1) := by decide +kernel
theorem dX2_guessed_11 : decode cX2_guessed 11 = .ok (.getfield 30, 3) := by decide +kernel
theorem dX2_guessed_14 : decode cX2_guessed 14 = .ok (.invokevirtual 42, 3) := by decide +kernel
theorem dX2_guessed_17 : decode cX2_guessed 17 = .ok (.if_icmp .ge 30, 3) := by decide +kernel
theorem dX2_guessed_20 : decode cX2_guessed 20 = .ok (.iload_n 1, 1) := by decide +kernel
theorem dX2_guessed_21 : decode cX2_guessed 21 = .ok (.iload 4, 2) := by decide +kernel
theorem dX2_guessed_23 : decode cX2_guessed 23 = .ok (.invokestatic 88, 3) := by decide +kernel
theorem dX2_guessed_26 : decode cX2_guessed 26 = .ok (.ifCond .eq 15, 3) := by decide +kernel
theorem dX2_guessed_29 : decode cX2_guessed 29 = .ok (.lload_n 2, 1) := by decide +kernel
theorem dX2_guessed_30 : decode cX2_guessed 30 = .ok (.aload_n 0, 1) := by decide +kernel
theorem dX2_guessed_31 : decode cX2_guessed 31 = .ok (.getfield 30, 3) := by decide +kernel
theorem dX2_guessed_34 : decode cX2_guessed 34 = .ok (.iload 4, 2) := by decide +kernel
theorem dX2_guessed_36 : decode cX2_guessed 36 = .ok (.invokevirtual 92, 3) := by decide +kernel
theorem dX2_guessed_39 : decode cX2_guessed 39 = .ok (.land, 1) := by decide +kernel
theorem dX2_guessed_40 : decode cX2_guessed 40 = .ok (.lstore_n 2, 1) := by decide +kernel
theorem dX2_guessed_41 : decode cX2_guessed 41 = .ok (.iinc 4 1, 3) := by decide +kernel
theorem dX2_guessed_44 : decode cX2_guessed 44 = .ok (.goto (-36), 3) := by decide +kernel
theorem dX2_guessed_47 : decode cX2_guessed 47 = .ok (.lload_n 2, 1) := by decide +kernel
theorem dX2_guessed_48 : decode cX2_guessed 48 = .ok (.lreturn, 1) := by decide +kernel
theorem dX3_init_0 : decode cX3_init 0 = .ok (.aload_n 0, 1) := by decide +kernel
theorem dX3_init_1 : decode cX3_init 1 = .ok (.invokespecial 3, 3) := by decide +kernel
theorem dX3_init_4 : decode cX3_init 4 = .ok (.aload_n 0, 1) := by decide +kernel
theorem dX3_init_5 : decode cX3_init 5 = .ok (.sipush 401, 3) := by decide +kernel
theorem dX3_init_8 : decode cX3_init 8 = .ok (.newarray .int, 2) := by decide +kernel
theorem dX3_init_10 : decode cX3_init 10 = .ok (.putfield 9, 3) := by decide +kernel
theorem dX3_init_13 : decode cX3_init 13 = .ok (.aload_n 0, 1) := by decide +kernel
theorem dX3_init_14 : decode cX3_init 14 = .ok (.sipush 401, 3) := by decide +kernel
theorem dX3_init_17 : decode cX3_init 17 = .ok (.newarray .int, 2) := by decide +kernel
theorem dX3_init_19 : decode cX3_init 19 = .ok (.putfield 15, 3) := by decide +kernel
theorem dX3_init_22 : decode cX3_init 22 = .ok (.aload_n 0, 1) := by decide +kernel
theorem dX3_init_23 : decode cX3_init 23 = .ok (.iconst 0, 1) := by decide +kernel
theorem dX3_init_24 : decode cX3_init 24 = .ok (.putfield 18, 3) := by decide +kernel
theorem dX3_init_27 : decode cX3_init 27 = .ok (.aload_n 0, 1) := by decide +kernel
theorem dX3_init_28 : decode cX3_init 28 = .ok (.iconst 0, 1) := by decide +kernel
theorem dX3_init_29 : decode cX3_init 29 = .ok (.putfield 22, 3) := by decide +kernel
theorem dX3_init_32 : decode cX3_init 32 = .ok (.aload_n 0, 1) := by decide +kernel
theorem dX3_init_33 : decode cX3_init 33 = .ok (.sipush 256, 3) := by decide +kernel
theorem dX3_init_36 : decode cX3_init 36 = .ok (.putfield 25, 3) := by decide +kernel
theorem dX3_init_39 : decode cX3_init 39 = .ok (.aload_n 0, 1) := by decide +kernel
theorem dX3_init_40 : decode cX3_init 40 = .ok (.ldc2_w 28, 3) := by decide +kernel
theorem dX3_init_43 : decode cX3_init 43 = .ok (.putfield 30, 3) := by decide +kernel
theorem dX3_init_46 : decode cX3_init 46 = .ok (.aload_n 0, 1) := by decide +kernel
theorem dX3_init_47 : decode cX3_init 47 = .ok (.ldc2_w 28, 3) := by decide +kernel
theorem dX3_init_50 : decode cX3_init 50 = .ok (.putfield 34, 3) := by decide +kernel
theorem dX3_init_53 : decode cX3_init 53 = .ok (.return_, 1) := by decide +kernel
theorem dX3_isWrong_0 : decode cX3_isWrong 0 = .ok (.aload_n 0, 1) := by decide +kernel
theorem dX3_isWrong_1 : decode cX3_isWrong 1 = .ok (.getfield 25, 3) := by decide +kernel
theorem dX3_isWrong_4 : decode cX3_isWrong 4 = .ok (.sipush 257, 3) := by decide +kernel
theorem dX3_isWrong_7 : decode cX3_isWrong 7 = .ok (.if_icmp .ne 7, 3) := by decide +kernel
theorem dX3_isWrong_10 : decode cX3_isWrong 10 = .ok (.iconst 1, 1) := by decide +kernel
theorem dX3_isWrong_11 : decode cX3_isWrong 11 = .ok (.goto 4, 3) := by decide +kernel
theorem dX3_isWrong_14 : decode cX3_isWrong 14 = .ok (.iconst 0, 1) := by decide +kernel
theorem dX3_isWrong_15 : decode cX3_isWrong 15 = .ok (.ireturn, 1) := by decide +kernel
theorem dX3_fault_0 : decode cX3_fault 0 = .ok (.aload_n 0, 1) := by decide +kernel
theorem dX3_fault_1 : decode cX3_fault 1 = .ok (.getfield 22, 3) := by decide +kernel
theorem dX3_fault_4 : decode cX3_fault 4 = .ok (.ifCond .lt 27, 3) := by decide +kernel
theorem dX3_fault_7 : decode cX3_fault 7 = .ok (.aload_n 0, 1) := by decide +kernel
theorem dX3_fault_8 : decode cX3_fault 8 = .ok (.getfield 22, 3) := by decide +kernel
theorem dX3_fault_11 : decode cX3_fault 11 = .ok (.aload_n 0, 1) := by decide +kernel
theorem dX3_fault_12 : decode cX3_fault 12 = .ok (.getfield 15, 3) := by decide +kernel
theorem dX3_fault_15 : decode cX3_fault 15 = .ok (.arraylength, 1) := by decide +kernel
theorem dX3_fault_16 : decode cX3_fault 16 = .ok (.if_icmp .ge 15, 3) := by decide +kernel
theorem dX3_fault_19 : decode cX3_fault 19 = .ok (.aload_n 0, 1) := by decide +kernel
theorem dX3_fault_20 : decode cX3_fault 20 = .ok (.getfield 15, 3) := by decide +kernel
theorem dX3_fault_23 : decode cX3_fault 23 = .ok (.aload_n 0, 1) := by decide +kernel
theorem dX3_fault_24 : decode cX3_fault 24 = .ok (.getfield 22, 3) := by decide +kernel
theorem dX3_fault_27 : decode cX3_fault 27 = .ok (.iaload, 1) := by decide +kernel
theorem dX3_fault_28 : decode cX3_fault 28 = .ok (.goto 4, 3) := by decide +kernel
theorem dX3_fault_31 : decode cX3_fault 31 = .ok (.iconst 0, 1) := by decide +kernel
theorem dX3_fault_32 : decode cX3_fault 32 = .ok (.ireturn, 1) := by decide +kernel
theorem dX3_when_0 : decode cX3_when 0 = .ok (.aload_n 0, 1) := by decide +kernel
theorem dX3_when_1 : decode cX3_when 1 = .ok (.getfield 30, 3) := by decide +kernel
theorem dX3_when_4 : decode cX3_when 4 = .ok (.lreturn, 1) := by decide +kernel
theorem dX3_then_0 : decode cX3_then 0 = .ok (.aload_n 0, 1) := by decide +kernel
theorem dX3_then_1 : decode cX3_then 1 = .ok (.getfield 34, 3) := by decide +kernel
theorem dX3_then_4 : decode cX3_then 4 = .ok (.lreturn, 1) := by decide +kernel
set_option maxRecDepth 20000 in
theorem ggX3_start_X6_size : GoodIn wsX3_start wsX6_size := goodIn_r _ [7, 8, 97, 98] (by decide +kernel) (by decide +kernel)
set_option maxRecDepth 20000 in
theorem gX3_start_X6_size : GoodIn wsX3_start (wsV RX3 37 RX6 yX6_size wsX6_size) := goodIn_app (goodIn_of _ (by decide +kernel)) ggX3_start_X6_size
set_option maxRecDepth 20000 in
theorem ggX3_start_X6_at : GoodIn wsX3_start wsX6_at := goodIn_r _ [12, 8, 13, 97, 98] (by decide +kernel) (by decide +kernel)
set_option maxRecDepth 20000 in
theorem gX3_start_X6_at : GoodIn wsX3_start (wsV RX3 42 RX6 yX6_at wsX6_at) := goodIn_app (goodIn_of _ (by decide +kernel)) ggX3_start_X6_at
set_option maxRecDepth 20000 in
theorem ggX3_start_X3_isSmall : GoodIn wsX3_start wsX3_isSmall := goodIn_r _ [17] (by decide +kernel) (by decide +kernel)
set_option maxRecDepth 20000 in
theorem gX3_start_X3_isSmall : GoodIn wsX3_start (va_wsS RX3 46 yX3_isSmall wsX3_isSmall) := goodIn_app (goodIn_of _ (by decide +kernel)) ggX3_start_X3_isSmall
set_option maxRecDepth 20000 in
theorem ggX3_start_X3_wordLength : GoodIn wsX3_start wsX3_wordLength := goodIn_r _ [20, 9, 10, 11, 6, 12, 8, 13, 14, 15, 16, 17, 97, 98] (by decide +kernel) (by decide +kernel)
set_option maxRecDepth 20000 in
theorem gX3_start_X3_wordLength : GoodIn wsX3_start (va_wsS RX3 50 yX3_wordLength wsX3_wordLength) := goodIn_app (goodIn_of _ (by decide +kernel)) ggX3_start_X3_wordLength
set_option maxRecDepth 20000 in
theorem ggX3_start_X3_wordToken : GoodIn wsX3_start wsX3_wordToken := goodIn_r _ [23, 9, 10, 11, 6, 12, 8, 13, 24, 25, 16, 26, 27, 28, 29, 30, 31, 32, 33, 34, 35, 36, 37, 38, 39, 40, 41, 42, 43, 44, 45, 46, 47, 48, 49, 50, 51, 52, 53, 54, 55, 56, 57, 58, 59, 60, 61, 62, 63, 64, 65, 66, 67, 68, 69, 70, 71, 72, 73, 74, 75, 97, 98] (by decide +kernel) (by decide +kernel)
set_option maxRecDepth 20000 in
theorem gX3_start_X3_wordToken : GoodIn wsX3_start (va_wsS RX3 54 yX3_wordToken wsX3_wordToken) := goodIn_app (goodIn_of _ (by decide +kernel)) ggX3_start_X3_wordToken
set_option maxRecDepth 20000 in
theorem ggX3_start_X3_put : GoodIn wsX3_start wsX3_put := goodIn_r _ [79, 1, 80, 81, 90, 91, 92, 93, 94, 95, 96] (by decide +kernel) (by decide +kernel)
set_option maxRecDepth 20000 in
theorem gX3_start_X3_put : GoodIn wsX3_start (wsV RX3 58 RX3 yX3_put wsX3_put) := goodIn_app (goodIn_of _ (by decide +kernel)) ggX3_start_X3_put
set_option maxRecDepth 20000 in
theorem ggX3_start_X3_isSign : GoodIn wsX3_start wsX3_isSign := goodIn_r _ [84] (by decide +kernel) (by decide +kernel)
set_option maxRecDepth 20000 in
theorem gX3_start_X3_isSign : GoodIn wsX3_start (va_wsS RX3 62 yX3_isSign wsX3_isSign) := goodIn_app (goodIn_of _ (by decide +kernel)) ggX3_start_X3_isSign
set_option maxRecDepth 20000 in
theorem ggX3_start_X3_take : GoodIn wsX3_start wsX3_take := goodIn_r _ [88, 2, 1, 80, 89, 90, 91, 92, 93, 94, 95, 96] (by decide +kernel) (by decide +kernel)
set_option maxRecDepth 20000 in
theorem gX3_start_X3_take : GoodIn wsX3_start (wsV RX3 65 RX3 yX3_take wsX3_take) := goodIn_app (goodIn_of _ (by decide +kernel)) ggX3_start_X3_take
theorem dX3_start_0 : decode cX3_start 0 = .ok (.aload_n 0, 1) := by decide +kernel
theorem dX3_start_1 : decode cX3_start 1 = .ok (.iconst 0, 1) := by decide +kernel
theorem dX3_start_2 : decode cX3_start 2 = .ok (.putfield 18, 3) := by decide +kernel
theorem dX3_start_5 : decode cX3_start 5 = .ok (.iconst 0, 1) := by decide +kernel
theorem dX3_start_6 : decode cX3_start 6 = .ok (.istore_n 2, 1) := by decide +kernel
theorem dX3_start_7 : decode cX3_start 7 = .ok (.iconst 0, 1) := by decide +kernel
theorem dX3_start_8 : decode cX3_start 8 = .ok (.istore_n 3, 1) := by decide +kernel
theorem dX3_start_9 : decode cX3_start 9 = .ok (.iload_n 3, 1) := by decide +kernel
theorem dX3_start_10 : decode cX3_start 10 = .ok (.sipush 400, 3) := by decide +kernel
theorem dX3_start_13 : decode cX3_start 13 = .ok (.if_icmp .ge 90, 3) := by decide +kernel
theorem dX3_start_16 : decode cX3_start 16 = .ok (.iload_n 2, 1) := by decide +kernel
theorem dX3_start_17 : decode cX3_start 17 = .ok (.aload_n 1, 1) := by decide +kernel
theorem dX3_start_18 : decode cX3_start 18 = .ok (.invokevirtual 37, 3) := by decide +kernel
theorem dX3_start_21 : decode cX3_start 21 = .ok (.if_icmp .ge 82, 3) := by decide +kernel
theorem dX3_start_24 : decode cX3_start 24 = .ok (.aload_n 1, 1) := by decide +kernel
theorem dX3_start_25 : decode cX3_start 25 = .ok (.iload_n 2, 1) := by decide +kernel
theorem dX3_start_26 : decode cX3_start 26 = .ok (.invokevirtual 42, 3) := by decide +kernel
theorem dX3_start_29 : decode cX3_start 29 = .ok (.istore 4, 2) := by decide +kernel
theorem dX3_start_31 : decode cX3_start 31 = .ok (.iconst 1, 1) := by decide +kernel
theorem dX3_start_32 : decode cX3_start 32 = .ok (.istore 5, 2) := by decide +kernel
theorem dX3_start_34 : decode cX3_start 34 = .ok (.iload 4, 2) := by decide +kernel
theorem dX3_start_36 : decode cX3_start 36 = .ok (.invokestatic 46, 3) := by decide +kernel
theorem dX3_start_39 : decode cX3_start 39 = .ok (.ifCond .eq 25, 3) := by decide +kernel
theorem dX3_start_42 : decode cX3_start 42 = .ok (.aload_n 1, 1) := by decide +kernel
theorem dX3_start_43 : decode cX3_start 43 = .ok (.iload_n 2, 1) := by decide +kernel
theorem dX3_start_44 : decode cX3_start 44 = .ok (.invokestatic 50, 3) := by decide +kernel
theorem dX3_start_47 : decode cX3_start 47 = .ok (.istore 5, 2) := by decide +kernel
theorem dX3_start_49 : decode cX3_start 49 = .ok (.aload_n 0, 1) := by decide +kernel
theorem dX3_start_50 : decode cX3_start 50 = .ok (.aload_n 1, 1) := by decide +kernel
theorem dX3_start_51 : decode cX3_start 51 = .ok (.iload_n 2, 1) := by decide +kernel
theorem dX3_start_52 : decode cX3_start 52 = .ok (.iload 5, 2) := by decide +kernel
theorem dX3_start_54 : decode cX3_start 54 = .ok (.invokestatic 54, 3) := by decide +kernel
theorem dX3_start_57 : decode cX3_start 57 = .ok (.iload_n 2, 1) := by decide +kernel
theorem dX3_start_58 : decode cX3_start 58 = .ok (.invokevirtual 58, 3) := by decide +kernel
theorem dX3_start_61 : decode cX3_start 61 = .ok (.goto 31, 3) := by decide +kernel
theorem dX3_start_64 : decode cX3_start 64 = .ok (.iload 4, 2) := by decide +kernel
theorem dX3_start_66 : decode cX3_start 66 = .ok (.bipush 32, 2) := by decide +kernel
theorem dX3_start_68 : decode cX3_start 68 = .ok (.if_icmp .eq 24, 3) := by decide +kernel
theorem dX3_start_71 : decode cX3_start 71 = .ok (.aload_n 0, 1) := by decide +kernel
theorem dX3_start_72 : decode cX3_start 72 = .ok (.iload 4, 2) := by decide +kernel
theorem dX3_start_74 : decode cX3_start 74 = .ok (.invokestatic 62, 3) := by decide +kernel
theorem dX3_start_77 : decode cX3_start 77 = .ok (.ifCond .eq 8, 3) := by decide +kernel
theorem dX3_start_80 : decode cX3_start 80 = .ok (.iload 4, 2) := by decide +kernel
theorem dX3_start_82 : decode cX3_start 82 = .ok (.goto 6, 3) := by decide +kernel
theorem dX3_start_85 : decode cX3_start 85 = .ok (.sipush 257, 3) := by decide +kernel
theorem dX3_start_88 : decode cX3_start 88 = .ok (.iload_n 2, 1) := by decide +kernel
theorem dX3_start_89 : decode cX3_start 89 = .ok (.invokevirtual 58, 3) := by decide +kernel
theorem dX3_start_92 : decode cX3_start 92 = .ok (.iload_n 2, 1) := by decide +kernel
theorem dX3_start_93 : decode cX3_start 93 = .ok (.iload 5, 2) := by decide +kernel
theorem dX3_start_95 : decode cX3_start 95 = .ok (.iadd, 1) := by decide +kernel
theorem dX3_start_96 : decode cX3_start 96 = .ok (.istore_n 2, 1) := by decide +kernel
theorem dX3_start_97 : decode cX3_start 97 = .ok (.iinc 3 1, 3) := by decide +kernel
theorem dX3_start_100 : decode cX3_start 100 = .ok (.goto (-91), 3) := by decide +kernel
theorem dX3_start_103 : decode cX3_start 103 = .ok (.aload_n 0, 1) := by decide +kernel
theorem dX3_start_104 : decode cX3_start 104 = .ok (.sipush 256, 3) := by decide +kernel
theorem dX3_start_107 : decode cX3_start 107 = .ok (.aload_n 1, 1) := by decide +kernel
theorem dX3_start_108 : decode cX3_start 108 = .ok (.invokevirtual 37, 3) := by decide +kernel
theorem dX3_start_111 : decode cX3_start 111 = .ok (.invokevirtual 58, 3) := by decide +kernel
theorem dX3_start_114 : decode cX3_start 114 = .ok (.aload_n 0, 1) := by decide +kernel
theorem dX3_start_115 : decode cX3_start 115 = .ok (.iconst (-1), 1) := by decide +kernel
theorem dX3_start_116 : decode cX3_start 116 = .ok (.putfield 22, 3) := by decide +kernel
theorem dX3_start_119 : decode cX3_start 119 = .ok (.aload_n 0, 1) := by decide +kernel
theorem dX3_start_120 : decode cX3_start 120 = .ok (.invokevirtual 65, 3) := by decide +kernel
theorem dX3_start_123 : decode cX3_start 123 = .ok (.return_, 1) := by decide +kernel
theorem dX3_put_0 : decode cX3_put 0 = .ok (.aload_n 0, 1) := by decide +kernel
theorem dX3_put_1 : decode cX3_put 1 = .ok (.getfield 18, 3) := by decide +kernel
theorem dX3_put_4 : decode cX3_put 4 = .ok (.aload_n 0, 1) := by decide +kernel
theorem dX3_put_5 : decode cX3_put 5 = .ok (.getfield 9, 3) := by decide +kernel
theorem dX3_put_8 : decode cX3_put 8 = .ok (.arraylength, 1) := by decide +kernel
theorem dX3_put_9 : decode cX3_put 9 = .ok (.if_icmp .ge 45, 3) := by decide +kernel
theorem dX3_put_12 : decode cX3_put 12 = .ok (.aload_n 0, 1) := by decide +kernel
theorem dX3_put_13 : decode cX3_put 13 = .ok (.getfield 18, 3) := by decide +kernel
theorem dX3_put_16 : decode cX3_put 16 = .ok (.aload_n 0, 1) := by decide +kernel
theorem dX3_put_17 : decode cX3_put 17 = .ok (.getfield 15, 3) := by decide +kernel
theorem dX3_put_20 : decode cX3_put 20 = .ok (.arraylength, 1) := by decide +kernel
theorem dX3_put_21 : decode cX3_put 21 = .ok (.if_icmp .ge 33, 3) := by decide +kernel
theorem dX3_put_24 : decode cX3_put 24 = .ok (.aload_n 0, 1) := by decide +kernel
theorem dX3_put_25 : decode cX3_put 25 = .ok (.getfield 9, 3) := by decide +kernel
theorem dX3_put_28 : decode cX3_put 28 = .ok (.aload_n 0, 1) := by decide +kernel
theorem dX3_put_29 : decode cX3_put 29 = .ok (.getfield 18, 3) := by decide +kernel
theorem dX3_put_32 : decode cX3_put 32 = .ok (.iload_n 1, 1) := by decide +kernel
theorem dX3_put_33 : decode cX3_put 33 = .ok (.iastore, 1) := by decide +kernel
theorem dX3_put_34 : decode cX3_put 34 = .ok (.aload_n 0, 1) := by decide +kernel
theorem dX3_put_35 : decode cX3_put 35 = .ok (.getfield 15, 3) := by decide +kernel
theorem dX3_put_38 : decode cX3_put 38 = .ok (.aload_n 0, 1) := by decide +kernel
theorem dX3_put_39 : decode cX3_put 39 = .ok (.getfield 18, 3) := by decide +kernel
theorem dX3_put_42 : decode cX3_put 42 = .ok (.iload_n 2, 1) := by decide +kernel
theorem dX3_put_43 : decode cX3_put 43 = .ok (.iastore, 1) := by decide +kernel
theorem dX3_put_44 : decode cX3_put 44 = .ok (.aload_n 0, 1) := by decide +kernel
theorem dX3_put_45 : decode cX3_put 45 = .ok (.dup, 1) := by decide +kernel
theorem dX3_put_46 : decode cX3_put 46 = .ok (.getfield 18, 3) := by decide +kernel
theorem dX3_put_49 : decode cX3_put 49 = .ok (.iconst 1, 1) := by decide +kernel
theorem dX3_put_50 : decode cX3_put 50 = .ok (.iadd, 1) := by decide +kernel
theorem dX3_put_51 : decode cX3_put 51 = .ok (.putfield 18, 3) := by decide +kernel
theorem dX3_put_54 : decode cX3_put 54 = .ok (.return_, 1) := by decide +kernel
theorem dX3_isSmall_0 : decode cX3_isSmall 0 = .ok (.iload_n 0, 1) := by decide +kernel
theorem dX3_isSmall_1 : decode cX3_isSmall 1 = .ok (.bipush 97, 2) := by decide +kernel
theorem dX3_isSmall_3 : decode cX3_isSmall 3 = .ok (.if_icmp .lt 13, 3) := by decide +kernel
theorem dX3_isSmall_6 : decode cX3_isSmall 6 = .ok (.iload_n 0, 1) := by decide +kernel
theorem dX3_isSmall_7 : decode cX3_isSmall 7 = .ok (.bipush 122, 2) := by decide +kernel
theorem dX3_isSmall_9 : decode cX3_isSmall 9 = .ok (.if_icmp .gt 7, 3) := by decide +kernel
theorem dX3_isSmall_12 : decode cX3_isSmall 12 = .ok (.iconst 1, 1) := by decide +kernel
theorem dX3_isSmall_13 : decode cX3_isSmall 13 = .ok (.goto 4, 3) := by decide +kernel
theorem dX3_isSmall_16 : decode cX3_isSmall 16 = .ok (.iconst 0, 1) := by decide +kernel
theorem dX3_isSmall_17 : decode cX3_isSmall 17 = .ok (.ireturn, 1) := by decide +kernel
theorem dX3_isSign_0 : decode cX3_isSign 0 = .ok (.iload_n 0, 1) := by decide +kernel
theorem dX3_isSign_1 : decode cX3_isSign 1 = .ok (.lookupswitch 77 #[(33, 75), (38, 75), (40, 75), (41, 75), (48, 75), (49, 75), (59, 75), (124, 75)], 75) := by decide +kernel
theorem dX3_isSign_76 : decode cX3_isSign 76 = .ok (.iconst 1, 1) := by decide +kernel
theorem dX3_isSign_77 : decode cX3_isSign 77 = .ok (.ireturn, 1) := by decide +kernel
theorem dX3_isSign_78 : decode cX3_isSign 78 = .ok (.iconst 0, 1) := by decide +kernel
theorem dX3_isSign_79 : decode cX3_isSign 79 = .ok (.ireturn, 1) := by decide +kernel
set_option maxRecDepth 20000 in
theorem ggX3_wordLength_X6_at : GoodIn wsX3_wordLength wsX6_at := goodIn_r _ [5, 6, 7, 12, 13] (by decide +kernel) (by decide +kernel)
set_option maxRecDepth 20000 in
theorem gX3_wordLength_X6_at : GoodIn wsX3_wordLength (wsV RX3 42 RX6 yX6_at wsX6_at) := goodIn_app (goodIn_of _ (by decide +kernel)) ggX3_wordLength_X6_at
set_option maxRecDepth 20000 in
theorem ggX3_wordLength_X3_isSmall : GoodIn wsX3_wordLength wsX3_isSmall := goodIn_r _ [11] (by decide +kernel) (by decide +kernel)
set_option maxRecDepth 20000 in
theorem gX3_wordLength_X3_isSmall : GoodIn wsX3_wordLength (va_wsS RX3 46 yX3_isSmall wsX3_isSmall) := goodIn_app (goodIn_of _ (by decide +kernel)) ggX3_wordLength_X3_isSmall
theorem dX3_wordLength_0 : decode cX3_wordLength 0 = .ok (.iconst 0, 1) := by decide +kernel
theorem dX3_wordLength_1 : decode cX3_wordLength 1 = .ok (.istore_n 2, 1) := by decide +kernel
theorem dX3_wordLength_2 : decode cX3_wordLength 2 = .ok (.iconst 0, 1) := by decide +kernel
theorem dX3_wordLength_3 : decode cX3_wordLength 3 = .ok (.istore_n 3, 1) := by decide +kernel
theorem dX3_wordLength_4 : decode cX3_wordLength 4 = .ok (.iload_n 3, 1) := by decide +kernel
theorem dX3_wordLength_5 : decode cX3_wordLength 5 = .ok (.sipush 400, 3) := by decide +kernel
theorem dX3_wordLength_8 : decode cX3_wordLength 8 = .ok (.if_icmp .ge 25, 3) := by decide +kernel
theorem dX3_wordLength_11 : decode cX3_wordLength 11 = .ok (.aload_n 0, 1) := by decide +kernel
theorem dX3_wordLength_12 : decode cX3_wordLength 12 = .ok (.iload_n 1, 1) := by decide +kernel
theorem dX3_wordLength_13 : decode cX3_wordLength 13 = .ok (.iload_n 3, 1) := by decide +kernel
theorem dX3_wordLength_14 : decode cX3_wordLength 14 = .ok (.iadd, 1) := by decide +kernel
theorem dX3_wordLength_15 : decode cX3_wordLength 15 = .ok (.invokevirtual 42, 3) := by decide +kernel
theorem dX3_wordLength_18 : decode cX3_wordLength 18 = .ok (.invokestatic 46, 3) := by decide +kernel
theorem dX3_wordLength_21 : decode cX3_wordLength 21 = .ok (.ifCond .eq 12, 3) := by decide +kernel
theorem dX3_wordLength_24 : decode cX3_wordLength 24 = .ok (.iinc 2 1, 3) := by decide +kernel
theorem dX3_wordLength_27 : decode cX3_wordLength 27 = .ok (.iinc 3 1, 3) := by decide +kernel
theorem dX3_wordLength_30 : decode cX3_wordLength 30 = .ok (.goto (-26), 3) := by decide +kernel
theorem dX3_wordLength_33 : decode cX3_wordLength 33 = .ok (.iload_n 2, 1) := by decide +kernel
theorem dX3_wordLength_34 : decode cX3_wordLength 34 = .ok (.ireturn, 1) := by decide +kernel
set_option maxRecDepth 20000 in
theorem ggX3_wordToken_X6_at : GoodIn wsX3_wordToken wsX6_at := goodIn_r _ [5, 6, 7, 61, 62] (by decide +kernel) (by decide +kernel)
set_option maxRecDepth 20000 in
theorem gX3_wordToken_X6_at : GoodIn wsX3_wordToken (wsV RX3 42 RX6 yX6_at wsX6_at) := goodIn_app (goodIn_of _ (by decide +kernel)) ggX3_wordToken_X6_at
set_option maxRecDepth 20000 in
theorem ggX3_wordToken_X3_spells : GoodIn wsX3_wordToken wsX3_spells := goodIn_r _ [11, 12, 13, 14, 15, 16, 17, 18, 19, 20, 21, 22, 23, 1, 2, 3, 4, 5, 6, 7, 24, 25, 26, 27, 28, 29, 30, 31, 32, 33, 34, 35, 36, 37, 38, 39, 40, 41, 42, 43, 44, 45, 46, 47, 48, 49, 50, 51, 52, 53, 54, 55, 56, 57, 58, 59, 60, 61, 62] (by decide +kernel) (by decide +kernel)
set_option maxRecDepth 20000 in
theorem gX3_wordToken_X3_spells : GoodIn wsX3_wordToken (va_wsS RX3 70 yX3_spells wsX3_spells) := goodIn_app (goodIn_of _ (by decide +kernel)) ggX3_wordToken_X3_spells
theorem dX3_wordToken_0 : decode cX3_wordToken 0 = .ok (.iload_n 2, 1) := by decide +kernel
theorem dX3_wordToken_1 : decode cX3_wordToken 1 = .ok (.iconst 1, 1) := by decide +kernel
theorem dX3_wordToken_2 : decode cX3_wordToken 2 = .ok (.if_icmp .ne 23, 3) := by decide +kernel
theorem dX3_wordToken_5 : decode cX3_wordToken 5 = .ok (.aload_n 0, 1) := by decide +kernel
theorem dX3_wordToken_6 : decode cX3_wordToken 6 = .ok (.iload_n 1, 1) := by decide +kernel
theorem dX3_wordToken_7 : decode cX3_wordToken 7 = .ok (.invokevirtual 42, 3) := by decide +kernel
theorem dX3_wordToken_10 : decode cX3_wordToken 10 = .ok (.istore_n 3, 1) := by decide +kernel
theorem dX3_wordToken_11 : decode cX3_wordToken 11 = .ok (.iload_n 3, 1) := by decide +kernel
theorem dX3_wordToken_12 : decode cX3_wordToken 12 = .ok (.bipush 102, 2) := by decide +kernel
theorem dX3_wordToken_14 : decode cX3_wordToken 14 = .ok (.if_icmp .gt 7, 3) := by decide +kernel
theorem dX3_wordToken_17 : decode cX3_wordToken 17 = .ok (.iload_n 3, 1) := by decide +kernel
theorem dX3_wordToken_18 : decode cX3_wordToken 18 = .ok (.goto 6, 3) := by decide +kernel
theorem dX3_wordToken_21 : decode cX3_wordToken 21 = .ok (.sipush 257, 3) := by decide +kernel
theorem dX3_wordToken_24 : decode cX3_wordToken 24 = .ok (.ireturn, 1) := by decide +kernel
theorem dX3_wordToken_25 : decode cX3_wordToken 25 = .ok (.aload_n 0, 1) := by decide +kernel
theorem dX3_wordToken_26 : decode cX3_wordToken 26 = .ok (.iload_n 1, 1) := by decide +kernel
theorem dX3_wordToken_27 : decode cX3_wordToken 27 = .ok (.iload_n 2, 1) := by decide +kernel
theorem dX3_wordToken_28 : decode cX3_wordToken 28 = .ok (.ldc 68, 2) := by decide +kernel
theorem dX3_wordToken_30 : decode cX3_wordToken 30 = .ok (.invokestatic 70, 3) := by decide +kernel
theorem dX3_wordToken_33 : decode cX3_wordToken 33 = .ok (.ifCond .eq 7, 3) := by decide +kernel
theorem dX3_wordToken_36 : decode cX3_wordToken 36 = .ok (.sipush 258, 3) := by decide +kernel
theorem dX3_wordToken_39 : decode cX3_wordToken 39 = .ok (.ireturn, 1) := by decide +kernel
theorem dX3_wordToken_40 : decode cX3_wordToken 40 = .ok (.aload_n 0, 1) := by decide +kernel
theorem dX3_wordToken_41 : decode cX3_wordToken 41 = .ok (.iload_n 1, 1) := by decide +kernel
theorem dX3_wordToken_42 : decode cX3_wordToken 42 = .ok (.iload_n 2, 1) := by decide +kernel
theorem dX3_wordToken_43 : decode cX3_wordToken 43 = .ok (.ldc 74, 2) := by decide +kernel
theorem dX3_wordToken_45 : decode cX3_wordToken 45 = .ok (.invokestatic 70, 3) := by decide +kernel
theorem dX3_wordToken_48 : decode cX3_wordToken 48 = .ok (.ifCond .eq 7, 3) := by decide +kernel
theorem dX3_wordToken_51 : decode cX3_wordToken 51 = .ok (.sipush 259, 3) := by decide +kernel
theorem dX3_wordToken_54 : decode cX3_wordToken 54 = .ok (.ireturn, 1) := by decide +kernel
theorem dX3_wordToken_55 : decode cX3_wordToken 55 = .ok (.aload_n 0, 1) := by decide +kernel
theorem dX3_wordToken_56 : decode cX3_wordToken 56 = .ok (.iload_n 1, 1) := by decide +kernel
theorem dX3_wordToken_57 : decode cX3_wordToken 57 = .ok (.iload_n 2, 1) := by decide +kernel
theorem dX3_wordToken_58 : decode cX3_wordToken 58 = .ok (.ldc 76, 2) := by decide +kernel
theorem dX3_wordToken_60 : decode cX3_wordToken 60 = .ok (.invokestatic 70, 3) := by decide +kernel
theorem dX3_wordToken_63 : decode cX3_wordToken 63 = .ok (.ifCond .eq 7, 3) := by decide +kernel
theorem dX3_wordToken_66 : decode cX3_wordToken 66 = .ok (.sipush 260, 3) := by decide +kernel
theorem dX3_wordToken_69 : decode cX3_wordToken 69 = .ok (.ireturn, 1) := by decide +kernel
theorem dX3_wordToken_70 : decode cX3_wordToken 70 = .ok (.aload_n 0, 1) := by decide +kernel
theorem dX3_wordToken_71 : decode cX3_wordToken 71 = .ok (.iload_n 1, 1) := by decide +kernel
theorem dX3_wordToken_72 : decode cX3_wordToken 72 = .ok (.iload_n 2, 1) := by decide +kernel
theorem dX3_wordToken_73 : decode cX3_wordToken 73 = .ok (.ldc 77, 2) := by decide +kernel
theorem dX3_wordToken_75 : decode cX3_wordToken 75 = .ok (.invokestatic 70, 3) := by decide +kernel
theorem dX3_wordToken_78 : decode cX3_wordToken 78 = .ok (.ifCond .eq 7, 3) := by decide +kernel
theorem dX3_wordToken_81 : decode cX3_wordToken 81 = .ok (.sipush 261, 3) := by decide +kernel
theorem dX3_wordToken_84 : decode cX3_wordToken 84 = .ok (.ireturn, 1) := by decide +kernel
theorem dX3_wordToken_85 : decode cX3_wordToken 85 = .ok (.aload_n 0, 1) := by decide +kernel
theorem dX3_wordToken_86 : decode cX3_wordToken 86 = .ok (.iload_n 1, 1) := by decide +kernel
theorem dX3_wordToken_87 : decode cX3_wordToken 87 = .ok (.iload_n 2, 1) := by decide +kernel
theorem dX3_wordToken_88 : decode cX3_wordToken 88 = .ok (.ldc 79, 2) := by decide +kernel
theorem dX3_wordToken_90 : decode cX3_wordToken 90 = .ok (.invokestatic 70, 3) := by decide +kernel
theorem dX3_wordToken_93 : decode cX3_wordToken 93 = .ok (.ifCond .eq 9, 3) := by decide +kernel
theorem dX3_wordToken_96 : decode cX3_wordToken 96 = .ok (.sipush 262, 3) := by decide +kernel
theorem dX3_wordToken_99 : decode cX3_wordToken 99 = .ok (.goto 6, 3) := by decide +kernel
theorem dX3_wordToken_102 : decode cX3_wordToken 102 = .ok (.sipush 257, 3) := by decide +kernel
theorem dX3_wordToken_105 : decode cX3_wordToken 105 = .ok (.ireturn, 1) := by decide +kernel
set_option maxRecDepth 20000 in
theorem ggX3_spells_J0_length_8abf5 : GoodIn wsX3_spells wsJ0_length_8abf5 := goodIn_r _ [5, 6, 7, 8, 9, 4, 10, 11, 12] (by decide +kernel) (by decide +kernel)
set_option maxRecDepth 20000 in
theorem gX3_spells_J0_length_8abf5 : GoodIn wsX3_spells (wsV RX3 81 RJ0 yJ0_length_8abf5 wsJ0_length_8abf5) := goodIn_app (goodIn_of _ (by decide +kernel)) ggX3_spells_J0_length_8abf5
set_option maxRecDepth 20000 in
theorem ggX3_spells_X6_at : GoodIn wsX3_spells wsX6_at := goodIn_r _ [17, 18, 19, 57, 58] (by decide +kernel) (by decide +kernel)
set_option maxRecDepth 20000 in
theorem gX3_spells_X6_at : GoodIn wsX3_spells (wsV RX3 42 RX6 yX6_at wsX6_at) := goodIn_app (goodIn_of _ (by decide +kernel)) ggX3_spells_X6_at
set_option maxRecDepth 20000 in
theorem ggX3_spells_J0_charAt_5068e : GoodIn wsX3_spells wsJ0_charAt_5068e := goodIn_r _ [23, 6, 24, 25, 26, 4, 27, 11, 12, 28, 29, 30, 31, 32, 33, 34, 35, 36, 37, 38, 39, 40, 41, 42, 43, 44, 45, 46, 47, 48, 49, 50, 51, 52, 53, 54, 55, 56] (by decide +kernel) (by decide +kernel)
set_option maxRecDepth 20000 in
theorem gX3_spells_J0_charAt_5068e : GoodIn wsX3_spells (wsV RX3 86 RJ0 yJ0_charAt_5068e wsJ0_charAt_5068e) := goodIn_app (goodIn_of _ (by decide +kernel)) ggX3_spells_J0_charAt_5068e
theorem dX3_spells_0 : decode cX3_spells 0 = .ok (.iload_n 2, 1) := by decide +kernel
theorem dX3_spells_1 : decode cX3_spells 1 = .ok (.aload_n 3, 1) := by decide +kernel
theorem dX3_spells_2 : decode cX3_spells 2 = .ok (.invokevirtual 81, 3) := by decide +kernel
theorem dX3_spells_5 : decode cX3_spells 5 = .ok (.if_icmp .eq 5, 3) := by decide +kernel
theorem dX3_spells_8 : decode cX3_spells 8 = .ok (.iconst 0, 1) := by decide +kernel
theorem dX3_spells_9 : decode cX3_spells 9 = .ok (.ireturn, 1) := by decide +kernel
theorem dX3_spells_10 : decode cX3_spells 10 = .ok (.iconst 0, 1) := by decide +kernel
theorem dX3_spells_11 : decode cX3_spells 11 = .ok (.istore 4, 2) := by decide +kernel
theorem dX3_spells_13 : decode cX3_spells 13 = .ok (.iload 4, 2) := by decide +kernel
theorem dX3_spells_15 : decode cX3_spells 15 = .ok (.aload_n 3, 1) := by decide +kernel
theorem dX3_spells_16 : decode cX3_spells 16 = .ok (.invokevirtual 81, 3) := by decide +kernel
theorem dX3_spells_19 : decode cX3_spells 19 = .ok (.if_icmp .ge 28, 3) := by decide +kernel
theorem dX3_spells_22 : decode cX3_spells 22 = .ok (.aload_n 0, 1) := by decide +kernel
theorem dX3_spells_23 : decode cX3_spells 23 = .ok (.iload_n 1, 1) := by decide +kernel
theorem dX3_spells_24 : decode cX3_spells 24 = .ok (.iload 4, 2) := by decide +kernel
theorem dX3_spells_26 : decode cX3_spells 26 = .ok (.iadd, 1) := by decide +kernel
theorem dX3_spells_27 : decode cX3_spells 27 = .ok (.invokevirtual 42, 3) := by decide +kernel
theorem dX3_spells_30 : decode cX3_spells 30 = .ok (.aload_n 3, 1) := by decide +kernel
theorem dX3_spells_31 : decode cX3_spells 31 = .ok (.iload 4, 2) := by decide +kernel
theorem dX3_spells_33 : decode cX3_spells 33 = .ok (.invokevirtual 86, 3) := by decide +kernel
theorem dX3_spells_36 : decode cX3_spells 36 = .ok (.if_icmp .eq 5, 3) := by decide +kernel
theorem dX3_spells_39 : decode cX3_spells 39 = .ok (.iconst 0, 1) := by decide +kernel
theorem dX3_spells_40 : decode cX3_spells 40 = .ok (.ireturn, 1) := by decide +kernel
theorem dX3_spells_41 : decode cX3_spells 41 = .ok (.iinc 4 1, 3) := by decide +kernel
theorem dX3_spells_44 : decode cX3_spells 44 = .ok (.goto (-31), 3) := by decide +kernel
theorem dX3_spells_47 : decode cX3_spells 47 = .ok (.iconst 1, 1) := by decide +kernel
theorem dX3_spells_48 : decode cX3_spells 48 = .ok (.ireturn, 1) := by decide +kernel
theorem dX3_take_0 : decode cX3_take 0 = .ok (.aload_n 0, 1) := by decide +kernel
theorem dX3_take_1 : decode cX3_take 1 = .ok (.dup, 1) := by decide +kernel
theorem dX3_take_2 : decode cX3_take 2 = .ok (.getfield 22, 3) := by decide +kernel
theorem dX3_take_5 : decode cX3_take 5 = .ok (.iconst 1, 1) := by decide +kernel
theorem dX3_take_6 : decode cX3_take 6 = .ok (.iadd, 1) := by decide +kernel
theorem dX3_take_7 : decode cX3_take 7 = .ok (.putfield 22, 3) := by decide +kernel
theorem dX3_take_10 : decode cX3_take 10 = .ok (.aload_n 0, 1) := by decide +kernel
theorem dX3_take_11 : decode cX3_take 11 = .ok (.aload_n 0, 1) := by decide +kernel
theorem dX3_take_12 : decode cX3_take 12 = .ok (.getfield 22, 3) := by decide +kernel
theorem dX3_take_15 : decode cX3_take 15 = .ok (.ifCond .lt 38, 3) := by decide +kernel
theorem dX3_take_18 : decode cX3_take 18 = .ok (.aload_n 0, 1) := by decide +kernel
theorem dX3_take_19 : decode cX3_take 19 = .ok (.getfield 22, 3) := by decide +kernel
theorem dX3_take_22 : decode cX3_take 22 = .ok (.aload_n 0, 1) := by decide +kernel
theorem dX3_take_23 : decode cX3_take 23 = .ok (.getfield 18, 3) := by decide +kernel
theorem dX3_take_26 : decode cX3_take 26 = .ok (.if_icmp .ge 27, 3) := by decide +kernel
theorem dX3_take_29 : decode cX3_take 29 = .ok (.aload_n 0, 1) := by decide +kernel
theorem dX3_take_30 : decode cX3_take 30 = .ok (.getfield 22, 3) := by decide +kernel
theorem dX3_take_33 : decode cX3_take 33 = .ok (.aload_n 0, 1) := by decide +kernel
theorem dX3_take_34 : decode cX3_take 34 = .ok (.getfield 9, 3) := by decide +kernel
theorem dX3_take_37 : decode cX3_take 37 = .ok (.arraylength, 1) := by decide +kernel
theorem dX3_take_38 : decode cX3_take 38 = .ok (.if_icmp .ge 15, 3) := by decide +kernel
theorem dX3_take_41 : decode cX3_take 41 = .ok (.aload_n 0, 1) := by decide +kernel
theorem dX3_take_42 : decode cX3_take 42 = .ok (.getfield 9, 3) := by decide +kernel
theorem dX3_take_45 : decode cX3_take 45 = .ok (.aload_n 0, 1) := by decide +kernel
theorem dX3_take_46 : decode cX3_take 46 = .ok (.getfield 22, 3) := by decide +kernel
theorem dX3_take_49 : decode cX3_take 49 = .ok (.iaload, 1) := by decide +kernel
theorem dX3_take_50 : decode cX3_take 50 = .ok (.goto 6, 3) := by decide +kernel
theorem dX3_take_53 : decode cX3_take 53 = .ok (.sipush 256, 3) := by decide +kernel
theorem dX3_take_56 : decode cX3_take 56 = .ok (.putfield 25, 3) := by decide +kernel
theorem dX3_take_59 : decode cX3_take 59 = .ok (.return_, 1) := by decide +kernel
theorem dX3_refuse_0 : decode cX3_refuse 0 = .ok (.aload_n 0, 1) := by decide +kernel
theorem dX3_refuse_1 : decode cX3_refuse 1 = .ok (.sipush 257, 3) := by decide +kernel
theorem dX3_refuse_4 : decode cX3_refuse 4 = .ok (.putfield 25, 3) := by decide +kernel
theorem dX3_refuse_7 : decode cX3_refuse 7 = .ok (.return_, 1) := by decide +kernel
set_option maxRecDepth 20000 in
theorem ggX3_expect_X3_take : GoodIn wsX3_expect wsX3_take := goodIn_r _ [6, 7, 8, 9, 1, 14, 15, 16, 17, 18, 19, 20] (by decide +kernel) (by decide +kernel)
set_option maxRecDepth 20000 in
theorem gX3_expect_X3_take : GoodIn wsX3_expect (wsV RX3 65 RX3 yX3_take wsX3_take) := goodIn_app (goodIn_of _ (by decide +kernel)) ggX3_expect_X3_take
set_option maxRecDepth 20000 in
theorem ggX3_expect_X3_refuse : GoodIn wsX3_expect wsX3_refuse := goodIn_r _ [13, 1, 14, 15, 16, 17, 18, 19, 20] (by decide +kernel) (by decide +kernel)
set_option maxRecDepth 20000 in
theorem gX3_expect_X3_refuse : GoodIn wsX3_expect (wsV RX3 90 RX3 yX3_refuse wsX3_refuse) := goodIn_app (goodIn_of _ (by decide +kernel)) ggX3_expect_X3_refuse
theorem dX3_expect_0 : decode cX3_expect 0 = .ok (.aload_n 0, 1) := by decide +kernel
theorem dX3_expect_1 : decode cX3_expect 1 = .ok (.getfield 25, 3) := by decide +kernel
theorem dX3_expect_4 : decode cX3_expect 4 = .ok (.iload_n 1, 1) := by decide +kernel
theorem dX3_expect_5 : decode cX3_expect 5 = .ok (.if_icmp .ne 10, 3) := by decide +kernel
theorem dX3_expect_8 : decode cX3_expect 8 = .ok (.aload_n 0, 1) := by decide +kernel
theorem dX3_expect_9 : decode cX3_expect 9 = .ok (.invokevirtual 65, 3) := by decide +kernel
theorem dX3_expect_12 : decode cX3_expect 12 = .ok (.goto 7, 3) := by decide +kernel
theorem dX3_expect_15 : decode cX3_expect 15 = .ok (.aload_n 0, 1) := by decide +kernel
theorem dX3_expect_16 : decode cX3_expect 16 = .ok (.invokevirtual 90, 3) := by decide +kernel
theorem dX3_expect_19 : decode cX3_expect 19 = .ok (.return_, 1) := by decide +kernel
set_option maxRecDepth 20000 in
theorem ggX3_readItems_X2_empty : GoodIn wsX3_readItems wsX2_empty := goodIn_r _ [10, 11, 12, 13, 14, 15, 16, 17, 18, 19, 20, 21, 22, 23, 24, 25, 26, 27, 28, 94, 95, 96, 97, 98, 99, 100, 101, 102, 103, 104, 105, 106] (by decide +kernel) (by decide +kernel)
set_option maxRecDepth 20000 in
theorem gX3_readItems_X2_empty : GoodIn wsX3_readItems (wsV RX3 93 RX2 yX2_empty wsX2_empty) := goodIn_app (goodIn_of _ (by decide +kernel)) ggX3_readItems_X2_empty
set_option maxRecDepth 20000 in
theorem ggX3_readItems_X3_readListed : GoodIn wsX3_readItems wsX3_readListed := goodIn_r _ [33, 34, 35, 36, 18, 37, 20, 38, 39, 40, 41, 32, 42, 1, 43, 44, 45, 46, 47, 48, 49, 50, 51, 52, 53, 54, 55, 56, 57, 58, 59, 60, 61, 62, 63, 64, 65, 66, 67, 68, 69, 70, 71, 72, 100, 101, 102, 87, 88, 89, 90, 91, 92, 93] (by decide +kernel) (by decide +kernel)
set_option maxRecDepth 20000 in
theorem gX3_readItems_X3_readListed : GoodIn wsX3_readItems (wsV RX3 101 RX3 yX3_readListed wsX3_readListed) := goodIn_app (goodIn_of _ (by decide +kernel)) ggX3_readItems_X3_readListed
set_option maxRecDepth 20000 in
theorem ggX3_readItems_X3_readRule : GoodIn wsX3_readItems wsX3_readRule := goodIn_r _ [76, 77, 78, 79, 24, 80, 26, 81, 35, 36, 18, 37, 20, 38, 39, 40, 41, 32, 42, 1, 43, 44, 45, 46, 47, 48, 49, 50, 51, 52, 53, 54, 55, 56, 57, 58, 59, 60, 61, 62, 63, 64, 65, 66, 67, 82, 83, 84, 85, 27, 86, 69, 70, 71, 72, 103, 104, 105, 106, 100, 101, 102, 87, 88, 89, 90, 91, 92, 93] (by decide +kernel) (by decide +kernel)
set_option maxRecDepth 20000 in
theorem gX3_readItems_X3_readRule : GoodIn wsX3_readItems (wsV RX3 109 RX3 yX3_readRule wsX3_readRule) := goodIn_app (goodIn_of _ (by decide +kernel)) ggX3_readItems_X3_readRule
set_option maxRecDepth 20000 in
theorem ggX3_readItems_X3_refuse : GoodIn wsX3_readItems wsX3_refuse := goodIn_r _ [42, 1, 87, 88, 89, 90, 91, 92, 93] (by decide +kernel) (by decide +kernel)
set_option maxRecDepth 20000 in
theorem gX3_readItems_X3_refuse : GoodIn wsX3_readItems (wsV RX3 90 RX3 yX3_refuse wsX3_refuse) := goodIn_app (goodIn_of _ (by decide +kernel)) ggX3_readItems_X3_refuse
theorem dX3_readItems_0 : decode cX3_readItems 0 = .ok (.aload_n 1, 1) := by decide +kernel
theorem dX3_readItems_1 : decode cX3_readItems 1 = .ok (.invokevirtual 93, 3) := by decide +kernel
theorem dX3_readItems_4 : decode cX3_readItems 4 = .ok (.iconst 0, 1) := by decide +kernel
theorem dX3_readItems_5 : decode cX3_readItems 5 = .ok (.istore_n 2, 1) := by decide +kernel
theorem dX3_readItems_6 : decode cX3_readItems 6 = .ok (.iload_n 2, 1) := by decide +kernel
theorem dX3_readItems_7 : decode cX3_readItems 7 = .ok (.sipush 400, 3) := by decide +kernel
theorem dX3_readItems_10 : decode cX3_readItems 10 = .ok (.if_icmp .ge 116, 3) := by decide +kernel
theorem dX3_readItems_13 : decode cX3_readItems 13 = .ok (.aload_n 0, 1) := by decide +kernel
theorem dX3_readItems_14 : decode cX3_readItems 14 = .ok (.getfield 25, 3) := by decide +kernel
theorem dX3_readItems_17 : decode cX3_readItems 17 = .ok (.sipush 256, 3) := by decide +kernel
theorem dX3_readItems_20 : decode cX3_readItems 20 = .ok (.if_icmp .eq 106, 3) := by decide +kernel
theorem dX3_readItems_23 : decode cX3_readItems 23 = .ok (.aload_n 0, 1) := by decide +kernel
theorem dX3_readItems_24 : decode cX3_readItems 24 = .ok (.getfield 25, 3) := by decide +kernel
theorem dX3_readItems_27 : decode cX3_readItems 27 = .ok (.sipush 257, 3) := by decide +kernel
theorem dX3_readItems_30 : decode cX3_readItems 30 = .ok (.if_icmp .eq 96, 3) := by decide +kernel
theorem dX3_readItems_33 : decode cX3_readItems 33 = .ok (.aload_n 0, 1) := by decide +kernel
theorem dX3_readItems_34 : decode cX3_readItems 34 = .ok (.getfield 25, 3) := by decide +kernel
theorem dX3_readItems_37 : decode cX3_readItems 37 = .ok (.tableswitch 79 258 262 #[35, 46, 79, 57, 68], 35) := by decide +kernel
theorem dX3_readItems_72 : decode cX3_readItems 72 = .ok (.aload_n 0, 1) := by decide +kernel
theorem dX3_readItems_73 : decode cX3_readItems 73 = .ok (.aload_n 1, 1) := by decide +kernel
theorem dX3_readItems_74 : decode cX3_readItems 74 = .ok (.getfield 98, 3) := by decide +kernel
theorem dX3_readItems_77 : decode cX3_readItems 77 = .ok (.invokevirtual 101, 3) := by decide +kernel
theorem dX3_readItems_80 : decode cX3_readItems 80 = .ok (.goto 40, 3) := by decide +kernel
theorem dX3_readItems_83 : decode cX3_readItems 83 = .ok (.aload_n 0, 1) := by decide +kernel
theorem dX3_readItems_84 : decode cX3_readItems 84 = .ok (.aload_n 1, 1) := by decide +kernel
theorem dX3_readItems_85 : decode cX3_readItems 85 = .ok (.getfield 105, 3) := by decide +kernel
theorem dX3_readItems_88 : decode cX3_readItems 88 = .ok (.invokevirtual 109, 3) := by decide +kernel
theorem dX3_readItems_91 : decode cX3_readItems 91 = .ok (.goto 29, 3) := by decide +kernel
theorem dX3_readItems_94 : decode cX3_readItems 94 = .ok (.aload_n 0, 1) := by decide +kernel
theorem dX3_readItems_95 : decode cX3_readItems 95 = .ok (.aload_n 1, 1) := by decide +kernel
theorem dX3_readItems_96 : decode cX3_readItems 96 = .ok (.getfield 113, 3) := by decide +kernel
theorem dX3_readItems_99 : decode cX3_readItems 99 = .ok (.invokevirtual 101, 3) := by decide +kernel
theorem dX3_readItems_102 : decode cX3_readItems 102 = .ok (.goto 18, 3) := by decide +kernel
theorem dX3_readItems_105 : decode cX3_readItems 105 = .ok (.aload_n 0, 1) := by decide +kernel
theorem dX3_readItems_106 : decode cX3_readItems 106 = .ok (.aload_n 1, 1) := by decide +kernel
theorem dX3_readItems_107 : decode cX3_readItems 107 = .ok (.getfield 116, 3) := by decide +kernel
theorem dX3_readItems_110 : decode cX3_readItems 110 = .ok (.invokevirtual 101, 3) := by decide +kernel
theorem dX3_readItems_113 : decode cX3_readItems 113 = .ok (.goto 7, 3) := by decide +kernel
theorem dX3_readItems_116 : decode cX3_readItems 116 = .ok (.aload_n 0, 1) := by decide +kernel
theorem dX3_readItems_117 : decode cX3_readItems 117 = .ok (.invokevirtual 90, 3) := by decide +kernel
theorem dX3_readItems_120 : decode cX3_readItems 120 = .ok (.iinc 2 1, 3) := by decide +kernel
theorem dX3_readItems_123 : decode cX3_readItems 123 = .ok (.goto (-117), 3) := by decide +kernel
theorem dX3_readItems_126 : decode cX3_readItems 126 = .ok (.return_, 1) := by decide +kernel
set_option maxRecDepth 20000 in
theorem ggX3_readListed_X5_isFull : GoodIn wsX3_readListed wsX5_isFull := goodIn_r _ [5, 6, 7, 44, 45, 46] (by decide +kernel) (by decide +kernel)
set_option maxRecDepth 20000 in
theorem gX3_readListed_X5_isFull : GoodIn wsX3_readListed (wsV RX3 119 RX5 yX5_isFull wsX5_isFull) := goodIn_app (goodIn_of _ (by decide +kernel)) ggX3_readListed_X5_isFull
set_option maxRecDepth 20000 in
theorem ggX3_readListed_X3_refuse : GoodIn wsX3_readListed wsX3_refuse := goodIn_r _ [12, 13, 47, 48, 49, 50, 51, 52, 53] (by decide +kernel) (by decide +kernel)
set_option maxRecDepth 20000 in
theorem gX3_readListed_X3_refuse : GoodIn wsX3_readListed (wsV RX3 90 RX3 yX3_refuse wsX3_refuse) := goodIn_app (goodIn_of _ (by decide +kernel)) ggX3_readListed_X3_refuse
set_option maxRecDepth 20000 in
theorem ggX3_readListed_X3_take : GoodIn wsX3_readListed wsX3_take := goodIn_r _ [17, 18, 19, 20, 13, 47, 48, 49, 50, 51, 52, 53] (by decide +kernel) (by decide +kernel)
set_option maxRecDepth 20000 in
theorem gX3_readListed_X3_take : GoodIn wsX3_readListed (wsV RX3 65 RX3 yX3_take wsX3_take) := goodIn_app (goodIn_of _ (by decide +kernel)) ggX3_readListed_X3_take
set_option maxRecDepth 20000 in
theorem ggX3_readListed_X3_saying : GoodIn wsX3_readListed wsX3_saying := goodIn_r _ [24, 13, 25, 26, 27, 11, 14, 15, 16, 17, 18, 19, 20, 28, 29, 30, 31, 32, 33, 34, 21, 22, 23, 35, 36, 37, 38, 8, 9, 10, 12, 47, 48, 49, 50, 51, 52, 53] (by decide +kernel) (by decide +kernel)
set_option maxRecDepth 20000 in
theorem gX3_readListed_X3_saying : GoodIn wsX3_readListed (wsV RX3 125 RX3 yX3_saying wsX3_saying) := goodIn_app (goodIn_of _ (by decide +kernel)) ggX3_readListed_X3_saying
set_option maxRecDepth 20000 in
theorem ggX3_readListed_X5_add : GoodIn wsX3_readListed wsX5_add := goodIn_r _ [42, 6, 7, 43, 44, 45, 46] (by decide +kernel) (by decide +kernel)
set_option maxRecDepth 20000 in
theorem gX3_readListed_X5_add : GoodIn wsX3_readListed (wsV RX3 129 RX5 yX5_add wsX5_add) := goodIn_app (goodIn_of _ (by decide +kernel)) ggX3_readListed_X5_add
set_option maxRecDepth 20000 in
theorem ggX3_readListed_X3_expect : GoodIn wsX3_readListed wsX3_expect := goodIn_r _ [38, 13, 14, 15, 16, 11, 17, 18, 19, 20, 8, 9, 10, 12, 47, 48, 49, 50, 51, 52, 53] (by decide +kernel) (by decide +kernel)
set_option maxRecDepth 20000 in
theorem gX3_readListed_X3_expect : GoodIn wsX3_readListed (wsV RX3 133 RX3 yX3_expect wsX3_expect) := goodIn_app (goodIn_of _ (by decide +kernel)) ggX3_readListed_X3_expect
theorem dX3_readListed_0 : decode cX3_readListed 0 = .ok (.aload_n 1, 1) := by decide +kernel
theorem dX3_readListed_1 : decode cX3_readListed 1 = .ok (.invokevirtual 119, 3) := by decide +kernel
theorem dX3_readListed_4 : decode cX3_readListed 4 = .ok (.ifCond .eq 8, 3) := by decide +kernel
theorem dX3_readListed_7 : decode cX3_readListed 7 = .ok (.aload_n 0, 1) := by decide +kernel
theorem dX3_readListed_8 : decode cX3_readListed 8 = .ok (.invokevirtual 90, 3) := by decide +kernel
theorem dX3_readListed_11 : decode cX3_readListed 11 = .ok (.return_, 1) := by decide +kernel
theorem dX3_readListed_12 : decode cX3_readListed 12 = .ok (.aload_n 0, 1) := by decide +kernel
theorem dX3_readListed_13 : decode cX3_readListed 13 = .ok (.invokevirtual 65, 3) := by decide +kernel
theorem dX3_readListed_16 : decode cX3_readListed 16 = .ok (.aload_n 1, 1) := by decide +kernel
theorem dX3_readListed_17 : decode cX3_readListed 17 = .ok (.aload_n 0, 1) := by decide +kernel
theorem dX3_readListed_18 : decode cX3_readListed 18 = .ok (.iconst 0, 1) := by decide +kernel
theorem dX3_readListed_19 : decode cX3_readListed 19 = .ok (.invokevirtual 125, 3) := by decide +kernel
theorem dX3_readListed_22 : decode cX3_readListed 22 = .ok (.invokevirtual 129, 3) := by decide +kernel
theorem dX3_readListed_25 : decode cX3_readListed 25 = .ok (.aload_n 0, 1) := by decide +kernel
theorem dX3_readListed_26 : decode cX3_readListed 26 = .ok (.bipush 59, 2) := by decide +kernel
theorem dX3_readListed_28 : decode cX3_readListed 28 = .ok (.invokevirtual 133, 3) := by decide +kernel
theorem dX3_readListed_31 : decode cX3_readListed 31 = .ok (.return_, 1) := by decide +kernel
set_option maxRecDepth 20000 in
theorem ggX3_readRule_X4_isFull : GoodIn wsX3_readRule wsX4_isFull := goodIn_r _ [5, 6, 7, 8, 9, 10, 11, 12, 13, 55, 56, 57, 58, 59, 60, 61] (by decide +kernel) (by decide +kernel)
set_option maxRecDepth 20000 in
theorem gX3_readRule_X4_isFull : GoodIn wsX3_readRule (wsV RX3 137 RX4 yX4_isFull wsX4_isFull) := goodIn_app (goodIn_of _ (by decide +kernel)) ggX3_readRule_X4_isFull
set_option maxRecDepth 20000 in
theorem ggX3_readRule_X3_refuse : GoodIn wsX3_readRule wsX3_refuse := goodIn_r _ [18, 19, 62, 63, 64, 65, 66, 67, 68] (by decide +kernel) (by decide +kernel)
set_option maxRecDepth 20000 in
theorem gX3_readRule_X3_refuse : GoodIn wsX3_readRule (wsV RX3 90 RX3 yX3_refuse wsX3_refuse) := goodIn_app (goodIn_of _ (by decide +kernel)) ggX3_readRule_X3_refuse
set_option maxRecDepth 20000 in
theorem ggX3_readRule_X3_take : GoodIn wsX3_readRule wsX3_take := goodIn_r _ [23, 24, 25, 26, 19, 62, 63, 64, 65, 66, 67, 68] (by decide +kernel) (by decide +kernel)
set_option maxRecDepth 20000 in
theorem gX3_readRule_X3_take : GoodIn wsX3_readRule (wsV RX3 65 RX3 yX3_take wsX3_take) := goodIn_app (goodIn_of _ (by decide +kernel)) ggX3_readRule_X3_take
set_option maxRecDepth 20000 in
theorem ggX3_readRule_X3_saying : GoodIn wsX3_readRule wsX3_saying := goodIn_r _ [30, 19, 31, 32, 33, 17, 20, 21, 22, 23, 24, 25, 26, 34, 35, 36, 37, 38, 39, 40, 27, 28, 29, 41, 42, 43, 44, 14, 15, 16, 18, 62, 63, 64, 65, 66, 67, 68] (by decide +kernel) (by decide +kernel)
set_option maxRecDepth 20000 in
theorem gX3_readRule_X3_saying : GoodIn wsX3_readRule (wsV RX3 125 RX3 yX3_saying wsX3_saying) := goodIn_app (goodIn_of _ (by decide +kernel)) ggX3_readRule_X3_saying
set_option maxRecDepth 20000 in
theorem ggX3_readRule_X3_expect : GoodIn wsX3_readRule wsX3_expect := goodIn_r _ [44, 19, 20, 21, 22, 17, 23, 24, 25, 26, 14, 15, 16, 18, 62, 63, 64, 65, 66, 67, 68] (by decide +kernel) (by decide +kernel)
set_option maxRecDepth 20000 in
theorem gX3_readRule_X3_expect : GoodIn wsX3_readRule (wsV RX3 133 RX3 yX3_expect wsX3_expect) := goodIn_app (goodIn_of _ (by decide +kernel)) ggX3_readRule_X3_expect
set_option maxRecDepth 20000 in
theorem ggX3_readRule_X4_add : GoodIn wsX3_readRule wsX4_add := goodIn_r _ [48, 6, 49, 50, 51, 52, 10, 53, 12, 13, 54, 55, 56, 57, 58, 59, 60, 61] (by decide +kernel) (by decide +kernel)
set_option maxRecDepth 20000 in
theorem gX3_readRule_X4_add : GoodIn wsX3_readRule (wsV RX3 140 RX4 yX4_add wsX4_add) := goodIn_app (goodIn_of _ (by decide +kernel)) ggX3_readRule_X4_add
theorem dX3_readRule_0 : decode cX3_readRule 0 = .ok (.aload_n 1, 1) := by decide +kernel
theorem dX3_readRule_1 : decode cX3_readRule 1 = .ok (.invokevirtual 137, 3) := by decide +kernel
theorem dX3_readRule_4 : decode cX3_readRule 4 = .ok (.ifCond .eq 8, 3) := by decide +kernel
theorem dX3_readRule_7 : decode cX3_readRule 7 = .ok (.aload_n 0, 1) := by decide +kernel
theorem dX3_readRule_8 : decode cX3_readRule 8 = .ok (.invokevirtual 90, 3) := by decide +kernel
theorem dX3_readRule_11 : decode cX3_readRule 11 = .ok (.return_, 1) := by decide +kernel
theorem dX3_readRule_12 : decode cX3_readRule 12 = .ok (.aload_n 0, 1) := by decide +kernel
theorem dX3_readRule_13 : decode cX3_readRule 13 = .ok (.invokevirtual 65, 3) := by decide +kernel
theorem dX3_readRule_16 : decode cX3_readRule 16 = .ok (.aload_n 0, 1) := by decide +kernel
theorem dX3_readRule_17 : decode cX3_readRule 17 = .ok (.iconst 0, 1) := by decide +kernel
theorem dX3_readRule_18 : decode cX3_readRule 18 = .ok (.invokevirtual 125, 3) := by decide +kernel
theorem dX3_readRule_21 : decode cX3_readRule 21 = .ok (.lstore_n 2, 1) := by decide +kernel
theorem dX3_readRule_22 : decode cX3_readRule 22 = .ok (.aload_n 0, 1) := by decide +kernel
theorem dX3_readRule_23 : decode cX3_readRule 23 = .ok (.sipush 260, 3) := by decide +kernel
theorem dX3_readRule_26 : decode cX3_readRule 26 = .ok (.invokevirtual 133, 3) := by decide +kernel
theorem dX3_readRule_29 : decode cX3_readRule 29 = .ok (.aload_n 1, 1) := by decide +kernel
theorem dX3_readRule_30 : decode cX3_readRule 30 = .ok (.lload_n 2, 1) := by decide +kernel
theorem dX3_readRule_31 : decode cX3_readRule 31 = .ok (.aload_n 0, 1) := by decide +kernel
theorem dX3_readRule_32 : decode cX3_readRule 32 = .ok (.iconst 0, 1) := by decide +kernel
theorem dX3_readRule_33 : decode cX3_readRule 33 = .ok (.invokevirtual 125, 3) := by decide +kernel
theorem dX3_readRule_36 : decode cX3_readRule 36 = .ok (.invokevirtual 140, 3) := by decide +kernel
theorem dX3_readRule_39 : decode cX3_readRule 39 = .ok (.aload_n 0, 1) := by decide +kernel
theorem dX3_readRule_40 : decode cX3_readRule 40 = .ok (.bipush 59, 2) := by decide +kernel
theorem dX3_readRule_42 : decode cX3_readRule 42 = .ok (.invokevirtual 133, 3) := by decide +kernel
theorem dX3_readRule_45 : decode cX3_readRule 45 = .ok (.return_, 1) := by decide +kernel
set_option maxRecDepth 20000 in
theorem ggX3_readQuestion_X3_take : GoodIn wsX3_readQuestion wsX3_take := goodIn_r _ [9, 10, 11, 12, 3, 34, 35, 36, 37, 38, 39, 40] (by decide +kernel) (by decide +kernel)
set_option maxRecDepth 20000 in
theorem gX3_readQuestion_X3_take : GoodIn wsX3_readQuestion (wsV RX3 65 RX3 yX3_take wsX3_take) := goodIn_app (goodIn_of _ (by decide +kernel)) ggX3_readQuestion_X3_take
set_option maxRecDepth 20000 in
theorem ggX3_readQuestion_X3_saying : GoodIn wsX3_readQuestion wsX3_saying := goodIn_r _ [16, 3, 17, 18, 19, 8, 5, 6, 7, 9, 10, 11, 12, 20, 21, 22, 23, 24, 25, 1, 13, 14, 15, 26, 27, 28, 29, 30, 31, 32, 33, 34, 35, 36, 37, 38, 39, 40] (by decide +kernel) (by decide +kernel)
set_option maxRecDepth 20000 in
theorem gX3_readQuestion_X3_saying : GoodIn wsX3_readQuestion (wsV RX3 125 RX3 yX3_saying wsX3_saying) := goodIn_app (goodIn_of _ (by decide +kernel)) ggX3_readQuestion_X3_saying
set_option maxRecDepth 20000 in
theorem ggX3_readQuestion_X3_expect : GoodIn wsX3_readQuestion wsX3_expect := goodIn_r _ [29, 3, 5, 6, 7, 8, 9, 10, 11, 12, 30, 31, 32, 33, 34, 35, 36, 37, 38, 39, 40] (by decide +kernel) (by decide +kernel)
set_option maxRecDepth 20000 in
theorem gX3_readQuestion_X3_expect : GoodIn wsX3_readQuestion (wsV RX3 133 RX3 yX3_expect wsX3_expect) := goodIn_app (goodIn_of _ (by decide +kernel)) ggX3_readQuestion_X3_expect
set_option maxRecDepth 20000 in
theorem ggX3_readQuestion_X3_refuse : GoodIn wsX3_readQuestion wsX3_refuse := goodIn_r _ [33, 3, 34, 35, 36, 37, 38, 39, 40] (by decide +kernel) (by decide +kernel)
set_option maxRecDepth 20000 in
theorem gX3_readQuestion_X3_refuse : GoodIn wsX3_readQuestion (wsV RX3 90 RX3 yX3_refuse wsX3_refuse) := goodIn_app (goodIn_of _ (by decide +kernel)) ggX3_readQuestion_X3_refuse
theorem dX3_readQuestion_0 : decode cX3_readQuestion 0 = .ok (.aload_n 0, 1) := by decide +kernel
theorem dX3_readQuestion_1 : decode cX3_readQuestion 1 = .ok (.ldc2_w 28, 3) := by decide +kernel
theorem dX3_readQuestion_4 : decode cX3_readQuestion 4 = .ok (.putfield 30, 3) := by decide +kernel
theorem dX3_readQuestion_7 : decode cX3_readQuestion 7 = .ok (.aload_n 0, 1) := by decide +kernel
theorem dX3_readQuestion_8 : decode cX3_readQuestion 8 = .ok (.getfield 25, 3) := by decide +kernel
theorem dX3_readQuestion_11 : decode cX3_readQuestion 11 = .ok (.sipush 259, 3) := by decide +kernel
theorem dX3_readQuestion_14 : decode cX3_readQuestion 14 = .ok (.if_icmp .ne 23, 3) := by decide +kernel
theorem dX3_readQuestion_17 : decode cX3_readQuestion 17 = .ok (.aload_n 0, 1) := by decide +kernel
theorem dX3_readQuestion_18 : decode cX3_readQuestion 18 = .ok (.invokevirtual 65, 3) := by decide +kernel
theorem dX3_readQuestion_21 : decode cX3_readQuestion 21 = .ok (.aload_n 0, 1) := by decide +kernel
theorem dX3_readQuestion_22 : decode cX3_readQuestion 22 = .ok (.aload_n 0, 1) := by decide +kernel
theorem dX3_readQuestion_23 : decode cX3_readQuestion 23 = .ok (.iconst 0, 1) := by decide +kernel
theorem dX3_readQuestion_24 : decode cX3_readQuestion 24 = .ok (.invokevirtual 125, 3) := by decide +kernel
theorem dX3_readQuestion_27 : decode cX3_readQuestion 27 = .ok (.putfield 30, 3) := by decide +kernel
theorem dX3_readQuestion_30 : decode cX3_readQuestion 30 = .ok (.aload_n 0, 1) := by decide +kernel
theorem dX3_readQuestion_31 : decode cX3_readQuestion 31 = .ok (.sipush 260, 3) := by decide +kernel
theorem dX3_readQuestion_34 : decode cX3_readQuestion 34 = .ok (.invokevirtual 133, 3) := by decide +kernel
theorem dX3_readQuestion_37 : decode cX3_readQuestion 37 = .ok (.aload_n 0, 1) := by decide +kernel
theorem dX3_readQuestion_38 : decode cX3_readQuestion 38 = .ok (.aload_n 0, 1) := by decide +kernel
theorem dX3_readQuestion_39 : decode cX3_readQuestion 39 = .ok (.iconst 0, 1) := by decide +kernel
theorem dX3_readQuestion_40 : decode cX3_readQuestion 40 = .ok (.invokevirtual 125, 3) := by decide +kernel
theorem dX3_readQuestion_43 : decode cX3_readQuestion 43 = .ok (.putfield 34, 3) := by decide +kernel
theorem dX3_readQuestion_46 : decode cX3_readQuestion 46 = .ok (.aload_n 0, 1) := by decide +kernel
theorem dX3_readQuestion_47 : decode cX3_readQuestion 47 = .ok (.getfield 25, 3) := by decide +kernel
theorem dX3_readQuestion_50 : decode cX3_readQuestion 50 = .ok (.sipush 256, 3) := by decide +kernel
theorem dX3_readQuestion_53 : decode cX3_readQuestion 53 = .ok (.if_icmp .eq 7, 3) := by decide +kernel
theorem dX3_readQuestion_56 : decode cX3_readQuestion 56 = .ok (.aload_n 0, 1) := by decide +kernel
theorem dX3_readQuestion_57 : decode cX3_readQuestion 57 = .ok (.invokevirtual 90, 3) := by decide +kernel
theorem dX3_readQuestion_60 : decode cX3_readQuestion 60 = .ok (.return_, 1) := by decide +kernel
set_option maxRecDepth 20000 in
theorem ggX3_saying_X3_both : GoodIn wsX3_saying wsX3_both := goodIn_r _ [13, 1, 14, 15, 16, 5, 6, 7, 8, 9, 10, 11, 12, 17, 18, 19, 20, 21, 22, 23, 24, 25, 26, 27, 28, 29, 30, 0, 2, 3, 4, 31, 32, 33, 34, 35, 36, 37] (by decide +kernel) (by decide +kernel)
set_option maxRecDepth 20000 in
theorem gX3_saying_X3_both : GoodIn wsX3_saying (wsV RX3 143 RX3 yX3_both wsX3_both) := goodIn_app (goodIn_of _ (by decide +kernel)) ggX3_saying_X3_both
set_option maxRecDepth 20000 in
theorem ggX3_saying_X3_take : GoodIn wsX3_saying wsX3_take := goodIn_r _ [9, 10, 11, 12, 1, 31, 32, 33, 34, 35, 36, 37] (by decide +kernel) (by decide +kernel)
set_option maxRecDepth 20000 in
theorem gX3_saying_X3_take : GoodIn wsX3_saying (wsV RX3 65 RX3 yX3_take wsX3_take) := goodIn_app (goodIn_of _ (by decide +kernel)) ggX3_saying_X3_take
theorem dX3_saying_0 : decode cX3_saying 0 = .ok (.aload_n 0, 1) := by decide +kernel
theorem dX3_saying_1 : decode cX3_saying 1 = .ok (.iload_n 1, 1) := by decide +kernel
theorem dX3_saying_2 : decode cX3_saying 2 = .ok (.invokevirtual 143, 3) := by decide +kernel
theorem dX3_saying_5 : decode cX3_saying 5 = .ok (.lstore_n 2, 1) := by decide +kernel
theorem dX3_saying_6 : decode cX3_saying 6 = .ok (.iconst 0, 1) := by decide +kernel
theorem dX3_saying_7 : decode cX3_saying 7 = .ok (.istore 4, 2) := by decide +kernel
theorem dX3_saying_9 : decode cX3_saying 9 = .ok (.iload 4, 2) := by decide +kernel
theorem dX3_saying_11 : decode cX3_saying 11 = .ok (.sipush 400, 3) := by decide +kernel
theorem dX3_saying_14 : decode cX3_saying 14 = .ok (.if_icmp .ge 30, 3) := by decide +kernel
theorem dX3_saying_17 : decode cX3_saying 17 = .ok (.aload_n 0, 1) := by decide +kernel
theorem dX3_saying_18 : decode cX3_saying 18 = .ok (.getfield 25, 3) := by decide +kernel
theorem dX3_saying_21 : decode cX3_saying 21 = .ok (.bipush 124, 2) := by decide +kernel
theorem dX3_saying_23 : decode cX3_saying 23 = .ok (.if_icmp .ne 21, 3) := by decide +kernel
theorem dX3_saying_26 : decode cX3_saying 26 = .ok (.aload_n 0, 1) := by decide +kernel
theorem dX3_saying_27 : decode cX3_saying 27 = .ok (.invokevirtual 65, 3) := by decide +kernel
theorem dX3_saying_30 : decode cX3_saying 30 = .ok (.lload_n 2, 1) := by decide +kernel
theorem dX3_saying_31 : decode cX3_saying 31 = .ok (.aload_n 0, 1) := by decide +kernel
theorem dX3_saying_32 : decode cX3_saying 32 = .ok (.iload_n 1, 1) := by decide +kernel
theorem dX3_saying_33 : decode cX3_saying 33 = .ok (.invokevirtual 143, 3) := by decide +kernel
theorem dX3_saying_36 : decode cX3_saying 36 = .ok (.lor, 1) := by decide +kernel
theorem dX3_saying_37 : decode cX3_saying 37 = .ok (.lstore_n 2, 1) := by decide +kernel
theorem dX3_saying_38 : decode cX3_saying 38 = .ok (.iinc 4 1, 3) := by decide +kernel
theorem dX3_saying_41 : decode cX3_saying 41 = .ok (.goto (-32), 3) := by decide +kernel
theorem dX3_saying_44 : decode cX3_saying 44 = .ok (.lload_n 2, 1) := by decide +kernel
theorem dX3_saying_45 : decode cX3_saying 45 = .ok (.lreturn, 1) := by decide +kernel
set_option maxRecDepth 20000 in
theorem ggX3_both_X3_one : GoodIn wsX3_both wsX3_one := goodIn_r _ [13, 1, 14, 15, 6, 7, 8, 5, 9, 10, 11, 12, 2, 3, 4, 16, 17, 18, 19, 20, 21, 22, 23, 24, 25, 26, 0, 27, 28, 29, 30, 31, 32, 33, 34, 35, 36, 37] (by decide +kernel) (by decide +kernel)
set_option maxRecDepth 20000 in
theorem gX3_both_X3_one : GoodIn wsX3_both (wsV RX3 146 RX3 yX3_one wsX3_one) := goodIn_app (goodIn_of _ (by decide +kernel)) ggX3_both_X3_one
set_option maxRecDepth 20000 in
theorem ggX3_both_X3_take : GoodIn wsX3_both wsX3_take := goodIn_r _ [9, 10, 11, 12, 1, 31, 32, 33, 34, 35, 36, 37] (by decide +kernel) (by decide +kernel)
set_option maxRecDepth 20000 in
theorem gX3_both_X3_take : GoodIn wsX3_both (wsV RX3 65 RX3 yX3_take wsX3_take) := goodIn_app (goodIn_of _ (by decide +kernel)) ggX3_both_X3_take
theorem dX3_both_0 : decode cX3_both 0 = .ok (.aload_n 0, 1) := by decide +kernel
theorem dX3_both_1 : decode cX3_both 1 = .ok (.iload_n 1, 1) := by decide +kernel
theorem dX3_both_2 : decode cX3_both 2 = .ok (.invokevirtual 146, 3) := by decide +kernel
theorem dX3_both_5 : decode cX3_both 5 = .ok (.lstore_n 2, 1) := by decide +kernel
theorem dX3_both_6 : decode cX3_both 6 = .ok (.iconst 0, 1) := by decide +kernel
theorem dX3_both_7 : decode cX3_both 7 = .ok (.istore 4, 2) := by decide +kernel
theorem dX3_both_9 : decode cX3_both 9 = .ok (.iload 4, 2) := by decide +kernel
theorem dX3_both_11 : decode cX3_both 11 = .ok (.sipush 400, 3) := by decide +kernel
theorem dX3_both_14 : decode cX3_both 14 = .ok (.if_icmp .ge 30, 3) := by decide +kernel
theorem dX3_both_17 : decode cX3_both 17 = .ok (.aload_n 0, 1) := by decide +kernel
theorem dX3_both_18 : decode cX3_both 18 = .ok (.getfield 25, 3) := by decide +kernel
theorem dX3_both_21 : decode cX3_both 21 = .ok (.bipush 38, 2) := by decide +kernel
theorem dX3_both_23 : decode cX3_both 23 = .ok (.if_icmp .ne 21, 3) := by decide +kernel
theorem dX3_both_26 : decode cX3_both 26 = .ok (.aload_n 0, 1) := by decide +kernel
theorem dX3_both_27 : decode cX3_both 27 = .ok (.invokevirtual 65, 3) := by decide +kernel
theorem dX3_both_30 : decode cX3_both 30 = .ok (.lload_n 2, 1) := by decide +kernel
theorem dX3_both_31 : decode cX3_both 31 = .ok (.aload_n 0, 1) := by decide +kernel
theorem dX3_both_32 : decode cX3_both 32 = .ok (.iload_n 1, 1) := by decide +kernel
theorem dX3_both_33 : decode cX3_both 33 = .ok (.invokevirtual 146, 3) := by decide +kernel
theorem dX3_both_36 : decode cX3_both 36 = .ok (.land, 1) := by decide +kernel
theorem dX3_both_37 : decode cX3_both 37 = .ok (.lstore_n 2, 1) := by decide +kernel
theorem dX3_both_38 : decode cX3_both 38 = .ok (.iinc 4 1, 3) := by decide +kernel
theorem dX3_both_41 : decode cX3_both 41 = .ok (.goto (-32), 3) := by decide +kernel
theorem dX3_both_44 : decode cX3_both 44 = .ok (.lload_n 2, 1) := by decide +kernel
theorem dX3_both_45 : decode cX3_both 45 = .ok (.lreturn, 1) := by decide +kernel
set_option maxRecDepth 20000 in
theorem ggX3_one_X3_take : GoodIn wsX3_one wsX3_take := goodIn_r _ [8, 9, 10, 11, 1, 31, 32, 33, 34, 35, 36, 37] (by decide +kernel) (by decide +kernel)
set_option maxRecDepth 20000 in
theorem gX3_one_X3_take : GoodIn wsX3_one (wsV RX3 65 RX3 yX3_take wsX3_take) := goodIn_app (goodIn_of _ (by decide +kernel)) ggX3_one_X3_take
set_option maxRecDepth 20000 in
theorem ggX3_one_X3_one : GoodIn wsX3_one wsX3_one := goodIn_r _ [0, 1, 2, 3, 4, 5, 6, 7, 8, 9, 10, 11, 12, 13, 14, 15, 16, 17, 18, 19, 20, 21, 22, 23, 24, 25, 26, 27, 28, 29, 30, 31, 32, 33, 34, 35, 36, 37] (by decide +kernel) (by decide +kernel)
set_option maxRecDepth 20000 in
theorem gX3_one_X3_one : GoodIn wsX3_one (wsV RX3 146 RX3 yX3_one wsX3_one) := goodIn_app (goodIn_of _ (by decide +kernel)) ggX3_one_X3_one
set_option maxRecDepth 20000 in
theorem ggX3_one_X3_saying : GoodIn wsX3_one wsX3_saying := goodIn_r _ [27, 1, 28, 29, 30, 7, 4, 5, 6, 8, 9, 10, 11, 26, 12, 13, 14, 0, 2, 3, 15, 16, 17, 18, 19, 20, 21, 22, 23, 24, 25, 31, 32, 33, 34, 35, 36, 37] (by decide +kernel) (by decide +kernel)
set_option maxRecDepth 20000 in
theorem gX3_one_X3_saying : GoodIn wsX3_one (wsV RX3 125 RX3 yX3_saying wsX3_saying) := goodIn_app (goodIn_of _ (by decide +kernel)) ggX3_one_X3_saying
set_option maxRecDepth 20000 in
theorem ggX3_one_X3_expect : GoodIn wsX3_one wsX3_expect := goodIn_r _ [21, 1, 4, 5, 6, 7, 8, 9, 10, 11, 22, 23, 24, 25, 31, 32, 33, 34, 35, 36, 37] (by decide +kernel) (by decide +kernel)
set_option maxRecDepth 20000 in
theorem gX3_one_X3_expect : GoodIn wsX3_one (wsV RX3 133 RX3 yX3_expect wsX3_expect) := goodIn_app (goodIn_of _ (by decide +kernel)) ggX3_one_X3_expect
set_option maxRecDepth 20000 in
theorem ggX3_one_X3_refuse : GoodIn wsX3_one wsX3_refuse := goodIn_r _ [25, 1, 31, 32, 33, 34, 35, 36, 37] (by decide +kernel) (by decide +kernel)
set_option maxRecDepth 20000 in
theorem gX3_one_X3_refuse : GoodIn wsX3_one (wsV RX3 90 RX3 yX3_refuse wsX3_refuse) := goodIn_app (goodIn_of _ (by decide +kernel)) ggX3_one_X3_refuse
theorem dX3_one_0 : decode cX3_one 0 = .ok (.aload_n 0, 1) := by decide +kernel
theorem dX3_one_1 : decode cX3_one 1 = .ok (.getfield 25, 3) := by decide +kernel
theorem dX3_one_4 : decode cX3_one 4 = .ok (.bipush 97, 2) := by decide +kernel
theorem dX3_one_6 : decode cX3_one 6 = .ok (.isub, 1) := by decide +kernel
theorem dX3_one_7 : decode cX3_one 7 = .ok (.istore_n 2, 1) := by decide +kernel
theorem dX3_one_8 : decode cX3_one 8 = .ok (.iload_n 2, 1) := by decide +kernel
theorem dX3_one_9 : decode cX3_one 9 = .ok (.ifCond .lt 21, 3) := by decide +kernel
theorem dX3_one_12 : decode cX3_one 12 = .ok (.iload_n 2, 1) := by decide +kernel
theorem dX3_one_13 : decode cX3_one 13 = .ok (.getstatic 149, 3) := by decide +kernel
theorem dX3_one_16 : decode cX3_one 16 = .ok (.arraylength, 1) := by decide +kernel
theorem dX3_one_17 : decode cX3_one 17 = .ok (.if_icmp .ge 13, 3) := by decide +kernel
theorem dX3_one_20 : decode cX3_one 20 = .ok (.aload_n 0, 1) := by decide +kernel
theorem dX3_one_21 : decode cX3_one 21 = .ok (.invokevirtual 65, 3) := by decide +kernel
theorem dX3_one_24 : decode cX3_one 24 = .ok (.getstatic 149, 3) := by decide +kernel
theorem dX3_one_27 : decode cX3_one 27 = .ok (.iload_n 2, 1) := by decide +kernel
theorem dX3_one_28 : decode cX3_one 28 = .ok (.laload, 1) := by decide +kernel
theorem dX3_one_29 : decode cX3_one 29 = .ok (.lreturn, 1) := by decide +kernel
theorem dX3_one_30 : decode cX3_one 30 = .ok (.aload_n 0, 1) := by decide +kernel
theorem dX3_one_31 : decode cX3_one 31 = .ok (.getfield 25, 3) := by decide +kernel
theorem dX3_one_34 : decode cX3_one 34 = .ok (.bipush 48, 2) := by decide +kernel
theorem dX3_one_36 : decode cX3_one 36 = .ok (.if_icmp .eq 12, 3) := by decide +kernel
theorem dX3_one_39 : decode cX3_one 39 = .ok (.aload_n 0, 1) := by decide +kernel
theorem dX3_one_40 : decode cX3_one 40 = .ok (.getfield 25, 3) := by decide +kernel
theorem dX3_one_43 : decode cX3_one 43 = .ok (.bipush 49, 2) := by decide +kernel
theorem dX3_one_45 : decode cX3_one 45 = .ok (.if_icmp .ne 26, 3) := by decide +kernel
theorem dX3_one_48 : decode cX3_one 48 = .ok (.aload_n 0, 1) := by decide +kernel
theorem dX3_one_49 : decode cX3_one 49 = .ok (.getfield 25, 3) := by decide +kernel
theorem dX3_one_52 : decode cX3_one 52 = .ok (.bipush 49, 2) := by decide +kernel
theorem dX3_one_54 : decode cX3_one 54 = .ok (.if_icmp .ne 9, 3) := by decide +kernel
theorem dX3_one_57 : decode cX3_one 57 = .ok (.ldc2_w 28, 3) := by decide +kernel
theorem dX3_one_60 : decode cX3_one 60 = .ok (.goto 4, 3) := by decide +kernel
theorem dX3_one_63 : decode cX3_one 63 = .ok (.lconst 0, 1) := by decide +kernel
theorem dX3_one_64 : decode cX3_one 64 = .ok (.lstore_n 3, 1) := by decide +kernel
theorem dX3_one_65 : decode cX3_one 65 = .ok (.aload_n 0, 1) := by decide +kernel
theorem dX3_one_66 : decode cX3_one 66 = .ok (.invokevirtual 65, 3) := by decide +kernel
theorem dX3_one_69 : decode cX3_one 69 = .ok (.lload_n 3, 1) := by decide +kernel
theorem dX3_one_70 : decode cX3_one 70 = .ok (.lreturn, 1) := by decide +kernel
theorem dX3_one_71 : decode cX3_one 71 = .ok (.aload_n 0, 1) := by decide +kernel
theorem dX3_one_72 : decode cX3_one 72 = .ok (.getfield 25, 3) := by decide +kernel
theorem dX3_one_75 : decode cX3_one 75 = .ok (.bipush 33, 2) := by decide +kernel
theorem dX3_one_77 : decode cX3_one 77 = .ok (.if_icmp .ne 25, 3) := by decide +kernel
theorem dX3_one_80 : decode cX3_one 80 = .ok (.iload_n 1, 1) := by decide +kernel
theorem dX3_one_81 : decode cX3_one 81 = .ok (.bipush 8, 2) := by decide +kernel
theorem dX3_one_83 : decode cX3_one 83 = .ok (.if_icmp .ge 19, 3) := by decide +kernel
theorem dX3_one_86 : decode cX3_one 86 = .ok (.aload_n 0, 1) := by decide +kernel
theorem dX3_one_87 : decode cX3_one 87 = .ok (.invokevirtual 65, 3) := by decide +kernel
theorem dX3_one_90 : decode cX3_one 90 = .ok (.aload_n 0, 1) := by decide +kernel
theorem dX3_one_91 : decode cX3_one 91 = .ok (.iload_n 1, 1) := by decide +kernel
theorem dX3_one_92 : decode cX3_one 92 = .ok (.iconst 1, 1) := by decide +kernel
theorem dX3_one_93 : decode cX3_one 93 = .ok (.iadd, 1) := by decide +kernel
theorem dX3_one_94 : decode cX3_one 94 = .ok (.invokevirtual 146, 3) := by decide +kernel
theorem dX3_one_97 : decode cX3_one 97 = .ok (.ldc2_w 28, 3) := by decide +kernel
theorem dX3_one_100 : decode cX3_one 100 = .ok (.lxor, 1) := by decide +kernel
theorem dX3_one_101 : decode cX3_one 101 = .ok (.lreturn, 1) := by decide +kernel
theorem dX3_one_102 : decode cX3_one 102 = .ok (.aload_n 0, 1) := by decide +kernel
theorem dX3_one_103 : decode cX3_one 103 = .ok (.getfield 25, 3) := by decide +kernel
theorem dX3_one_106 : decode cX3_one 106 = .ok (.bipush 40, 2) := by decide +kernel
theorem dX3_one_108 : decode cX3_one 108 = .ok (.if_icmp .ne 29, 3) := by decide +kernel
theorem dX3_one_111 : decode cX3_one 111 = .ok (.iload_n 1, 1) := by decide +kernel
theorem dX3_one_112 : decode cX3_one 112 = .ok (.bipush 8, 2) := by decide +kernel
theorem dX3_one_114 : decode cX3_one 114 = .ok (.if_icmp .ge 23, 3) := by decide +kernel
theorem dX3_one_117 : decode cX3_one 117 = .ok (.aload_n 0, 1) := by decide +kernel
theorem dX3_one_118 : decode cX3_one 118 = .ok (.invokevirtual 65, 3) := by decide +kernel
theorem dX3_one_121 : decode cX3_one 121 = .ok (.aload_n 0, 1) := by decide +kernel
theorem dX3_one_122 : decode cX3_one 122 = .ok (.iload_n 1, 1) := by decide +kernel
theorem dX3_one_123 : decode cX3_one 123 = .ok (.iconst 1, 1) := by decide +kernel
theorem dX3_one_124 : decode cX3_one 124 = .ok (.iadd, 1) := by decide +kernel
theorem dX3_one_125 : decode cX3_one 125 = .ok (.invokevirtual 125, 3) := by decide +kernel
theorem dX3_one_128 : decode cX3_one 128 = .ok (.lstore_n 3, 1) := by decide +kernel
theorem dX3_one_129 : decode cX3_one 129 = .ok (.aload_n 0, 1) := by decide +kernel
theorem dX3_one_130 : decode cX3_one 130 = .ok (.bipush 41, 2) := by decide +kernel
theorem dX3_one_132 : decode cX3_one 132 = .ok (.invokevirtual 133, 3) := by decide +kernel
theorem dX3_one_135 : decode cX3_one 135 = .ok (.lload_n 3, 1) := by decide +kernel
theorem dX3_one_136 : decode cX3_one 136 = .ok (.lreturn, 1) := by decide +kernel
theorem dX3_one_137 : decode cX3_one 137 = .ok (.aload_n 0, 1) := by decide +kernel
theorem dX3_one_138 : decode cX3_one 138 = .ok (.invokevirtual 90, 3) := by decide +kernel
theorem dX3_one_141 : decode cX3_one 141 = .ok (.lconst 0, 1) := by decide +kernel
theorem dX3_one_142 : decode cX3_one 142 = .ok (.lreturn, 1) := by decide +kernel
set_option maxRecDepth 20000 in
theorem ggX4_init_X5_init : GoodIn wsX4_init wsX5_init := goodIn_r _ [14, 15, 2, 3, 16, 17, 18, 19, 20, 21, 22, 23, 28, 29, 30] (by decide +kernel) (by decide +kernel)
set_option maxRecDepth 20000 in
theorem gX4_init_X5_init : GoodIn wsX4_init (wsX5_init) := ggX4_init_X5_init
theorem dX4_init_0 : decode cX4_init 0 = .ok (.aload_n 0, 1) := by decide +kernel
theorem dX4_init_1 : decode cX4_init 1 = .ok (.invokespecial 3, 3) := by decide +kernel
theorem dX4_init_4 : decode cX4_init 4 = .ok (.aload_n 0, 1) := by decide +kernel
theorem dX4_init_5 : decode cX4_init 5 = .ok (.bipush 9, 2) := by decide +kernel
theorem dX4_init_7 : decode cX4_init 7 = .ok (.newarray .int, 2) := by decide +kernel
theorem dX4_init_9 : decode cX4_init 9 = .ok (.putfield 9, 3) := by decide +kernel
theorem dX4_init_12 : decode cX4_init 12 = .ok (.aload_n 0, 1) := by decide +kernel
theorem dX4_init_13 : decode cX4_init 13 = .ok (.iconst 0, 1) := by decide +kernel
theorem dX4_init_14 : decode cX4_init 14 = .ok (.putfield 15, 3) := by decide +kernel
theorem dX4_init_17 : decode cX4_init 17 = .ok (.aload_n 0, 1) := by decide +kernel
theorem dX4_init_18 : decode cX4_init 18 = .ok (.new 19, 3) := by decide +kernel
theorem dX4_init_21 : decode cX4_init 21 = .ok (.dup, 1) := by decide +kernel
theorem dX4_init_22 : decode cX4_init 22 = .ok (.iload_n 1, 1) := by decide +kernel
theorem dX4_init_23 : decode cX4_init 23 = .ok (.invokespecial 21, 3) := by decide +kernel
theorem dX4_init_26 : decode cX4_init 26 = .ok (.putfield 24, 3) := by decide +kernel
theorem dX4_init_29 : decode cX4_init 29 = .ok (.aload_n 0, 1) := by decide +kernel
theorem dX4_init_30 : decode cX4_init 30 = .ok (.new 19, 3) := by decide +kernel
theorem dX4_init_33 : decode cX4_init 33 = .ok (.dup, 1) := by decide +kernel
theorem dX4_init_34 : decode cX4_init 34 = .ok (.iload_n 1, 1) := by decide +kernel
theorem dX4_init_35 : decode cX4_init 35 = .ok (.invokespecial 21, 3) := by decide +kernel
theorem dX4_init_38 : decode cX4_init 38 = .ok (.putfield 28, 3) := by decide +kernel
theorem dX4_init_41 : decode cX4_init 41 = .ok (.return_, 1) := by decide +kernel
set_option maxRecDepth 20000 in
theorem ggX4_size_X5_size : GoodIn wsX4_size wsX5_size := goodIn_r _ [6, 7, 12, 13, 14] (by decide +kernel) (by decide +kernel)
set_option maxRecDepth 20000 in
theorem gX4_size_X5_size : GoodIn wsX4_size (wsV RX4 31 RX5 yX5_size wsX5_size) := goodIn_app (goodIn_of _ (by decide +kernel)) ggX4_size_X5_size
theorem dX4_size_0 : decode cX4_size 0 = .ok (.aload_n 0, 1) := by decide +kernel
theorem dX4_size_1 : decode cX4_size 1 = .ok (.getfield 24, 3) := by decide +kernel
theorem dX4_size_4 : decode cX4_size 4 = .ok (.invokevirtual 31, 3) := by decide +kernel
theorem dX4_size_7 : decode cX4_size 7 = .ok (.ireturn, 1) := by decide +kernel
set_option maxRecDepth 20000 in
theorem ggX4_isFull_X5_isFull : GoodIn wsX4_isFull wsX5_isFull := goodIn_r _ [6, 7, 8, 13, 14, 15] (by decide +kernel) (by decide +kernel)
set_option maxRecDepth 20000 in
theorem gX4_isFull_X5_isFull : GoodIn wsX4_isFull (wsV RX4 35 RX5 yX5_isFull wsX5_isFull) := goodIn_app (goodIn_of _ (by decide +kernel)) ggX4_isFull_X5_isFull
theorem dX4_isFull_0 : decode cX4_isFull 0 = .ok (.aload_n 0, 1) := by decide +kernel
theorem dX4_isFull_1 : decode cX4_isFull 1 = .ok (.getfield 24, 3) := by decide +kernel
theorem dX4_isFull_4 : decode cX4_isFull 4 = .ok (.invokevirtual 35, 3) := by decide +kernel
theorem dX4_isFull_7 : decode cX4_isFull 7 = .ok (.ireturn, 1) := by decide +kernel
set_option maxRecDepth 20000 in
theorem ggX4_has_X5_has : GoodIn wsX4_has wsX5_has := goodIn_r _ [6, 7, 12, 13, 14] (by decide +kernel) (by decide +kernel)
set_option maxRecDepth 20000 in
theorem gX4_has_X5_has : GoodIn wsX4_has (wsV RX4 39 RX5 yX5_has wsX5_has) := goodIn_app (goodIn_of _ (by decide +kernel)) ggX4_has_X5_has
theorem dX4_has_0 : decode cX4_has 0 = .ok (.aload_n 0, 1) := by decide +kernel
theorem dX4_has_1 : decode cX4_has 1 = .ok (.getfield 24, 3) := by decide +kernel
theorem dX4_has_4 : decode cX4_has 4 = .ok (.iload_n 1, 1) := by decide +kernel
theorem dX4_has_5 : decode cX4_has 5 = .ok (.invokevirtual 39, 3) := by decide +kernel
theorem dX4_has_8 : decode cX4_has 8 = .ok (.ireturn, 1) := by decide +kernel
theorem dX4_quarrel_0 : decode cX4_quarrel 0 = .ok (.aload_n 0, 1) := by decide +kernel
theorem dX4_quarrel_1 : decode cX4_quarrel 1 = .ok (.getfield 15, 3) := by decide +kernel
theorem dX4_quarrel_4 : decode cX4_quarrel 4 = .ok (.ireturn, 1) := by decide +kernel
set_option maxRecDepth 20000 in
theorem ggX4_empty_X5_empty : GoodIn wsX4_empty wsX5_empty := goodIn_r _ [7, 8, 13, 14, 15] (by decide +kernel) (by decide +kernel)
set_option maxRecDepth 20000 in
theorem gX4_empty_X5_empty : GoodIn wsX4_empty (wsV RX4 43 RX5 yX5_empty wsX5_empty) := goodIn_app (goodIn_of _ (by decide +kernel)) ggX4_empty_X5_empty
theorem dX4_empty_0 : decode cX4_empty 0 = .ok (.aload_n 0, 1) := by decide +kernel
theorem dX4_empty_1 : decode cX4_empty 1 = .ok (.getfield 24, 3) := by decide +kernel
theorem dX4_empty_4 : decode cX4_empty 4 = .ok (.invokevirtual 43, 3) := by decide +kernel
theorem dX4_empty_7 : decode cX4_empty 7 = .ok (.aload_n 0, 1) := by decide +kernel
theorem dX4_empty_8 : decode cX4_empty 8 = .ok (.getfield 28, 3) := by decide +kernel
theorem dX4_empty_11 : decode cX4_empty 11 = .ok (.invokevirtual 43, 3) := by decide +kernel
theorem dX4_empty_14 : decode cX4_empty 14 = .ok (.return_, 1) := by decide +kernel
set_option maxRecDepth 20000 in
theorem ggX4_add_X5_add : GoodIn wsX4_add wsX5_add := goodIn_r _ [7, 8, 9, 10, 15, 16, 17] (by decide +kernel) (by decide +kernel)
set_option maxRecDepth 20000 in
theorem gX4_add_X5_add : GoodIn wsX4_add (wsV RX4 46 RX5 yX5_add wsX5_add) := goodIn_app (goodIn_of _ (by decide +kernel)) ggX4_add_X5_add
theorem dX4_add_0 : decode cX4_add 0 = .ok (.aload_n 0, 1) := by decide +kernel
theorem dX4_add_1 : decode cX4_add 1 = .ok (.getfield 24, 3) := by decide +kernel
theorem dX4_add_4 : decode cX4_add 4 = .ok (.lload_n 1, 1) := by decide +kernel
theorem dX4_add_5 : decode cX4_add 5 = .ok (.invokevirtual 46, 3) := by decide +kernel
theorem dX4_add_8 : decode cX4_add 8 = .ok (.aload_n 0, 1) := by decide +kernel
theorem dX4_add_9 : decode cX4_add 9 = .ok (.getfield 28, 3) := by decide +kernel
theorem dX4_add_12 : decode cX4_add 12 = .ok (.lload_n 3, 1) := by decide +kernel
theorem dX4_add_13 : decode cX4_add 13 = .ok (.invokevirtual 46, 3) := by decide +kernel
theorem dX4_add_16 : decode cX4_add 16 = .ok (.return_, 1) := by decide +kernel
set_option maxRecDepth 20000 in
theorem ggX4_copy_X4_empty : GoodIn wsX4_copy wsX4_empty := goodIn_r _ [7, 1, 2, 8, 9, 10, 11, 12, 13, 36, 37, 38, 39, 40, 41, 42] (by decide +kernel) (by decide +kernel)
set_option maxRecDepth 20000 in
theorem gX4_copy_X4_empty : GoodIn wsX4_copy (wsV RX4 50 RX4 yX4_empty wsX4_empty) := goodIn_app (goodIn_of _ (by decide +kernel)) ggX4_copy_X4_empty
set_option maxRecDepth 20000 in
theorem ggX4_copy_X4_size : GoodIn wsX4_copy wsX4_size := goodIn_r _ [17, 1, 18, 19, 20, 11, 21, 13, 36, 37, 38, 39, 40, 41, 42] (by decide +kernel) (by decide +kernel)
set_option maxRecDepth 20000 in
theorem gX4_copy_X4_size : GoodIn wsX4_copy (wsV RX4 51 RX4 yX4_size wsX4_size) := goodIn_app (goodIn_of _ (by decide +kernel)) ggX4_copy_X4_size
set_option maxRecDepth 20000 in
theorem ggX4_copy_X5_get : GoodIn wsX4_copy wsX5_get := goodIn_r _ [25, 13, 26, 40, 41, 42] (by decide +kernel) (by decide +kernel)
set_option maxRecDepth 20000 in
theorem gX4_copy_X5_get : GoodIn wsX4_copy (wsV RX4 52 RX5 yX5_get wsX5_get) := goodIn_app (goodIn_of _ (by decide +kernel)) ggX4_copy_X5_get
set_option maxRecDepth 20000 in
theorem ggX4_copy_X4_add : GoodIn wsX4_copy wsX4_add := goodIn_r _ [30, 1, 2, 31, 32, 33, 11, 34, 13, 35, 26, 36, 37, 38, 39, 40, 41, 42] (by decide +kernel) (by decide +kernel)
set_option maxRecDepth 20000 in
theorem gX4_copy_X4_add : GoodIn wsX4_copy (wsV RX4 56 RX4 yX4_add wsX4_add) := goodIn_app (goodIn_of _ (by decide +kernel)) ggX4_copy_X4_add
theorem dX4_copy_0 : decode cX4_copy 0 = .ok (.aload_n 0, 1) := by decide +kernel
theorem dX4_copy_1 : decode cX4_copy 1 = .ok (.invokevirtual 50, 3) := by decide +kernel
theorem dX4_copy_4 : decode cX4_copy 4 = .ok (.iconst 0, 1) := by decide +kernel
theorem dX4_copy_5 : decode cX4_copy 5 = .ok (.istore_n 2, 1) := by decide +kernel
theorem dX4_copy_6 : decode cX4_copy 6 = .ok (.iload_n 2, 1) := by decide +kernel
theorem dX4_copy_7 : decode cX4_copy 7 = .ok (.aload_n 1, 1) := by decide +kernel
theorem dX4_copy_8 : decode cX4_copy 8 = .ok (.invokevirtual 51, 3) := by decide +kernel
theorem dX4_copy_11 : decode cX4_copy 11 = .ok (.if_icmp .ge 29, 3) := by decide +kernel
theorem dX4_copy_14 : decode cX4_copy 14 = .ok (.aload_n 0, 1) := by decide +kernel
theorem dX4_copy_15 : decode cX4_copy 15 = .ok (.aload_n 1, 1) := by decide +kernel
theorem dX4_copy_16 : decode cX4_copy 16 = .ok (.getfield 24, 3) := by decide +kernel
theorem dX4_copy_19 : decode cX4_copy 19 = .ok (.iload_n 2, 1) := by decide +kernel
theorem dX4_copy_20 : decode cX4_copy 20 = .ok (.invokevirtual 52, 3) := by decide +kernel
theorem dX4_copy_23 : decode cX4_copy 23 = .ok (.aload_n 1, 1) := by decide +kernel
theorem dX4_copy_24 : decode cX4_copy 24 = .ok (.getfield 28, 3) := by decide +kernel
theorem dX4_copy_27 : decode cX4_copy 27 = .ok (.iload_n 2, 1) := by decide +kernel
theorem dX4_copy_28 : decode cX4_copy 28 = .ok (.invokevirtual 52, 3) := by decide +kernel
theorem dX4_copy_31 : decode cX4_copy 31 = .ok (.invokevirtual 56, 3) := by decide +kernel
theorem dX4_copy_34 : decode cX4_copy 34 = .ok (.iinc 2 1, 3) := by decide +kernel
theorem dX4_copy_37 : decode cX4_copy 37 = .ok (.goto (-31), 3) := by decide +kernel
theorem dX4_copy_40 : decode cX4_copy 40 = .ok (.return_, 1) := by decide +kernel
set_option maxRecDepth 20000 in
theorem ggX4_breaking_X5_get : GoodIn wsX4_breaking wsX5_get := goodIn_r _ [8, 9, 10, 15, 16, 17] (by decide +kernel) (by decide +kernel)
set_option maxRecDepth 20000 in
theorem gX4_breaking_X5_get : GoodIn wsX4_breaking (wsV RX4 52 RX5 yX5_get wsX5_get) := goodIn_app (goodIn_of _ (by decide +kernel)) ggX4_breaking_X5_get
theorem dX4_breaking_0 : decode cX4_breaking 0 = .ok (.aload_n 0, 1) := by decide +kernel
theorem dX4_breaking_1 : decode cX4_breaking 1 = .ok (.getfield 24, 3) := by decide +kernel
theorem dX4_breaking_4 : decode cX4_breaking 4 = .ok (.iload_n 1, 1) := by decide +kernel
theorem dX4_breaking_5 : decode cX4_breaking 5 = .ok (.invokevirtual 52, 3) := by decide +kernel
theorem dX4_breaking_8 : decode cX4_breaking 8 = .ok (.aload_n 0, 1) := by decide +kernel
theorem dX4_breaking_9 : decode cX4_breaking 9 = .ok (.getfield 28, 3) := by decide +kernel
theorem dX4_breaking_12 : decode cX4_breaking 12 = .ok (.iload_n 1, 1) := by decide +kernel
theorem dX4_breaking_13 : decode cX4_breaking 13 = .ok (.invokevirtual 52, 3) := by decide +kernel
theorem dX4_breaking_16 : decode cX4_breaking 16 = .ok (.ldc2_w 59, 3) := by decide +kernel
theorem dX4_breaking_19 : decode cX4_breaking 19 = .ok (.lxor, 1) := by decide +kernel
theorem dX4_breaking_20 : decode cX4_breaking 20 = .ok (.land, 1) := by decide +kernel
theorem dX4_breaking_21 : decode cX4_breaking 21 = .ok (.lreturn, 1) := by decide +kernel
set_option maxRecDepth 20000 in
theorem ggX4_brokenIn_X4_size : GoodIn wsX4_brokenIn wsX4_size := goodIn_r _ [5, 6, 7, 8, 9, 10, 11, 12, 27, 28, 29, 30, 31, 32, 33] (by decide +kernel) (by decide +kernel)
set_option maxRecDepth 20000 in
theorem gX4_brokenIn_X4_size : GoodIn wsX4_brokenIn (wsV RX4 51 RX4 yX4_size wsX4_size) := goodIn_app (goodIn_of _ (by decide +kernel)) ggX4_brokenIn_X4_size
set_option maxRecDepth 20000 in
theorem ggX4_brokenIn_X4_breaking : GoodIn wsX4_brokenIn wsX4_breaking := goodIn_r _ [16, 6, 17, 18, 19, 20, 21, 10, 22, 12, 23, 27, 28, 29, 30, 31, 32, 33] (by decide +kernel) (by decide +kernel)
set_option maxRecDepth 20000 in
theorem gX4_brokenIn_X4_breaking : GoodIn wsX4_brokenIn (wsV RX4 61 RX4 yX4_breaking wsX4_breaking) := goodIn_app (goodIn_of _ (by decide +kernel)) ggX4_brokenIn_X4_breaking
set_option maxRecDepth 20000 in
theorem ggX4_brokenIn_X7_holds : GoodIn wsX4_brokenIn wsX7_holds := goodIn_r _ [26] (by decide +kernel) (by decide +kernel)
set_option maxRecDepth 20000 in
theorem gX4_brokenIn_X7_holds_n64 : GoodIn wsX4_brokenIn (wsX7_holds) := ggX4_brokenIn_X7_holds
theorem dX4_brokenIn_0 : decode cX4_brokenIn 0 = .ok (.iconst 0, 1) := by decide +kernel
theorem dX4_brokenIn_1 : decode cX4_brokenIn 1 = .ok (.istore_n 2, 1) := by decide +kernel
theorem dX4_brokenIn_2 : decode cX4_brokenIn 2 = .ok (.iconst 0, 1) := by decide +kernel
theorem dX4_brokenIn_3 : decode cX4_brokenIn 3 = .ok (.istore_n 3, 1) := by decide +kernel
theorem dX4_brokenIn_4 : decode cX4_brokenIn 4 = .ok (.iload_n 3, 1) := by decide +kernel
theorem dX4_brokenIn_5 : decode cX4_brokenIn 5 = .ok (.aload_n 0, 1) := by decide +kernel
theorem dX4_brokenIn_6 : decode cX4_brokenIn 6 = .ok (.invokevirtual 51, 3) := by decide +kernel
theorem dX4_brokenIn_9 : decode cX4_brokenIn 9 = .ok (.if_icmp .ge 27, 3) := by decide +kernel
theorem dX4_brokenIn_12 : decode cX4_brokenIn 12 = .ok (.aload_n 0, 1) := by decide +kernel
theorem dX4_brokenIn_13 : decode cX4_brokenIn 13 = .ok (.iload_n 3, 1) := by decide +kernel
theorem dX4_brokenIn_14 : decode cX4_brokenIn 14 = .ok (.invokevirtual 61, 3) := by decide +kernel
theorem dX4_brokenIn_17 : decode cX4_brokenIn 17 = .ok (.iload_n 1, 1) := by decide +kernel
theorem dX4_brokenIn_18 : decode cX4_brokenIn 18 = .ok (.invokestatic 64, 3) := by decide +kernel
theorem dX4_brokenIn_21 : decode cX4_brokenIn 21 = .ok (.ifCond .eq 9, 3) := by decide +kernel
theorem dX4_brokenIn_24 : decode cX4_brokenIn 24 = .ok (.iload_n 2, 1) := by decide +kernel
theorem dX4_brokenIn_25 : decode cX4_brokenIn 25 = .ok (.iconst 1, 1) := by decide +kernel
theorem dX4_brokenIn_26 : decode cX4_brokenIn 26 = .ok (.iload_n 3, 1) := by decide +kernel
theorem dX4_brokenIn_27 : decode cX4_brokenIn 27 = .ok (.ishl, 1) := by decide +kernel
theorem dX4_brokenIn_28 : decode cX4_brokenIn 28 = .ok (.ior, 1) := by decide +kernel
theorem dX4_brokenIn_29 : decode cX4_brokenIn 29 = .ok (.istore_n 2, 1) := by decide +kernel
theorem dX4_brokenIn_30 : decode cX4_brokenIn 30 = .ok (.iinc 3 1, 3) := by decide +kernel
theorem dX4_brokenIn_33 : decode cX4_brokenIn 33 = .ok (.goto (-29), 3) := by decide +kernel
theorem dX4_brokenIn_36 : decode cX4_brokenIn 36 = .ok (.iload_n 2, 1) := by decide +kernel
theorem dX4_brokenIn_37 : decode cX4_brokenIn 37 = .ok (.ireturn, 1) := by decide +kernel
set_option maxRecDepth 20000 in
theorem ggX4_sort_X4_size : GoodIn wsX4_sort wsX4_size := goodIn_r _ [7, 8, 9, 10, 11, 12, 13, 14, 37, 38, 39, 40, 41, 42, 43] (by decide +kernel) (by decide +kernel)
set_option maxRecDepth 20000 in
theorem gX4_sort_X4_size : GoodIn wsX4_sort (wsV RX4 51 RX4 yX4_size wsX4_size) := goodIn_app (goodIn_of _ (by decide +kernel)) ggX4_sort_X4_size
set_option maxRecDepth 20000 in
theorem ggX4_sort_X4_borneBy : GoodIn wsX4_sort wsX4_borneBy := goodIn_r _ [18, 19, 8, 20, 3, 4, 5, 6, 7, 9, 10, 11, 12, 13, 14, 21, 22, 23, 24, 25, 26, 27, 28, 29, 30, 31, 32, 37, 38, 39, 40, 41, 42, 43] (by decide +kernel) (by decide +kernel)
set_option maxRecDepth 20000 in
theorem gX4_sort_X4_borneBy : GoodIn wsX4_sort (wsV RX4 68 RX4 yX4_borneBy wsX4_borneBy) := goodIn_app (goodIn_of _ (by decide +kernel)) ggX4_sort_X4_borneBy
set_option maxRecDepth 20000 in
theorem ggX4_sort_X4_stamp : GoodIn wsX4_sort wsX4_stamp := goodIn_r _ [36, 1, 21, 22, 23, 37, 38, 39, 40] (by decide +kernel) (by decide +kernel)
set_option maxRecDepth 20000 in
theorem gX4_sort_X4_stamp : GoodIn wsX4_sort (wsV RX4 72 RX4 yX4_stamp wsX4_stamp) := goodIn_app (goodIn_of _ (by decide +kernel)) ggX4_sort_X4_stamp
theorem dX4_sort_0 : decode cX4_sort 0 = .ok (.iconst 1, 1) := by decide +kernel
theorem dX4_sort_1 : decode cX4_sort 1 = .ok (.aload_n 0, 1) := by decide +kernel
theorem dX4_sort_2 : decode cX4_sort 2 = .ok (.invokevirtual 51, 3) := by decide +kernel
theorem dX4_sort_5 : decode cX4_sort 5 = .ok (.ishl, 1) := by decide +kernel
theorem dX4_sort_6 : decode cX4_sort 6 = .ok (.iconst 1, 1) := by decide +kernel
theorem dX4_sort_7 : decode cX4_sort 7 = .ok (.isub, 1) := by decide +kernel
theorem dX4_sort_8 : decode cX4_sort 8 = .ok (.istore_n 3, 1) := by decide +kernel
theorem dX4_sort_9 : decode cX4_sort 9 = .ok (.iconst 0, 1) := by decide +kernel
theorem dX4_sort_10 : decode cX4_sort 10 = .ok (.istore 4, 2) := by decide +kernel
theorem dX4_sort_12 : decode cX4_sort 12 = .ok (.iload 4, 2) := by decide +kernel
theorem dX4_sort_14 : decode cX4_sort 14 = .ok (.aload_n 0, 1) := by decide +kernel
theorem dX4_sort_15 : decode cX4_sort 15 = .ok (.getfield 9, 3) := by decide +kernel
theorem dX4_sort_18 : decode cX4_sort 18 = .ok (.arraylength, 1) := by decide +kernel
theorem dX4_sort_19 : decode cX4_sort 19 = .ok (.if_icmp .ge 36, 3) := by decide +kernel
theorem dX4_sort_22 : decode cX4_sort 22 = .ok (.iload_n 3, 1) := by decide +kernel
theorem dX4_sort_23 : decode cX4_sort 23 = .ok (.ifCond .eq 32, 3) := by decide +kernel
theorem dX4_sort_26 : decode cX4_sort 26 = .ok (.aload_n 0, 1) := by decide +kernel
theorem dX4_sort_27 : decode cX4_sort 27 = .ok (.iload_n 3, 1) := by decide +kernel
theorem dX4_sort_28 : decode cX4_sort 28 = .ok (.lload_n 1, 1) := by decide +kernel
theorem dX4_sort_29 : decode cX4_sort 29 = .ok (.invokevirtual 68, 3) := by decide +kernel
theorem dX4_sort_32 : decode cX4_sort 32 = .ok (.istore 5, 2) := by decide +kernel
theorem dX4_sort_34 : decode cX4_sort 34 = .ok (.aload_n 0, 1) := by decide +kernel
theorem dX4_sort_35 : decode cX4_sort 35 = .ok (.iload 5, 2) := by decide +kernel
theorem dX4_sort_37 : decode cX4_sort 37 = .ok (.iload 4, 2) := by decide +kernel
theorem dX4_sort_39 : decode cX4_sort 39 = .ok (.invokevirtual 72, 3) := by decide +kernel
theorem dX4_sort_42 : decode cX4_sort 42 = .ok (.iload_n 3, 1) := by decide +kernel
theorem dX4_sort_43 : decode cX4_sort 43 = .ok (.iload 5, 2) := by decide +kernel
theorem dX4_sort_45 : decode cX4_sort 45 = .ok (.iconst (-1), 1) := by decide +kernel
theorem dX4_sort_46 : decode cX4_sort 46 = .ok (.ixor, 1) := by decide +kernel
theorem dX4_sort_47 : decode cX4_sort 47 = .ok (.iand, 1) := by decide +kernel
theorem dX4_sort_48 : decode cX4_sort 48 = .ok (.istore_n 3, 1) := by decide +kernel
theorem dX4_sort_49 : decode cX4_sort 49 = .ok (.iinc 4 1, 3) := by decide +kernel
theorem dX4_sort_52 : decode cX4_sort 52 = .ok (.goto (-40), 3) := by decide +kernel
theorem dX4_sort_55 : decode cX4_sort 55 = .ok (.aload_n 0, 1) := by decide +kernel
theorem dX4_sort_56 : decode cX4_sort 56 = .ok (.iload_n 3, 1) := by decide +kernel
theorem dX4_sort_57 : decode cX4_sort 57 = .ok (.bipush (-9), 2) := by decide +kernel
theorem dX4_sort_59 : decode cX4_sort 59 = .ok (.invokevirtual 72, 3) := by decide +kernel
theorem dX4_sort_62 : decode cX4_sort 62 = .ok (.aload_n 0, 1) := by decide +kernel
theorem dX4_sort_63 : decode cX4_sort 63 = .ok (.iload_n 3, 1) := by decide +kernel
theorem dX4_sort_64 : decode cX4_sort 64 = .ok (.ifCond .eq 7, 3) := by decide +kernel
theorem dX4_sort_67 : decode cX4_sort 67 = .ok (.iconst 1, 1) := by decide +kernel
theorem dX4_sort_68 : decode cX4_sort 68 = .ok (.goto 4, 3) := by decide +kernel
theorem dX4_sort_71 : decode cX4_sort 71 = .ok (.iconst 0, 1) := by decide +kernel
theorem dX4_sort_72 : decode cX4_sort 72 = .ok (.putfield 15, 3) := by decide +kernel
theorem dX4_sort_75 : decode cX4_sort 75 = .ok (.return_, 1) := by decide +kernel
set_option maxRecDepth 20000 in
theorem ggX4_borneBy_X4_size : GoodIn wsX4_borneBy wsX4_size := goodIn_r _ [8, 2, 9, 10, 11, 12, 13, 14, 27, 28, 29, 30, 31, 32, 33] (by decide +kernel) (by decide +kernel)
set_option maxRecDepth 20000 in
theorem gX4_borneBy_X4_size : GoodIn wsX4_borneBy (wsV RX4 51 RX4 yX4_size wsX4_size) := goodIn_app (goodIn_of _ (by decide +kernel)) ggX4_borneBy_X4_size
set_option maxRecDepth 20000 in
theorem ggX4_borneBy_X7_inSet : GoodIn wsX4_borneBy wsX7_inSet := goodIn_r _ [17] (by decide +kernel) (by decide +kernel)
set_option maxRecDepth 20000 in
theorem gX4_borneBy_X7_inSet_n76 : GoodIn wsX4_borneBy (wsX7_inSet) := ggX4_borneBy_X7_inSet
set_option maxRecDepth 20000 in
theorem ggX4_borneBy_X4_breaking : GoodIn wsX4_borneBy wsX4_breaking := goodIn_r _ [21, 2, 3, 1, 22, 23, 24, 12, 25, 14, 26, 27, 28, 29, 30, 31, 32, 33] (by decide +kernel) (by decide +kernel)
set_option maxRecDepth 20000 in
theorem gX4_borneBy_X4_breaking : GoodIn wsX4_borneBy (wsV RX4 61 RX4 yX4_breaking wsX4_breaking) := goodIn_app (goodIn_of _ (by decide +kernel)) ggX4_borneBy_X4_breaking
set_option maxRecDepth 20000 in
theorem ggX4_borneBy_X5_get : GoodIn wsX4_borneBy wsX5_get := goodIn_r _ [25, 14, 26, 31, 32, 33] (by decide +kernel) (by decide +kernel)
set_option maxRecDepth 20000 in
theorem gX4_borneBy_X5_get : GoodIn wsX4_borneBy (wsV RX4 52 RX5 yX5_get wsX5_get) := goodIn_app (goodIn_of _ (by decide +kernel)) ggX4_borneBy_X5_get
theorem dX4_borneBy_0 : decode cX4_borneBy 0 = .ok (.lload_n 2, 1) := by decide +kernel
theorem dX4_borneBy_1 : decode cX4_borneBy 1 = .ok (.lstore 4, 2) := by decide +kernel
theorem dX4_borneBy_3 : decode cX4_borneBy 3 = .ok (.iconst 0, 1) := by decide +kernel
theorem dX4_borneBy_4 : decode cX4_borneBy 4 = .ok (.istore 6, 2) := by decide +kernel
theorem dX4_borneBy_6 : decode cX4_borneBy 6 = .ok (.iload 6, 2) := by decide +kernel
theorem dX4_borneBy_8 : decode cX4_borneBy 8 = .ok (.aload_n 0, 1) := by decide +kernel
theorem dX4_borneBy_9 : decode cX4_borneBy 9 = .ok (.invokevirtual 51, 3) := by decide +kernel
theorem dX4_borneBy_12 : decode cX4_borneBy 12 = .ok (.if_icmp .ge 33, 3) := by decide +kernel
theorem dX4_borneBy_15 : decode cX4_borneBy 15 = .ok (.iload_n 1, 1) := by decide +kernel
theorem dX4_borneBy_16 : decode cX4_borneBy 16 = .ok (.iload 6, 2) := by decide +kernel
theorem dX4_borneBy_18 : decode cX4_borneBy 18 = .ok (.invokestatic 76, 3) := by decide +kernel
theorem dX4_borneBy_21 : decode cX4_borneBy 21 = .ok (.ifCond .eq 18, 3) := by decide +kernel
theorem dX4_borneBy_24 : decode cX4_borneBy 24 = .ok (.lload 4, 2) := by decide +kernel
theorem dX4_borneBy_26 : decode cX4_borneBy 26 = .ok (.aload_n 0, 1) := by decide +kernel
theorem dX4_borneBy_27 : decode cX4_borneBy 27 = .ok (.iload 6, 2) := by decide +kernel
theorem dX4_borneBy_29 : decode cX4_borneBy 29 = .ok (.invokevirtual 61, 3) := by decide +kernel
theorem dX4_borneBy_32 : decode cX4_borneBy 32 = .ok (.ldc2_w 59, 3) := by decide +kernel
theorem dX4_borneBy_35 : decode cX4_borneBy 35 = .ok (.lxor, 1) := by decide +kernel
theorem dX4_borneBy_36 : decode cX4_borneBy 36 = .ok (.land, 1) := by decide +kernel
theorem dX4_borneBy_37 : decode cX4_borneBy 37 = .ok (.lstore 4, 2) := by decide +kernel
theorem dX4_borneBy_39 : decode cX4_borneBy 39 = .ok (.iinc 6 1, 3) := by decide +kernel
theorem dX4_borneBy_42 : decode cX4_borneBy 42 = .ok (.goto (-36), 3) := by decide +kernel
theorem dX4_borneBy_45 : decode cX4_borneBy 45 = .ok (.iconst 0, 1) := by decide +kernel
theorem dX4_borneBy_46 : decode cX4_borneBy 46 = .ok (.istore 6, 2) := by decide +kernel
theorem dX4_borneBy_48 : decode cX4_borneBy 48 = .ok (.iconst 0, 1) := by decide +kernel
theorem dX4_borneBy_49 : decode cX4_borneBy 49 = .ok (.istore 7, 2) := by decide +kernel
theorem dX4_borneBy_51 : decode cX4_borneBy 51 = .ok (.iload 7, 2) := by decide +kernel
theorem dX4_borneBy_53 : decode cX4_borneBy 53 = .ok (.aload_n 0, 1) := by decide +kernel
theorem dX4_borneBy_54 : decode cX4_borneBy 54 = .ok (.invokevirtual 51, 3) := by decide +kernel
theorem dX4_borneBy_57 : decode cX4_borneBy 57 = .ok (.if_icmp .ge 54, 3) := by decide +kernel
theorem dX4_borneBy_60 : decode cX4_borneBy 60 = .ok (.iload_n 1, 1) := by decide +kernel
theorem dX4_borneBy_61 : decode cX4_borneBy 61 = .ok (.iload 7, 2) := by decide +kernel
theorem dX4_borneBy_63 : decode cX4_borneBy 63 = .ok (.invokestatic 76, 3) := by decide +kernel
theorem dX4_borneBy_66 : decode cX4_borneBy 66 = .ok (.ifCond .eq 39, 3) := by decide +kernel
theorem dX4_borneBy_69 : decode cX4_borneBy 69 = .ok (.lload 4, 2) := by decide +kernel
theorem dX4_borneBy_71 : decode cX4_borneBy 71 = .ok (.aload_n 0, 1) := by decide +kernel
theorem dX4_borneBy_72 : decode cX4_borneBy 72 = .ok (.getfield 24, 3) := by decide +kernel
theorem dX4_borneBy_75 : decode cX4_borneBy 75 = .ok (.iload 7, 2) := by decide +kernel
theorem dX4_borneBy_77 : decode cX4_borneBy 77 = .ok (.invokevirtual 52, 3) := by decide +kernel
theorem dX4_borneBy_80 : decode cX4_borneBy 80 = .ok (.land, 1) := by decide +kernel
theorem dX4_borneBy_81 : decode cX4_borneBy 81 = .ok (.aload_n 0, 1) := by decide +kernel
theorem dX4_borneBy_82 : decode cX4_borneBy 82 = .ok (.getfield 28, 3) := by decide +kernel
theorem dX4_borneBy_85 : decode cX4_borneBy 85 = .ok (.iload 7, 2) := by decide +kernel
theorem dX4_borneBy_87 : decode cX4_borneBy 87 = .ok (.invokevirtual 52, 3) := by decide +kernel
theorem dX4_borneBy_90 : decode cX4_borneBy 90 = .ok (.land, 1) := by decide +kernel
theorem dX4_borneBy_91 : decode cX4_borneBy 91 = .ok (.lconst 0, 1) := by decide +kernel
theorem dX4_borneBy_92 : decode cX4_borneBy 92 = .ok (.lcmp, 1) := by decide +kernel
theorem dX4_borneBy_93 : decode cX4_borneBy 93 = .ok (.ifCond .eq 12, 3) := by decide +kernel
theorem dX4_borneBy_96 : decode cX4_borneBy 96 = .ok (.iload 6, 2) := by decide +kernel
theorem dX4_borneBy_98 : decode cX4_borneBy 98 = .ok (.iconst 1, 1) := by decide +kernel
theorem dX4_borneBy_99 : decode cX4_borneBy 99 = .ok (.iload 7, 2) := by decide +kernel
theorem dX4_borneBy_101 : decode cX4_borneBy 101 = .ok (.ishl, 1) := by decide +kernel
theorem dX4_borneBy_102 : decode cX4_borneBy 102 = .ok (.ior, 1) := by decide +kernel
theorem dX4_borneBy_103 : decode cX4_borneBy 103 = .ok (.istore 6, 2) := by decide +kernel
theorem dX4_borneBy_105 : decode cX4_borneBy 105 = .ok (.iinc 7 1, 3) := by decide +kernel
theorem dX4_borneBy_108 : decode cX4_borneBy 108 = .ok (.goto (-57), 3) := by decide +kernel
theorem dX4_borneBy_111 : decode cX4_borneBy 111 = .ok (.iload 6, 2) := by decide +kernel
theorem dX4_borneBy_113 : decode cX4_borneBy 113 = .ok (.ireturn, 1) := by decide +kernel
set_option maxRecDepth 20000 in
theorem ggX4_stamp_X7_inSet : GoodIn wsX4_stamp wsX7_inSet := goodIn_r _ [4] (by decide +kernel) (by decide +kernel)
set_option maxRecDepth 20000 in
theorem gX4_stamp_X7_inSet_n76 : GoodIn wsX4_stamp (wsX7_inSet) := ggX4_stamp_X7_inSet
theorem dX4_stamp_0 : decode cX4_stamp 0 = .ok (.iconst 0, 1) := by decide +kernel
theorem dX4_stamp_1 : decode cX4_stamp 1 = .ok (.istore_n 3, 1) := by decide +kernel
theorem dX4_stamp_2 : decode cX4_stamp 2 = .ok (.iload_n 3, 1) := by decide +kernel
theorem dX4_stamp_3 : decode cX4_stamp 3 = .ok (.aload_n 0, 1) := by decide +kernel
theorem dX4_stamp_4 : decode cX4_stamp 4 = .ok (.getfield 9, 3) := by decide +kernel
theorem dX4_stamp_7 : decode cX4_stamp 7 = .ok (.arraylength, 1) := by decide +kernel
theorem dX4_stamp_8 : decode cX4_stamp 8 = .ok (.if_icmp .ge 24, 3) := by decide +kernel
theorem dX4_stamp_11 : decode cX4_stamp 11 = .ok (.iload_n 1, 1) := by decide +kernel
theorem dX4_stamp_12 : decode cX4_stamp 12 = .ok (.iload_n 3, 1) := by decide +kernel
theorem dX4_stamp_13 : decode cX4_stamp 13 = .ok (.invokestatic 76, 3) := by decide +kernel
theorem dX4_stamp_16 : decode cX4_stamp 16 = .ok (.ifCond .eq 10, 3) := by decide +kernel
theorem dX4_stamp_19 : decode cX4_stamp 19 = .ok (.aload_n 0, 1) := by decide +kernel
theorem dX4_stamp_20 : decode cX4_stamp 20 = .ok (.getfield 9, 3) := by decide +kernel
theorem dX4_stamp_23 : decode cX4_stamp 23 = .ok (.iload_n 3, 1) := by decide +kernel
theorem dX4_stamp_24 : decode cX4_stamp 24 = .ok (.iload_n 2, 1) := by decide +kernel
theorem dX4_stamp_25 : decode cX4_stamp 25 = .ok (.iastore, 1) := by decide +kernel
theorem dX4_stamp_26 : decode cX4_stamp 26 = .ok (.iinc 3 1, 3) := by decide +kernel
theorem dX4_stamp_29 : decode cX4_stamp 29 = .ok (.goto (-27), 3) := by decide +kernel
theorem dX4_stamp_32 : decode cX4_stamp 32 = .ok (.return_, 1) := by decide +kernel
theorem dX4_gradeAt_0 : decode cX4_gradeAt 0 = .ok (.iload_n 1, 1) := by decide +kernel
theorem dX4_gradeAt_1 : decode cX4_gradeAt 1 = .ok (.ifCond .lt 21, 3) := by decide +kernel
theorem dX4_gradeAt_4 : decode cX4_gradeAt 4 = .ok (.iload_n 1, 1) := by decide +kernel
theorem dX4_gradeAt_5 : decode cX4_gradeAt 5 = .ok (.aload_n 0, 1) := by decide +kernel
theorem dX4_gradeAt_6 : decode cX4_gradeAt 6 = .ok (.getfield 9, 3) := by decide +kernel
theorem dX4_gradeAt_9 : decode cX4_gradeAt 9 = .ok (.arraylength, 1) := by decide +kernel
theorem dX4_gradeAt_10 : decode cX4_gradeAt 10 = .ok (.if_icmp .ge 12, 3) := by decide +kernel
theorem dX4_gradeAt_13 : decode cX4_gradeAt 13 = .ok (.aload_n 0, 1) := by decide +kernel
theorem dX4_gradeAt_14 : decode cX4_gradeAt 14 = .ok (.getfield 9, 3) := by decide +kernel
theorem dX4_gradeAt_17 : decode cX4_gradeAt 17 = .ok (.iload_n 1, 1) := by decide +kernel
theorem dX4_gradeAt_18 : decode cX4_gradeAt 18 = .ok (.iaload, 1) := by decide +kernel
theorem dX4_gradeAt_19 : decode cX4_gradeAt 19 = .ok (.goto 5, 3) := by decide +kernel
theorem dX4_gradeAt_22 : decode cX4_gradeAt 22 = .ok (.bipush (-9), 2) := by decide +kernel
theorem dX4_gradeAt_24 : decode cX4_gradeAt 24 = .ok (.ireturn, 1) := by decide +kernel
set_option maxRecDepth 20000 in
theorem ggX4_countedGrade_X4_gradeAt : GoodIn wsX4_countedGrade wsX4_gradeAt := goodIn_r _ [5, 6, 7, 8, 9, 10] (by decide +kernel) (by decide +kernel)
set_option maxRecDepth 20000 in
theorem gX4_countedGrade_X4_gradeAt : GoodIn wsX4_countedGrade (wsV RX4 80 RX4 yX4_gradeAt wsX4_gradeAt) := goodIn_app (goodIn_of _ (by decide +kernel)) ggX4_countedGrade_X4_gradeAt
theorem dX4_countedGrade_0 : decode cX4_countedGrade 0 = .ok (.aload_n 0, 1) := by decide +kernel
theorem dX4_countedGrade_1 : decode cX4_countedGrade 1 = .ok (.iload_n 1, 1) := by decide +kernel
theorem dX4_countedGrade_2 : decode cX4_countedGrade 2 = .ok (.invokevirtual 80, 3) := by decide +kernel
theorem dX4_countedGrade_5 : decode cX4_countedGrade 5 = .ok (.istore_n 2, 1) := by decide +kernel
theorem dX4_countedGrade_6 : decode cX4_countedGrade 6 = .ok (.iload_n 2, 1) := by decide +kernel
theorem dX4_countedGrade_7 : decode cX4_countedGrade 7 = .ok (.bipush (-9), 2) := by decide +kernel
theorem dX4_countedGrade_9 : decode cX4_countedGrade 9 = .ok (.if_icmp .ne 8, 3) := by decide +kernel
theorem dX4_countedGrade_12 : decode cX4_countedGrade 12 = .ok (.bipush 8, 2) := by decide +kernel
theorem dX4_countedGrade_14 : decode cX4_countedGrade 14 = .ok (.goto 4, 3) := by decide +kernel
theorem dX4_countedGrade_17 : decode cX4_countedGrade 17 = .ok (.iload_n 2, 1) := by decide +kernel
theorem dX4_countedGrade_18 : decode cX4_countedGrade 18 = .ok (.ireturn, 1) := by decide +kernel
set_option maxRecDepth 20000 in
theorem ggX4_rankOf_X4_size : GoodIn wsX4_rankOf wsX4_size := goodIn_r _ [9, 10, 11, 12, 13, 14, 15, 16, 29, 30, 31, 32, 33, 34, 35] (by decide +kernel) (by decide +kernel)
set_option maxRecDepth 20000 in
theorem gX4_rankOf_X4_size : GoodIn wsX4_rankOf (wsV RX4 51 RX4 yX4_size wsX4_size) := goodIn_app (goodIn_of _ (by decide +kernel)) ggX4_rankOf_X4_size
set_option maxRecDepth 20000 in
theorem ggX4_rankOf_X7_inSet : GoodIn wsX4_rankOf wsX7_inSet := goodIn_r _ [19] (by decide +kernel) (by decide +kernel)
set_option maxRecDepth 20000 in
theorem gX4_rankOf_X7_inSet_n76 : GoodIn wsX4_rankOf (wsX7_inSet) := ggX4_rankOf_X7_inSet
set_option maxRecDepth 20000 in
theorem ggX4_rankOf_X4_countedGrade : GoodIn wsX4_rankOf wsX4_countedGrade := goodIn_r _ [23, 24, 25, 26, 8, 27, 28, 29, 30, 31, 32] (by decide +kernel) (by decide +kernel)
set_option maxRecDepth 20000 in
theorem gX4_rankOf_X4_countedGrade : GoodIn wsX4_rankOf (wsV RX4 84 RX4 yX4_countedGrade wsX4_countedGrade) := goodIn_app (goodIn_of _ (by decide +kernel)) ggX4_rankOf_X4_countedGrade
theorem dX4_rankOf_0 : decode cX4_rankOf 0 = .ok (.iconst 0, 1) := by decide +kernel
theorem dX4_rankOf_1 : decode cX4_rankOf 1 = .ok (.istore_n 2, 1) := by decide +kernel
theorem dX4_rankOf_2 : decode cX4_rankOf 2 = .ok (.iconst 0, 1) := by decide +kernel
theorem dX4_rankOf_3 : decode cX4_rankOf 3 = .ok (.istore_n 3, 1) := by decide +kernel
theorem dX4_rankOf_4 : decode cX4_rankOf 4 = .ok (.iload_n 3, 1) := by decide +kernel
theorem dX4_rankOf_5 : decode cX4_rankOf 5 = .ok (.aload_n 0, 1) := by decide +kernel
theorem dX4_rankOf_6 : decode cX4_rankOf 6 = .ok (.invokevirtual 51, 3) := by decide +kernel
theorem dX4_rankOf_9 : decode cX4_rankOf 9 = .ok (.if_icmp .ge 29, 3) := by decide +kernel
theorem dX4_rankOf_12 : decode cX4_rankOf 12 = .ok (.iload_n 1, 1) := by decide +kernel
theorem dX4_rankOf_13 : decode cX4_rankOf 13 = .ok (.iload_n 3, 1) := by decide +kernel
theorem dX4_rankOf_14 : decode cX4_rankOf 14 = .ok (.invokestatic 76, 3) := by decide +kernel
theorem dX4_rankOf_17 : decode cX4_rankOf 17 = .ok (.ifCond .eq 15, 3) := by decide +kernel
theorem dX4_rankOf_20 : decode cX4_rankOf 20 = .ok (.iload_n 2, 1) := by decide +kernel
theorem dX4_rankOf_21 : decode cX4_rankOf 21 = .ok (.aload_n 0, 1) := by decide +kernel
theorem dX4_rankOf_22 : decode cX4_rankOf 22 = .ok (.iload_n 3, 1) := by decide +kernel
theorem dX4_rankOf_23 : decode cX4_rankOf 23 = .ok (.invokevirtual 84, 3) := by decide +kernel
theorem dX4_rankOf_26 : decode cX4_rankOf 26 = .ok (.iconst 1, 1) := by decide +kernel
theorem dX4_rankOf_27 : decode cX4_rankOf 27 = .ok (.iadd, 1) := by decide +kernel
theorem dX4_rankOf_28 : decode cX4_rankOf 28 = .ok (.invokestatic 87, 3) := by decide +kernel
theorem dX4_rankOf_31 : decode cX4_rankOf 31 = .ok (.istore_n 2, 1) := by decide +kernel
theorem dX4_rankOf_32 : decode cX4_rankOf 32 = .ok (.iinc 3 1, 3) := by decide +kernel
theorem dX4_rankOf_35 : decode cX4_rankOf 35 = .ok (.goto (-31), 3) := by decide +kernel
theorem dX4_rankOf_38 : decode cX4_rankOf 38 = .ok (.iload_n 2, 1) := by decide +kernel
theorem dX4_rankOf_39 : decode cX4_rankOf 39 = .ok (.ireturn, 1) := by decide +kernel
set_option maxRecDepth 20000 in
theorem ggX4_tallyOf_X4_size : GoodIn wsX4_tallyOf wsX4_size := goodIn_r _ [5, 6, 7, 8, 9, 10, 11, 12, 25, 26, 27, 28, 29, 30, 31] (by decide +kernel) (by decide +kernel)
set_option maxRecDepth 20000 in
theorem gX4_tallyOf_X4_size : GoodIn wsX4_tallyOf (wsV RX4 51 RX4 yX4_size wsX4_size) := goodIn_app (goodIn_of _ (by decide +kernel)) ggX4_tallyOf_X4_size
set_option maxRecDepth 20000 in
theorem ggX4_tallyOf_X7_inSet : GoodIn wsX4_tallyOf wsX7_inSet := goodIn_r _ [15] (by decide +kernel) (by decide +kernel)
set_option maxRecDepth 20000 in
theorem gX4_tallyOf_X7_inSet_n76 : GoodIn wsX4_tallyOf (wsX7_inSet) := ggX4_tallyOf_X7_inSet
set_option maxRecDepth 20000 in
theorem ggX4_tallyOf_X4_countedGrade : GoodIn wsX4_tallyOf wsX4_countedGrade := goodIn_r _ [19, 20, 21, 22, 4, 23, 24, 25, 26, 27, 28] (by decide +kernel) (by decide +kernel)
set_option maxRecDepth 20000 in
theorem gX4_tallyOf_X4_countedGrade : GoodIn wsX4_tallyOf (wsV RX4 84 RX4 yX4_countedGrade wsX4_countedGrade) := goodIn_app (goodIn_of _ (by decide +kernel)) ggX4_tallyOf_X4_countedGrade
theorem dX4_tallyOf_0 : decode cX4_tallyOf 0 = .ok (.lconst 0, 1) := by decide +kernel
theorem dX4_tallyOf_1 : decode cX4_tallyOf 1 = .ok (.lstore_n 2, 1) := by decide +kernel
theorem dX4_tallyOf_2 : decode cX4_tallyOf 2 = .ok (.iconst 0, 1) := by decide +kernel
theorem dX4_tallyOf_3 : decode cX4_tallyOf 3 = .ok (.istore 4, 2) := by decide +kernel
theorem dX4_tallyOf_5 : decode cX4_tallyOf 5 = .ok (.iload 4, 2) := by decide +kernel
theorem dX4_tallyOf_7 : decode cX4_tallyOf 7 = .ok (.aload_n 0, 1) := by decide +kernel
theorem dX4_tallyOf_8 : decode cX4_tallyOf 8 = .ok (.invokevirtual 51, 3) := by decide +kernel
theorem dX4_tallyOf_11 : decode cX4_tallyOf 11 = .ok (.if_icmp .ge 31, 3) := by decide +kernel
theorem dX4_tallyOf_14 : decode cX4_tallyOf 14 = .ok (.iload_n 1, 1) := by decide +kernel
theorem dX4_tallyOf_15 : decode cX4_tallyOf 15 = .ok (.iload 4, 2) := by decide +kernel
theorem dX4_tallyOf_17 : decode cX4_tallyOf 17 = .ok (.invokestatic 76, 3) := by decide +kernel
theorem dX4_tallyOf_20 : decode cX4_tallyOf 20 = .ok (.ifCond .eq 16, 3) := by decide +kernel
theorem dX4_tallyOf_23 : decode cX4_tallyOf 23 = .ok (.lload_n 2, 1) := by decide +kernel
theorem dX4_tallyOf_24 : decode cX4_tallyOf 24 = .ok (.lconst 1, 1) := by decide +kernel
theorem dX4_tallyOf_25 : decode cX4_tallyOf 25 = .ok (.iconst 4, 1) := by decide +kernel
theorem dX4_tallyOf_26 : decode cX4_tallyOf 26 = .ok (.aload_n 0, 1) := by decide +kernel
theorem dX4_tallyOf_27 : decode cX4_tallyOf 27 = .ok (.iload 4, 2) := by decide +kernel
theorem dX4_tallyOf_29 : decode cX4_tallyOf 29 = .ok (.invokevirtual 84, 3) := by decide +kernel
theorem dX4_tallyOf_32 : decode cX4_tallyOf 32 = .ok (.imul, 1) := by decide +kernel
theorem dX4_tallyOf_33 : decode cX4_tallyOf 33 = .ok (.lshl, 1) := by decide +kernel
theorem dX4_tallyOf_34 : decode cX4_tallyOf 34 = .ok (.ladd, 1) := by decide +kernel
theorem dX4_tallyOf_35 : decode cX4_tallyOf 35 = .ok (.lstore_n 2, 1) := by decide +kernel
theorem dX4_tallyOf_36 : decode cX4_tallyOf 36 = .ok (.iinc 4 1, 3) := by decide +kernel
theorem dX4_tallyOf_39 : decode cX4_tallyOf 39 = .ok (.goto (-34), 3) := by decide +kernel
theorem dX4_tallyOf_42 : decode cX4_tallyOf 42 = .ok (.lload_n 2, 1) := by decide +kernel
theorem dX4_tallyOf_43 : decode cX4_tallyOf 43 = .ok (.lreturn, 1) := by decide +kernel
theorem dX5_init_0 : decode cX5_init 0 = .ok (.aload_n 0, 1) := by decide +kernel
theorem dX5_init_1 : decode cX5_init 1 = .ok (.invokespecial 3, 3) := by decide +kernel
theorem dX5_init_4 : decode cX5_init 4 = .ok (.aload_n 0, 1) := by decide +kernel
theorem dX5_init_5 : decode cX5_init 5 = .ok (.bipush 9, 2) := by decide +kernel
theorem dX5_init_7 : decode cX5_init 7 = .ok (.newarray .long, 2) := by decide +kernel
theorem dX5_init_9 : decode cX5_init 9 = .ok (.putfield 9, 3) := by decide +kernel
theorem dX5_init_12 : decode cX5_init 12 = .ok (.aload_n 0, 1) := by decide +kernel
theorem dX5_init_13 : decode cX5_init 13 = .ok (.iconst 0, 1) := by decide +kernel
theorem dX5_init_14 : decode cX5_init 14 = .ok (.putfield 15, 3) := by decide +kernel
theorem dX5_init_17 : decode cX5_init 17 = .ok (.aload_n 0, 1) := by decide +kernel
theorem dX5_init_18 : decode cX5_init 18 = .ok (.iload_n 1, 1) := by decide +kernel
theorem dX5_init_19 : decode cX5_init 19 = .ok (.bipush 9, 2) := by decide +kernel
theorem dX5_init_21 : decode cX5_init 21 = .ok (.invokestatic 19, 3) := by decide +kernel
theorem dX5_init_24 : decode cX5_init 24 = .ok (.putfield 25, 3) := by decide +kernel
theorem dX5_init_27 : decode cX5_init 27 = .ok (.return_, 1) := by decide +kernel
theorem dX5_size_0 : decode cX5_size 0 = .ok (.aload_n 0, 1) := by decide +kernel
theorem dX5_size_1 : decode cX5_size 1 = .ok (.getfield 15, 3) := by decide +kernel
theorem dX5_size_4 : decode cX5_size 4 = .ok (.ireturn, 1) := by decide +kernel
theorem dX5_isFull_0 : decode cX5_isFull 0 = .ok (.aload_n 0, 1) := by decide +kernel
theorem dX5_isFull_1 : decode cX5_isFull 1 = .ok (.getfield 15, 3) := by decide +kernel
theorem dX5_isFull_4 : decode cX5_isFull 4 = .ok (.aload_n 0, 1) := by decide +kernel
theorem dX5_isFull_5 : decode cX5_isFull 5 = .ok (.getfield 25, 3) := by decide +kernel
theorem dX5_isFull_8 : decode cX5_isFull 8 = .ok (.if_icmp .lt 7, 3) := by decide +kernel
theorem dX5_isFull_11 : decode cX5_isFull 11 = .ok (.iconst 1, 1) := by decide +kernel
theorem dX5_isFull_12 : decode cX5_isFull 12 = .ok (.goto 4, 3) := by decide +kernel
theorem dX5_isFull_15 : decode cX5_isFull 15 = .ok (.iconst 0, 1) := by decide +kernel
theorem dX5_isFull_16 : decode cX5_isFull 16 = .ok (.ireturn, 1) := by decide +kernel
theorem dX5_has_0 : decode cX5_has 0 = .ok (.iload_n 1, 1) := by decide +kernel
theorem dX5_has_1 : decode cX5_has 1 = .ok (.ifCond .lt 15, 3) := by decide +kernel
theorem dX5_has_4 : decode cX5_has 4 = .ok (.iload_n 1, 1) := by decide +kernel
theorem dX5_has_5 : decode cX5_has 5 = .ok (.aload_n 0, 1) := by decide +kernel
theorem dX5_has_6 : decode cX5_has 6 = .ok (.getfield 15, 3) := by decide +kernel
theorem dX5_has_9 : decode cX5_has 9 = .ok (.if_icmp .ge 7, 3) := by decide +kernel
theorem dX5_has_12 : decode cX5_has 12 = .ok (.iconst 1, 1) := by decide +kernel
theorem dX5_has_13 : decode cX5_has 13 = .ok (.goto 4, 3) := by decide +kernel
theorem dX5_has_16 : decode cX5_has 16 = .ok (.iconst 0, 1) := by decide +kernel
theorem dX5_has_17 : decode cX5_has 17 = .ok (.ireturn, 1) := by decide +kernel
theorem dX5_get_0 : decode cX5_get 0 = .ok (.iload_n 1, 1) := by decide +kernel
theorem dX5_get_1 : decode cX5_get 1 = .ok (.ifCond .lt 29, 3) := by decide +kernel
theorem dX5_get_4 : decode cX5_get 4 = .ok (.iload_n 1, 1) := by decide +kernel
theorem dX5_get_5 : decode cX5_get 5 = .ok (.aload_n 0, 1) := by decide +kernel
theorem dX5_get_6 : decode cX5_get 6 = .ok (.getfield 15, 3) := by decide +kernel
theorem dX5_get_9 : decode cX5_get 9 = .ok (.if_icmp .ge 21, 3) := by decide +kernel
theorem dX5_get_12 : decode cX5_get 12 = .ok (.iload_n 1, 1) := by decide +kernel
theorem dX5_get_13 : decode cX5_get 13 = .ok (.aload_n 0, 1) := by decide +kernel
theorem dX5_get_14 : decode cX5_get 14 = .ok (.getfield 9, 3) := by decide +kernel
theorem dX5_get_17 : decode cX5_get 17 = .ok (.arraylength, 1) := by decide +kernel
theorem dX5_get_18 : decode cX5_get 18 = .ok (.if_icmp .ge 12, 3) := by decide +kernel
theorem dX5_get_21 : decode cX5_get 21 = .ok (.aload_n 0, 1) := by decide +kernel
theorem dX5_get_22 : decode cX5_get 22 = .ok (.getfield 9, 3) := by decide +kernel
theorem dX5_get_25 : decode cX5_get 25 = .ok (.iload_n 1, 1) := by decide +kernel
theorem dX5_get_26 : decode cX5_get 26 = .ok (.laload, 1) := by decide +kernel
theorem dX5_get_27 : decode cX5_get 27 = .ok (.goto 4, 3) := by decide +kernel
theorem dX5_get_30 : decode cX5_get 30 = .ok (.lconst 0, 1) := by decide +kernel
theorem dX5_get_31 : decode cX5_get 31 = .ok (.lreturn, 1) := by decide +kernel
theorem dX5_add_0 : decode cX5_add 0 = .ok (.aload_n 0, 1) := by decide +kernel
theorem dX5_add_1 : decode cX5_add 1 = .ok (.getfield 15, 3) := by decide +kernel
theorem dX5_add_4 : decode cX5_add 4 = .ok (.aload_n 0, 1) := by decide +kernel
theorem dX5_add_5 : decode cX5_add 5 = .ok (.getfield 25, 3) := by decide +kernel
theorem dX5_add_8 : decode cX5_add 8 = .ok (.if_icmp .ge 35, 3) := by decide +kernel
theorem dX5_add_11 : decode cX5_add 11 = .ok (.aload_n 0, 1) := by decide +kernel
theorem dX5_add_12 : decode cX5_add 12 = .ok (.getfield 15, 3) := by decide +kernel
theorem dX5_add_15 : decode cX5_add 15 = .ok (.aload_n 0, 1) := by decide +kernel
theorem dX5_add_16 : decode cX5_add 16 = .ok (.getfield 9, 3) := by decide +kernel
theorem dX5_add_19 : decode cX5_add 19 = .ok (.arraylength, 1) := by decide +kernel
theorem dX5_add_20 : decode cX5_add 20 = .ok (.if_icmp .ge 23, 3) := by decide +kernel
theorem dX5_add_23 : decode cX5_add 23 = .ok (.aload_n 0, 1) := by decide +kernel
theorem dX5_add_24 : decode cX5_add 24 = .ok (.getfield 9, 3) := by decide +kernel
theorem dX5_add_27 : decode cX5_add 27 = .ok (.aload_n 0, 1) := by decide +kernel
theorem dX5_add_28 : decode cX5_add 28 = .ok (.getfield 15, 3) := by decide +kernel
theorem dX5_add_31 : decode cX5_add 31 = .ok (.lload_n 1, 1) := by decide +kernel
theorem dX5_add_32 : decode cX5_add 32 = .ok (.lastore, 1) := by decide +kernel
theorem dX5_add_33 : decode cX5_add 33 = .ok (.aload_n 0, 1) := by decide +kernel
theorem dX5_add_34 : decode cX5_add 34 = .ok (.dup, 1) := by decide +kernel
theorem dX5_add_35 : decode cX5_add 35 = .ok (.getfield 15, 3) := by decide +kernel
theorem dX5_add_38 : decode cX5_add 38 = .ok (.iconst 1, 1) := by decide +kernel
theorem dX5_add_39 : decode cX5_add 39 = .ok (.iadd, 1) := by decide +kernel
theorem dX5_add_40 : decode cX5_add 40 = .ok (.putfield 15, 3) := by decide +kernel
theorem dX5_add_43 : decode cX5_add 43 = .ok (.return_, 1) := by decide +kernel
theorem dX5_empty_0 : decode cX5_empty 0 = .ok (.aload_n 0, 1) := by decide +kernel
theorem dX5_empty_1 : decode cX5_empty 1 = .ok (.iconst 0, 1) := by decide +kernel
theorem dX5_empty_2 : decode cX5_empty 2 = .ok (.putfield 15, 3) := by decide +kernel
theorem dX5_empty_5 : decode cX5_empty 5 = .ok (.return_, 1) := by decide +kernel
set_option maxRecDepth 20000 in
theorem ggX5_meet_X5_get : GoodIn wsX5_meet wsX5_get := goodIn_r _ [7, 2, 8, 9, 10, 11] (by decide +kernel) (by decide +kernel)
set_option maxRecDepth 20000 in
theorem gX5_meet_X5_get : GoodIn wsX5_meet (wsV RX5 30 RX5 yX5_get wsX5_get) := goodIn_app (goodIn_of _ (by decide +kernel)) ggX5_meet_X5_get
theorem dX5_meet_0 : decode cX5_meet 0 = .ok (.ldc2_w 28, 3) := by decide +kernel
theorem dX5_meet_3 : decode cX5_meet 3 = .ok (.lstore_n 1, 1) := by decide +kernel
theorem dX5_meet_4 : decode cX5_meet 4 = .ok (.iconst 0, 1) := by decide +kernel
theorem dX5_meet_5 : decode cX5_meet 5 = .ok (.istore_n 3, 1) := by decide +kernel
theorem dX5_meet_6 : decode cX5_meet 6 = .ok (.iload_n 3, 1) := by decide +kernel
theorem dX5_meet_7 : decode cX5_meet 7 = .ok (.aload_n 0, 1) := by decide +kernel
theorem dX5_meet_8 : decode cX5_meet 8 = .ok (.getfield 15, 3) := by decide +kernel
theorem dX5_meet_11 : decode cX5_meet 11 = .ok (.if_icmp .ge 17, 3) := by decide +kernel
theorem dX5_meet_14 : decode cX5_meet 14 = .ok (.lload_n 1, 1) := by decide +kernel
theorem dX5_meet_15 : decode cX5_meet 15 = .ok (.aload_n 0, 1) := by decide +kernel
theorem dX5_meet_16 : decode cX5_meet 16 = .ok (.iload_n 3, 1) := by decide +kernel
theorem dX5_meet_17 : decode cX5_meet 17 = .ok (.invokevirtual 30, 3) := by decide +kernel
theorem dX5_meet_20 : decode cX5_meet 20 = .ok (.land, 1) := by decide +kernel
theorem dX5_meet_21 : decode cX5_meet 21 = .ok (.lstore_n 1, 1) := by decide +kernel
theorem dX5_meet_22 : decode cX5_meet 22 = .ok (.iinc 3 1, 3) := by decide +kernel
theorem dX5_meet_25 : decode cX5_meet 25 = .ok (.goto (-19), 3) := by decide +kernel
theorem dX5_meet_28 : decode cX5_meet 28 = .ok (.lload_n 1, 1) := by decide +kernel
theorem dX5_meet_29 : decode cX5_meet 29 = .ok (.lreturn, 1) := by decide +kernel
theorem dX6_init_0 : decode cX6_init 0 = .ok (.aload_n 0, 1) := by decide +kernel
theorem dX6_init_1 : decode cX6_init 1 = .ok (.invokespecial 3, 3) := by decide +kernel
theorem dX6_init_4 : decode cX6_init 4 = .ok (.aload_n 0, 1) := by decide +kernel
theorem dX6_init_5 : decode cX6_init 5 = .ok (.sipush 400, 3) := by decide +kernel
theorem dX6_init_8 : decode cX6_init 8 = .ok (.newarray .byte, 2) := by decide +kernel
theorem dX6_init_10 : decode cX6_init 10 = .ok (.putfield 9, 3) := by decide +kernel
theorem dX6_init_13 : decode cX6_init 13 = .ok (.aload_n 0, 1) := by decide +kernel
theorem dX6_init_14 : decode cX6_init 14 = .ok (.iconst 0, 1) := by decide +kernel
theorem dX6_init_15 : decode cX6_init 15 = .ok (.putfield 15, 3) := by decide +kernel
theorem dX6_init_18 : decode cX6_init 18 = .ok (.return_, 1) := by decide +kernel
theorem dX6_size_0 : decode cX6_size 0 = .ok (.aload_n 0, 1) := by decide +kernel
theorem dX6_size_1 : decode cX6_size 1 = .ok (.getfield 15, 3) := by decide +kernel
theorem dX6_size_4 : decode cX6_size 4 = .ok (.ireturn, 1) := by decide +kernel
theorem dX6_put_0 : decode cX6_put 0 = .ok (.iload_n 3, 1) := by decide +kernel
theorem dX6_put_1 : decode cX6_put 1 = .ok (.sipush 400, 3) := by decide +kernel
theorem dX6_put_4 : decode cX6_put 4 = .ok (.aload_n 0, 1) := by decide +kernel
theorem dX6_put_5 : decode cX6_put 5 = .ok (.getfield 15, 3) := by decide +kernel
theorem dX6_put_8 : decode cX6_put 8 = .ok (.isub, 1) := by decide +kernel
theorem dX6_put_9 : decode cX6_put 9 = .ok (.if_icmp .le 5, 3) := by decide +kernel
theorem dX6_put_12 : decode cX6_put 12 = .ok (.iconst 0, 1) := by decide +kernel
theorem dX6_put_13 : decode cX6_put 13 = .ok (.ireturn, 1) := by decide +kernel
theorem dX6_put_14 : decode cX6_put 14 = .ok (.iload_n 3, 1) := by decide +kernel
theorem dX6_put_15 : decode cX6_put 15 = .ok (.iconst 1, 1) := by decide +kernel
theorem dX6_put_16 : decode cX6_put 16 = .ok (.isub, 1) := by decide +kernel
theorem dX6_put_17 : decode cX6_put 17 = .ok (.istore 4, 2) := by decide +kernel
theorem dX6_put_19 : decode cX6_put 19 = .ok (.iload 4, 2) := by decide +kernel
theorem dX6_put_21 : decode cX6_put 21 = .ok (.ifCond .lt 49, 3) := by decide +kernel
theorem dX6_put_24 : decode cX6_put 24 = .ok (.aload_n 0, 1) := by decide +kernel
theorem dX6_put_25 : decode cX6_put 25 = .ok (.getfield 15, 3) := by decide +kernel
theorem dX6_put_28 : decode cX6_put 28 = .ok (.aload_n 0, 1) := by decide +kernel
theorem dX6_put_29 : decode cX6_put 29 = .ok (.getfield 9, 3) := by decide +kernel
theorem dX6_put_32 : decode cX6_put 32 = .ok (.arraylength, 1) := by decide +kernel
theorem dX6_put_33 : decode cX6_put 33 = .ok (.if_icmp .ge 37, 3) := by decide +kernel
theorem dX6_put_36 : decode cX6_put 36 = .ok (.aload_n 0, 1) := by decide +kernel
theorem dX6_put_37 : decode cX6_put 37 = .ok (.getfield 9, 3) := by decide +kernel
theorem dX6_put_40 : decode cX6_put 40 = .ok (.aload_n 0, 1) := by decide +kernel
theorem dX6_put_41 : decode cX6_put 41 = .ok (.getfield 15, 3) := by decide +kernel
theorem dX6_put_44 : decode cX6_put 44 = .ok (.lload_n 1, 1) := by decide +kernel
theorem dX6_put_45 : decode cX6_put 45 = .ok (.bipush 8, 2) := by decide +kernel
theorem dX6_put_47 : decode cX6_put 47 = .ok (.iload 4, 2) := by decide +kernel
theorem dX6_put_49 : decode cX6_put 49 = .ok (.imul, 1) := by decide +kernel
theorem dX6_put_50 : decode cX6_put 50 = .ok (.lushr, 1) := by decide +kernel
theorem dX6_put_51 : decode cX6_put 51 = .ok (.l2i, 1) := by decide +kernel
theorem dX6_put_52 : decode cX6_put 52 = .ok (.i2b, 1) := by decide +kernel
theorem dX6_put_53 : decode cX6_put 53 = .ok (.bastore, 1) := by decide +kernel
theorem dX6_put_54 : decode cX6_put 54 = .ok (.aload_n 0, 1) := by decide +kernel
theorem dX6_put_55 : decode cX6_put 55 = .ok (.dup, 1) := by decide +kernel
theorem dX6_put_56 : decode cX6_put 56 = .ok (.getfield 15, 3) := by decide +kernel
theorem dX6_put_59 : decode cX6_put 59 = .ok (.iconst 1, 1) := by decide +kernel
theorem dX6_put_60 : decode cX6_put 60 = .ok (.iadd, 1) := by decide +kernel
theorem dX6_put_61 : decode cX6_put 61 = .ok (.putfield 15, 3) := by decide +kernel
theorem dX6_put_64 : decode cX6_put 64 = .ok (.iinc 4 (-1), 3) := by decide +kernel
theorem dX6_put_67 : decode cX6_put 67 = .ok (.goto (-48), 3) := by decide +kernel
theorem dX6_put_70 : decode cX6_put 70 = .ok (.iconst 1, 1) := by decide +kernel
theorem dX6_put_71 : decode cX6_put 71 = .ok (.ireturn, 1) := by decide +kernel
theorem dX6_wipe_0 : decode cX6_wipe 0 = .ok (.aload_n 0, 1) := by decide +kernel
theorem dX6_wipe_1 : decode cX6_wipe 1 = .ok (.getfield 15, 3) := by decide +kernel
theorem dX6_wipe_4 : decode cX6_wipe 4 = .ok (.istore_n 1, 1) := by decide +kernel
theorem dX6_wipe_5 : decode cX6_wipe 5 = .ok (.aload_n 0, 1) := by decide +kernel
theorem dX6_wipe_6 : decode cX6_wipe 6 = .ok (.iconst 0, 1) := by decide +kernel
theorem dX6_wipe_7 : decode cX6_wipe 7 = .ok (.putfield 15, 3) := by decide +kernel
theorem dX6_wipe_10 : decode cX6_wipe 10 = .ok (.iload_n 1, 1) := by decide +kernel
theorem dX6_wipe_11 : decode cX6_wipe 11 = .ok (.ireturn, 1) := by decide +kernel
theorem dX6_at_0 : decode cX6_at 0 = .ok (.iload_n 1, 1) := by decide +kernel
theorem dX6_at_1 : decode cX6_at 1 = .ok (.ifCond .lt 33, 3) := by decide +kernel
theorem dX6_at_4 : decode cX6_at 4 = .ok (.iload_n 1, 1) := by decide +kernel
theorem dX6_at_5 : decode cX6_at 5 = .ok (.aload_n 0, 1) := by decide +kernel
theorem dX6_at_6 : decode cX6_at 6 = .ok (.getfield 15, 3) := by decide +kernel
theorem dX6_at_9 : decode cX6_at 9 = .ok (.if_icmp .ge 25, 3) := by decide +kernel
theorem dX6_at_12 : decode cX6_at 12 = .ok (.iload_n 1, 1) := by decide +kernel
theorem dX6_at_13 : decode cX6_at 13 = .ok (.aload_n 0, 1) := by decide +kernel
theorem dX6_at_14 : decode cX6_at 14 = .ok (.getfield 9, 3) := by decide +kernel
theorem dX6_at_17 : decode cX6_at 17 = .ok (.arraylength, 1) := by decide +kernel
theorem dX6_at_18 : decode cX6_at 18 = .ok (.if_icmp .ge 16, 3) := by decide +kernel
theorem dX6_at_21 : decode cX6_at 21 = .ok (.aload_n 0, 1) := by decide +kernel
theorem dX6_at_22 : decode cX6_at 22 = .ok (.getfield 9, 3) := by decide +kernel
theorem dX6_at_25 : decode cX6_at 25 = .ok (.iload_n 1, 1) := by decide +kernel
theorem dX6_at_26 : decode cX6_at 26 = .ok (.baload, 1) := by decide +kernel
theorem dX6_at_27 : decode cX6_at 27 = .ok (.sipush 255, 3) := by decide +kernel
theorem dX6_at_30 : decode cX6_at 30 = .ok (.iand, 1) := by decide +kernel
theorem dX6_at_31 : decode cX6_at 31 = .ok (.goto 4, 3) := by decide +kernel
theorem dX6_at_34 : decode cX6_at 34 = .ok (.iconst (-1), 1) := by decide +kernel
theorem dX6_at_35 : decode cX6_at 35 = .ok (.ireturn, 1) := by decide +kernel
set_option maxRecDepth 20000 in
theorem ggX7_init_X6_init : GoodIn wsX7_init wsX6_init := goodIn_r _ [34, 35, 2, 3, 36, 37, 38, 198, 199] (by decide +kernel) (by decide +kernel)
set_option maxRecDepth 20000 in
theorem gX7_init_X6_init_n9 : GoodIn wsX7_init (wsX6_init) := ggX7_init_X6_init
set_option maxRecDepth 20000 in
theorem ggX7_init_X3_init : GoodIn wsX7_init wsX3_init := goodIn_r _ [40, 41, 2, 3, 42, 43, 44, 45, 46, 47, 48, 49, 50, 210, 211, 212, 213, 214, 215, 216] (by decide +kernel) (by decide +kernel)
set_option maxRecDepth 20000 in
theorem gX7_init_X3_init_n18 : GoodIn wsX7_init (wsX3_init) := ggX7_init_X3_init
set_option maxRecDepth 20000 in
theorem ggX7_init_X2_init : GoodIn wsX7_init wsX2_init := goodIn_r _ [52, 53, 2, 3, 54, 55, 56, 57, 58, 18, 19, 59, 60, 61, 62, 63, 64, 65, 66, 67, 68, 69, 70, 71, 72, 73, 74, 75, 76, 77, 78, 79, 80, 42, 81, 82, 83, 84, 85, 86, 231, 232, 233, 217, 218, 219, 220, 221, 222, 223, 224, 225, 226] (by decide +kernel) (by decide +kernel)
set_option maxRecDepth 20000 in
theorem gX7_init_X2_init_n25 : GoodIn wsX7_init (wsX2_init) := ggX7_init_X2_init
set_option maxRecDepth 20000 in
theorem ggX7_init_X4_init : GoodIn wsX7_init wsX4_init := goodIn_r _ [79, 80, 2, 3, 42, 81, 82, 83, 55, 56, 84, 85, 86, 66, 67, 68, 69, 70, 71, 72, 73, 74, 75, 76, 223, 224, 225, 226, 231, 232, 233] (by decide +kernel) (by decide +kernel)
set_option maxRecDepth 20000 in
theorem gX7_init_X4_init : GoodIn wsX7_init (wsX4_init) := ggX7_init_X4_init
set_option maxRecDepth 20000 in
theorem ggX7_init_X1_init : GoodIn wsX7_init wsX1_init := goodIn_r _ [89, 90, 2, 3, 42, 91, 69, 92, 93, 227, 228, 229] (by decide +kernel) (by decide +kernel)
set_option maxRecDepth 20000 in
theorem gX7_init_X1_init_n44 : GoodIn wsX7_init (wsX1_init) := ggX7_init_X1_init
set_option maxRecDepth 20000 in
theorem ggX7_init_X0_init : GoodIn wsX7_init wsX0_init := goodIn_r _ [95, 96, 2, 3, 42, 97, 230] (by decide +kernel) (by decide +kernel)
set_option maxRecDepth 20000 in
theorem gX7_init_X0_init_n51 : GoodIn wsX7_init (wsX0_init) := ggX7_init_X0_init
set_option maxRecDepth 20000 in
theorem ggX7_init_X7_settle : GoodIn wsX7_init wsX7_settle := goodIn_r _ [102, 15, 24, 103, 28, 104, 105, 106, 14, 107, 57, 63, 60, 64, 59, 108, 109, 110, 56, 111, 112, 71, 113, 114, 115, 116, 70, 117, 118, 119, 19, 120, 81, 82, 121, 122, 123, 124, 84, 125, 126, 127, 128, 129, 130, 131, 132, 133, 85, 134, 101, 135, 136, 137, 138, 139, 140, 141, 142, 143, 144, 145, 146, 147, 148, 149, 150, 151, 23, 152, 93, 153, 154, 155, 156, 157, 158, 159, 160, 161, 29, 162, 163, 164, 165, 166, 167, 168, 91, 92, 169, 170, 171, 27, 172, 97, 173, 174, 175, 176, 177, 178, 179, 180, 181, 182, 183, 184, 185, 186, 187, 188, 74, 189, 190, 191, 192, 193, 194, 195, 196, 197, 200, 201, 202, 203, 204, 205, 206, 207, 208, 209, 217, 218, 219, 220, 221, 222, 231, 232, 233, 223, 224, 225, 226, 227, 228, 229, 230] (by decide +kernel) (by decide +kernel)
set_option maxRecDepth 20000 in
theorem gX7_init_X7_settle : GoodIn wsX7_init (wsV RX7 68 RX7 yX7_settle wsX7_settle) := goodIn_app (goodIn_of _ (by decide +kernel)) ggX7_init_X7_settle
