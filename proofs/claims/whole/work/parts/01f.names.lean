theorem dX8_in_0 : decode cX8_in 0 = .ok (.lload_n 0, 1) := by decide +kernel
theorem dX8_in_1 : decode cX8_in 1 = .ok (.lload_n 2, 1) := by decide +kernel
theorem dX8_in_2 : decode cX8_in 2 = .ok (.lcmp, 1) := by decide +kernel
theorem dX8_in_3 : decode cX8_in 3 = .ok (.ifCond .lt 14, 3) := by decide +kernel
theorem dX8_in_6 : decode cX8_in 6 = .ok (.lload_n 0, 1) := by decide +kernel
theorem dX8_in_7 : decode cX8_in 7 = .ok (.lload 4, 2) := by decide +kernel
theorem dX8_in_9 : decode cX8_in 9 = .ok (.lcmp, 1) := by decide +kernel
theorem dX8_in_10 : decode cX8_in 10 = .ok (.ifCond .gt 7, 3) := by decide +kernel
theorem dX8_in_13 : decode cX8_in 13 = .ok (.iconst 1, 1) := by decide +kernel
theorem dX8_in_14 : decode cX8_in 14 = .ok (.goto 4, 3) := by decide +kernel
theorem dX8_in_17 : decode cX8_in 17 = .ok (.iconst 0, 1) := by decide +kernel
theorem dX8_in_18 : decode cX8_in 18 = .ok (.ireturn, 1) := by decide +kernel
set_option maxRecDepth 20000 in
theorem ggX8_init_X8_rates : GoodIn wsX8_init wsX8_rates := goodIn_r _ [22, 8, 23, 24, 25, 26, 21, 27, 9, 15, 7, 28, 29, 30, 31, 32, 33, 34, 35, 36, 37, 38, 39, 55, 56, 57, 58, 59, 60, 61, 62, 63, 64, 65, 66, 67, 68, 69, 70, 71, 72, 73, 74, 75] (by decide +kernel) (by decide +kernel)
set_option maxRecDepth 20000 in
theorem gX8_init_X8_rates : GoodIn wsX8_init (wsV RX8 47 RX8 yX8_rates wsX8_rates) := goodIn_app (goodIn_of _ (by decide +kernel)) ggX8_init_X8_rates
set_option maxRecDepth 20000 in
theorem ggX8_init_X8_forgets : GoodIn wsX8_init wsX8_forgets := goodIn_r _ [43, 10, 44, 45, 46, 21, 47, 8, 28, 29, 30, 31, 32, 33, 34, 35, 15, 7, 48, 49, 50, 36, 37, 38, 39, 51, 52, 53, 54, 9, 55, 56, 57, 58, 59, 60, 61, 62, 63, 64, 65, 66, 67, 68, 69, 70, 71, 72, 73, 74, 75] (by decide +kernel) (by decide +kernel)
set_option maxRecDepth 20000 in
theorem gX8_init_X8_forgets : GoodIn wsX8_init (wsV RX8 50 RX8 yX8_forgets wsX8_forgets) := goodIn_app (goodIn_of _ (by decide +kernel)) ggX8_init_X8_forgets
theorem dX8_init_0 : decode cX8_init 0 = .ok (.aload_n 0, 1) := by decide +kernel
theorem dX8_init_1 : decode cX8_init 1 = .ok (.invokespecial 1, 3) := by decide +kernel
theorem dX8_init_4 : decode cX8_init 4 = .ok (.aload_n 0, 1) := by decide +kernel
theorem dX8_init_5 : decode cX8_init 5 = .ok (.sipush 400, 3) := by decide +kernel
theorem dX8_init_8 : decode cX8_init 8 = .ok (.newarray .int, 2) := by decide +kernel
theorem dX8_init_10 : decode cX8_init 10 = .ok (.putfield 7, 3) := by decide +kernel
theorem dX8_init_13 : decode cX8_init 13 = .ok (.aload_n 0, 1) := by decide +kernel
theorem dX8_init_14 : decode cX8_init 14 = .ok (.bipush 45, 2) := by decide +kernel
theorem dX8_init_16 : decode cX8_init 16 = .ok (.newarray .long, 2) := by decide +kernel
theorem dX8_init_18 : decode cX8_init 18 = .ok (.putfield 13, 3) := by decide +kernel
theorem dX8_init_21 : decode cX8_init 21 = .ok (.aload_n 0, 1) := by decide +kernel
theorem dX8_init_22 : decode cX8_init 22 = .ok (.iconst 5, 1) := by decide +kernel
theorem dX8_init_23 : decode cX8_init 23 = .ok (.newarray .int, 2) := by decide +kernel
theorem dX8_init_25 : decode cX8_init 25 = .ok (.putfield 17, 3) := by decide +kernel
theorem dX8_init_28 : decode cX8_init 28 = .ok (.aload_n 0, 1) := by decide +kernel
theorem dX8_init_29 : decode cX8_init 29 = .ok (.bipush 9, 2) := by decide +kernel
theorem dX8_init_31 : decode cX8_init 31 = .ok (.newarray .int, 2) := by decide +kernel
theorem dX8_init_33 : decode cX8_init 33 = .ok (.putfield 20, 3) := by decide +kernel
theorem dX8_init_36 : decode cX8_init 36 = .ok (.aload_n 0, 1) := by decide +kernel
theorem dX8_init_37 : decode cX8_init 37 = .ok (.bipush 64, 2) := by decide +kernel
theorem dX8_init_39 : decode cX8_init 39 = .ok (.newarray .int, 2) := by decide +kernel
theorem dX8_init_41 : decode cX8_init 41 = .ok (.putfield 23, 3) := by decide +kernel
theorem dX8_init_44 : decode cX8_init 44 = .ok (.aload_n 0, 1) := by decide +kernel
theorem dX8_init_45 : decode cX8_init 45 = .ok (.sipush 410, 3) := by decide +kernel
theorem dX8_init_48 : decode cX8_init 48 = .ok (.newarray .long, 2) := by decide +kernel
theorem dX8_init_50 : decode cX8_init 50 = .ok (.putfield 26, 3) := by decide +kernel
theorem dX8_init_53 : decode cX8_init 53 = .ok (.aload_n 0, 1) := by decide +kernel
theorem dX8_init_54 : decode cX8_init 54 = .ok (.sipush 410, 3) := by decide +kernel
theorem dX8_init_57 : decode cX8_init 57 = .ok (.newarray .int, 2) := by decide +kernel
theorem dX8_init_59 : decode cX8_init 59 = .ok (.putfield 29, 3) := by decide +kernel
theorem dX8_init_62 : decode cX8_init 62 = .ok (.aload_n 0, 1) := by decide +kernel
theorem dX8_init_63 : decode cX8_init 63 = .ok (.bipush 45, 2) := by decide +kernel
theorem dX8_init_65 : decode cX8_init 65 = .ok (.newarray .long, 2) := by decide +kernel
theorem dX8_init_67 : decode cX8_init 67 = .ok (.putfield 32, 3) := by decide +kernel
theorem dX8_init_70 : decode cX8_init 70 = .ok (.aload_n 0, 1) := by decide +kernel
theorem dX8_init_71 : decode cX8_init 71 = .ok (.iconst 5, 1) := by decide +kernel
theorem dX8_init_72 : decode cX8_init 72 = .ok (.newarray .int, 2) := by decide +kernel
theorem dX8_init_74 : decode cX8_init 74 = .ok (.putfield 35, 3) := by decide +kernel
theorem dX8_init_77 : decode cX8_init 77 = .ok (.aload_n 0, 1) := by decide +kernel
theorem dX8_init_78 : decode cX8_init 78 = .ok (.ldc2_w 38, 3) := by decide +kernel
theorem dX8_init_81 : decode cX8_init 81 = .ok (.putfield 40, 3) := by decide +kernel
theorem dX8_init_84 : decode cX8_init 84 = .ok (.aload_n 0, 1) := by decide +kernel
theorem dX8_init_85 : decode cX8_init 85 = .ok (.ldc2_w 38, 3) := by decide +kernel
theorem dX8_init_88 : decode cX8_init 88 = .ok (.putfield 44, 3) := by decide +kernel
theorem dX8_init_91 : decode cX8_init 91 = .ok (.aload_n 0, 1) := by decide +kernel
theorem dX8_init_92 : decode cX8_init 92 = .ok (.invokevirtual 47, 3) := by decide +kernel
theorem dX8_init_95 : decode cX8_init 95 = .ok (.aload_n 0, 1) := by decide +kernel
theorem dX8_init_96 : decode cX8_init 96 = .ok (.invokevirtual 50, 3) := by decide +kernel
theorem dX8_init_99 : decode cX8_init 99 = .ok (.return_, 1) := by decide +kernel
set_option maxRecDepth 20000 in
theorem ggX8_type_X8_in : GoodIn wsX8_type wsX8_in := goodIn_r _ [8] (by decide +kernel) (by decide +kernel)
set_option maxRecDepth 20000 in
theorem gX8_type_X8_in : GoodIn wsX8_type (va_wsS RX8 55 yX8_in wsX8_in) := goodIn_app (goodIn_of _ (by decide +kernel)) ggX8_type_X8_in
theorem dX8_type_0 : decode cX8_type 0 = .ok (.iload_n 3, 1) := by decide +kernel
theorem dX8_type_1 : decode cX8_type 1 = .ok (.i2l, 1) := by decide +kernel
theorem dX8_type_2 : decode cX8_type 2 = .ok (.lconst 1, 1) := by decide +kernel
theorem dX8_type_3 : decode cX8_type 3 = .ok (.ldc2_w 53, 3) := by decide +kernel
theorem dX8_type_6 : decode cX8_type 6 = .ok (.invokestatic 55, 3) := by decide +kernel
theorem dX8_type_9 : decode cX8_type 9 = .ok (.ifCond .ne 5, 3) := by decide +kernel
theorem dX8_type_12 : decode cX8_type 12 = .ok (.iconst (-1), 1) := by decide +kernel
theorem dX8_type_13 : decode cX8_type 13 = .ok (.ireturn, 1) := by decide +kernel
theorem dX8_type_14 : decode cX8_type 14 = .ok (.aload_n 0, 1) := by decide +kernel
theorem dX8_type_15 : decode cX8_type 15 = .ok (.getfield 59, 3) := by decide +kernel
theorem dX8_type_18 : decode cX8_type 18 = .ok (.iload_n 3, 1) := by decide +kernel
theorem dX8_type_19 : decode cX8_type 19 = .ok (.iadd, 1) := by decide +kernel
theorem dX8_type_20 : decode cX8_type 20 = .ok (.sipush 400, 3) := by decide +kernel
theorem dX8_type_23 : decode cX8_type 23 = .ok (.if_icmp .le 6, 3) := by decide +kernel
theorem dX8_type_26 : decode cX8_type 26 = .ok (.bipush (-3), 2) := by decide +kernel
theorem dX8_type_28 : decode cX8_type 28 = .ok (.ireturn, 1) := by decide +kernel
theorem dX8_type_29 : decode cX8_type 29 = .ok (.iload_n 3, 1) := by decide +kernel
theorem dX8_type_30 : decode cX8_type 30 = .ok (.iconst 1, 1) := by decide +kernel
theorem dX8_type_31 : decode cX8_type 31 = .ok (.isub, 1) := by decide +kernel
theorem dX8_type_32 : decode cX8_type 32 = .ok (.istore 4, 2) := by decide +kernel
theorem dX8_type_34 : decode cX8_type 34 = .ok (.iload 4, 2) := by decide +kernel
theorem dX8_type_36 : decode cX8_type 36 = .ok (.ifCond .lt 40, 3) := by decide +kernel
theorem dX8_type_39 : decode cX8_type 39 = .ok (.aload_n 0, 1) := by decide +kernel
theorem dX8_type_40 : decode cX8_type 40 = .ok (.getfield 7, 3) := by decide +kernel
theorem dX8_type_43 : decode cX8_type 43 = .ok (.aload_n 0, 1) := by decide +kernel
theorem dX8_type_44 : decode cX8_type 44 = .ok (.getfield 59, 3) := by decide +kernel
theorem dX8_type_47 : decode cX8_type 47 = .ok (.lload_n 1, 1) := by decide +kernel
theorem dX8_type_48 : decode cX8_type 48 = .ok (.bipush 8, 2) := by decide +kernel
theorem dX8_type_50 : decode cX8_type 50 = .ok (.iload 4, 2) := by decide +kernel
theorem dX8_type_52 : decode cX8_type 52 = .ok (.imul, 1) := by decide +kernel
theorem dX8_type_53 : decode cX8_type 53 = .ok (.lshr, 1) := by decide +kernel
theorem dX8_type_54 : decode cX8_type 54 = .ok (.ldc2_w 63, 3) := by decide +kernel
theorem dX8_type_57 : decode cX8_type 57 = .ok (.land, 1) := by decide +kernel
theorem dX8_type_58 : decode cX8_type 58 = .ok (.l2i, 1) := by decide +kernel
theorem dX8_type_59 : decode cX8_type 59 = .ok (.iastore, 1) := by decide +kernel
theorem dX8_type_60 : decode cX8_type 60 = .ok (.aload_n 0, 1) := by decide +kernel
theorem dX8_type_61 : decode cX8_type 61 = .ok (.dup, 1) := by decide +kernel
theorem dX8_type_62 : decode cX8_type 62 = .ok (.getfield 59, 3) := by decide +kernel
theorem dX8_type_65 : decode cX8_type 65 = .ok (.iconst 1, 1) := by decide +kernel
theorem dX8_type_66 : decode cX8_type 66 = .ok (.iadd, 1) := by decide +kernel
theorem dX8_type_67 : decode cX8_type 67 = .ok (.putfield 59, 3) := by decide +kernel
theorem dX8_type_70 : decode cX8_type 70 = .ok (.iinc 4 (-1), 3) := by decide +kernel
theorem dX8_type_73 : decode cX8_type 73 = .ok (.goto (-39), 3) := by decide +kernel
theorem dX8_type_76 : decode cX8_type 76 = .ok (.aload_n 0, 1) := by decide +kernel
theorem dX8_type_77 : decode cX8_type 77 = .ok (.getfield 59, 3) := by decide +kernel
theorem dX8_type_80 : decode cX8_type 80 = .ok (.ireturn, 1) := by decide +kernel
theorem dX8_clear_0 : decode cX8_clear 0 = .ok (.aload_n 0, 1) := by decide +kernel
theorem dX8_clear_1 : decode cX8_clear 1 = .ok (.getfield 59, 3) := by decide +kernel
theorem dX8_clear_4 : decode cX8_clear 4 = .ok (.istore_n 1, 1) := by decide +kernel
theorem dX8_clear_5 : decode cX8_clear 5 = .ok (.aload_n 0, 1) := by decide +kernel
theorem dX8_clear_6 : decode cX8_clear 6 = .ok (.iconst 0, 1) := by decide +kernel
theorem dX8_clear_7 : decode cX8_clear 7 = .ok (.putfield 59, 3) := by decide +kernel
theorem dX8_clear_10 : decode cX8_clear 10 = .ok (.iload_n 1, 1) := by decide +kernel
theorem dX8_clear_11 : decode cX8_clear 11 = .ok (.ireturn, 1) := by decide +kernel
set_option maxRecDepth 20000 in
theorem ggX8_isLetter_X8_in : GoodIn wsX8_isLetter wsX8_in := goodIn_r _ [6] (by decide +kernel) (by decide +kernel)
set_option maxRecDepth 20000 in
theorem gX8_isLetter_X8_in : GoodIn wsX8_isLetter (va_wsS RX8 55 yX8_in wsX8_in) := goodIn_app (goodIn_of _ (by decide +kernel)) ggX8_isLetter_X8_in
theorem dX8_isLetter_0 : decode cX8_isLetter 0 = .ok (.iload_n 0, 1) := by decide +kernel
theorem dX8_isLetter_1 : decode cX8_isLetter 1 = .ok (.i2l, 1) := by decide +kernel
theorem dX8_isLetter_2 : decode cX8_isLetter 2 = .ok (.ldc2_w 65, 3) := by decide +kernel
theorem dX8_isLetter_5 : decode cX8_isLetter 5 = .ok (.ldc2_w 67, 3) := by decide +kernel
theorem dX8_isLetter_8 : decode cX8_isLetter 8 = .ok (.invokestatic 55, 3) := by decide +kernel
theorem dX8_isLetter_11 : decode cX8_isLetter 11 = .ok (.ireturn, 1) := by decide +kernel
theorem dX8_wordOf_0 : decode cX8_wordOf 0 = .ok (.lconst 0, 1) := by decide +kernel
theorem dX8_wordOf_1 : decode cX8_wordOf 1 = .ok (.lstore_n 2, 1) := by decide +kernel
theorem dX8_wordOf_2 : decode cX8_wordOf 2 = .ok (.iconst 0, 1) := by decide +kernel
theorem dX8_wordOf_3 : decode cX8_wordOf 3 = .ok (.istore 4, 2) := by decide +kernel
theorem dX8_wordOf_5 : decode cX8_wordOf 5 = .ok (.iload 4, 2) := by decide +kernel
theorem dX8_wordOf_7 : decode cX8_wordOf 7 = .ok (.iload_n 1, 1) := by decide +kernel
theorem dX8_wordOf_8 : decode cX8_wordOf 8 = .ok (.if_icmp .ge 41, 3) := by decide +kernel
theorem dX8_wordOf_11 : decode cX8_wordOf 11 = .ok (.iload_n 1, 1) := by decide +kernel
theorem dX8_wordOf_12 : decode cX8_wordOf 12 = .ok (.bipush 7, 2) := by decide +kernel
theorem dX8_wordOf_14 : decode cX8_wordOf 14 = .ok (.if_icmp .ge 35, 3) := by decide +kernel
theorem dX8_wordOf_17 : decode cX8_wordOf 17 = .ok (.ldc2_w 69, 3) := by decide +kernel
theorem dX8_wordOf_20 : decode cX8_wordOf 20 = .ok (.lload_n 2, 1) := by decide +kernel
theorem dX8_wordOf_21 : decode cX8_wordOf 21 = .ok (.lmul, 1) := by decide +kernel
theorem dX8_wordOf_22 : decode cX8_wordOf 22 = .ok (.aload_n 0, 1) := by decide +kernel
theorem dX8_wordOf_23 : decode cX8_wordOf 23 = .ok (.getfield 7, 3) := by decide +kernel
theorem dX8_wordOf_26 : decode cX8_wordOf 26 = .ok (.aload_n 0, 1) := by decide +kernel
theorem dX8_wordOf_27 : decode cX8_wordOf 27 = .ok (.getfield 71, 3) := by decide +kernel
theorem dX8_wordOf_30 : decode cX8_wordOf 30 = .ok (.iload 4, 2) := by decide +kernel
theorem dX8_wordOf_32 : decode cX8_wordOf 32 = .ok (.iadd, 1) := by decide +kernel
theorem dX8_wordOf_33 : decode cX8_wordOf 33 = .ok (.iaload, 1) := by decide +kernel
theorem dX8_wordOf_34 : decode cX8_wordOf 34 = .ok (.i2l, 1) := by decide +kernel
theorem dX8_wordOf_35 : decode cX8_wordOf 35 = .ok (.ladd, 1) := by decide +kernel
theorem dX8_wordOf_36 : decode cX8_wordOf 36 = .ok (.ldc2_w 65, 3) := by decide +kernel
theorem dX8_wordOf_39 : decode cX8_wordOf 39 = .ok (.lsub, 1) := by decide +kernel
theorem dX8_wordOf_40 : decode cX8_wordOf 40 = .ok (.lconst 1, 1) := by decide +kernel
theorem dX8_wordOf_41 : decode cX8_wordOf 41 = .ok (.ladd, 1) := by decide +kernel
theorem dX8_wordOf_42 : decode cX8_wordOf 42 = .ok (.lstore_n 2, 1) := by decide +kernel
theorem dX8_wordOf_43 : decode cX8_wordOf 43 = .ok (.iinc 4 1, 3) := by decide +kernel
theorem dX8_wordOf_46 : decode cX8_wordOf 46 = .ok (.goto (-41), 3) := by decide +kernel
theorem dX8_wordOf_49 : decode cX8_wordOf 49 = .ok (.lload_n 2, 1) := by decide +kernel
theorem dX8_wordOf_50 : decode cX8_wordOf 50 = .ok (.lconst 1, 1) := by decide +kernel
theorem dX8_wordOf_51 : decode cX8_wordOf 51 = .ok (.lcmp, 1) := by decide +kernel
theorem dX8_wordOf_52 : decode cX8_wordOf 52 = .ok (.ifCond .lt 19, 3) := by decide +kernel
theorem dX8_wordOf_55 : decode cX8_wordOf 55 = .ok (.lload_n 2, 1) := by decide +kernel
theorem dX8_wordOf_56 : decode cX8_wordOf 56 = .ok (.ldc2_w 74, 3) := by decide +kernel
theorem dX8_wordOf_59 : decode cX8_wordOf 59 = .ok (.lcmp, 1) := by decide +kernel
theorem dX8_wordOf_60 : decode cX8_wordOf 60 = .ok (.ifCond .gt 11, 3) := by decide +kernel
theorem dX8_wordOf_63 : decode cX8_wordOf 63 = .ok (.bipush 10, 2) := by decide +kernel
theorem dX8_wordOf_65 : decode cX8_wordOf 65 = .ok (.lload_n 2, 1) := by decide +kernel
theorem dX8_wordOf_66 : decode cX8_wordOf 66 = .ok (.l2i, 1) := by decide +kernel
theorem dX8_wordOf_67 : decode cX8_wordOf 67 = .ok (.iadd, 1) := by decide +kernel
theorem dX8_wordOf_68 : decode cX8_wordOf 68 = .ok (.iconst 1, 1) := by decide +kernel
theorem dX8_wordOf_69 : decode cX8_wordOf 69 = .ok (.isub, 1) := by decide +kernel
theorem dX8_wordOf_70 : decode cX8_wordOf 70 = .ok (.ireturn, 1) := by decide +kernel
theorem dX8_wordOf_71 : decode cX8_wordOf 71 = .ok (.lload_n 2, 1) := by decide +kernel
theorem dX8_wordOf_72 : decode cX8_wordOf 72 = .ok (.ldc2_w 76, 3) := by decide +kernel
theorem dX8_wordOf_75 : decode cX8_wordOf 75 = .ok (.lcmp, 1) := by decide +kernel
theorem dX8_wordOf_76 : decode cX8_wordOf 76 = .ok (.ifCond .ne 7, 3) := by decide +kernel
theorem dX8_wordOf_79 : decode cX8_wordOf 79 = .ok (.iconst 2, 1) := by decide +kernel
theorem dX8_wordOf_80 : decode cX8_wordOf 80 = .ok (.goto 53, 3) := by decide +kernel
theorem dX8_wordOf_83 : decode cX8_wordOf 83 = .ok (.lload_n 2, 1) := by decide +kernel
theorem dX8_wordOf_84 : decode cX8_wordOf 84 = .ok (.ldc2_w 78, 3) := by decide +kernel
theorem dX8_wordOf_87 : decode cX8_wordOf 87 = .ok (.lcmp, 1) := by decide +kernel
theorem dX8_wordOf_88 : decode cX8_wordOf 88 = .ok (.ifCond .ne 7, 3) := by decide +kernel
theorem dX8_wordOf_91 : decode cX8_wordOf 91 = .ok (.iconst 3, 1) := by decide +kernel
theorem dX8_wordOf_92 : decode cX8_wordOf 92 = .ok (.goto 41, 3) := by decide +kernel
theorem dX8_wordOf_95 : decode cX8_wordOf 95 = .ok (.lload_n 2, 1) := by decide +kernel
theorem dX8_wordOf_96 : decode cX8_wordOf 96 = .ok (.ldc2_w 80, 3) := by decide +kernel
theorem dX8_wordOf_99 : decode cX8_wordOf 99 = .ok (.lcmp, 1) := by decide +kernel
theorem dX8_wordOf_100 : decode cX8_wordOf 100 = .ok (.ifCond .ne 7, 3) := by decide +kernel
theorem dX8_wordOf_103 : decode cX8_wordOf 103 = .ok (.iconst 4, 1) := by decide +kernel
theorem dX8_wordOf_104 : decode cX8_wordOf 104 = .ok (.goto 29, 3) := by decide +kernel
theorem dX8_wordOf_107 : decode cX8_wordOf 107 = .ok (.lload_n 2, 1) := by decide +kernel
theorem dX8_wordOf_108 : decode cX8_wordOf 108 = .ok (.ldc2_w 82, 3) := by decide +kernel
theorem dX8_wordOf_111 : decode cX8_wordOf 111 = .ok (.lcmp, 1) := by decide +kernel
theorem dX8_wordOf_112 : decode cX8_wordOf 112 = .ok (.ifCond .ne 7, 3) := by decide +kernel
theorem dX8_wordOf_115 : decode cX8_wordOf 115 = .ok (.iconst 5, 1) := by decide +kernel
theorem dX8_wordOf_116 : decode cX8_wordOf 116 = .ok (.goto 17, 3) := by decide +kernel
theorem dX8_wordOf_119 : decode cX8_wordOf 119 = .ok (.lload_n 2, 1) := by decide +kernel
theorem dX8_wordOf_120 : decode cX8_wordOf 120 = .ok (.ldc2_w 84, 3) := by decide +kernel
theorem dX8_wordOf_123 : decode cX8_wordOf 123 = .ok (.lcmp, 1) := by decide +kernel
theorem dX8_wordOf_124 : decode cX8_wordOf 124 = .ok (.ifCond .ne 8, 3) := by decide +kernel
theorem dX8_wordOf_127 : decode cX8_wordOf 127 = .ok (.bipush 6, 2) := by decide +kernel
theorem dX8_wordOf_129 : decode cX8_wordOf 129 = .ok (.goto 4, 3) := by decide +kernel
theorem dX8_wordOf_132 : decode cX8_wordOf 132 = .ok (.iconst 1, 1) := by decide +kernel
theorem dX8_wordOf_133 : decode cX8_wordOf 133 = .ok (.ireturn, 1) := by decide +kernel
theorem dX8_signOf_0 : decode cX8_signOf 0 = .ok (.iload_n 0, 1) := by decide +kernel
theorem dX8_signOf_1 : decode cX8_signOf 1 = .ok (.lookupswitch 99 #[(33, 90), (38, 87), (40, 93), (41, 96), (48, 75), (49, 78), (59, 81), (124, 84)], 75) := by decide +kernel
theorem dX8_signOf_76 : decode cX8_signOf 76 = .ok (.bipush 17, 2) := by decide +kernel
theorem dX8_signOf_78 : decode cX8_signOf 78 = .ok (.ireturn, 1) := by decide +kernel
theorem dX8_signOf_79 : decode cX8_signOf 79 = .ok (.bipush 18, 2) := by decide +kernel
theorem dX8_signOf_81 : decode cX8_signOf 81 = .ok (.ireturn, 1) := by decide +kernel
theorem dX8_signOf_82 : decode cX8_signOf 82 = .ok (.bipush 19, 2) := by decide +kernel
theorem dX8_signOf_84 : decode cX8_signOf 84 = .ok (.ireturn, 1) := by decide +kernel
theorem dX8_signOf_85 : decode cX8_signOf 85 = .ok (.bipush 20, 2) := by decide +kernel
theorem dX8_signOf_87 : decode cX8_signOf 87 = .ok (.ireturn, 1) := by decide +kernel
theorem dX8_signOf_88 : decode cX8_signOf 88 = .ok (.bipush 21, 2) := by decide +kernel
theorem dX8_signOf_90 : decode cX8_signOf 90 = .ok (.ireturn, 1) := by decide +kernel
theorem dX8_signOf_91 : decode cX8_signOf 91 = .ok (.bipush 22, 2) := by decide +kernel
theorem dX8_signOf_93 : decode cX8_signOf 93 = .ok (.ireturn, 1) := by decide +kernel
theorem dX8_signOf_94 : decode cX8_signOf 94 = .ok (.bipush 23, 2) := by decide +kernel
theorem dX8_signOf_96 : decode cX8_signOf 96 = .ok (.ireturn, 1) := by decide +kernel
theorem dX8_signOf_97 : decode cX8_signOf 97 = .ok (.bipush 24, 2) := by decide +kernel
theorem dX8_signOf_99 : decode cX8_signOf 99 = .ok (.ireturn, 1) := by decide +kernel
theorem dX8_signOf_100 : decode cX8_signOf 100 = .ok (.iconst 1, 1) := by decide +kernel
theorem dX8_signOf_101 : decode cX8_signOf 101 = .ok (.ireturn, 1) := by decide +kernel
set_option maxRecDepth 20000 in
theorem ggX8_scans_X8_isLetter : GoodIn wsX8_scans wsX8_isLetter := goodIn_r _ [9, 10, 11, 12, 13, 8, 14] (by decide +kernel) (by decide +kernel)
set_option maxRecDepth 20000 in
theorem gX8_scans_X8_isLetter : GoodIn wsX8_scans (va_wsS RX8 92 yX8_isLetter wsX8_isLetter) := goodIn_app (goodIn_of _ (by decide +kernel)) ggX8_scans_X8_isLetter
set_option maxRecDepth 20000 in
theorem ggX8_scans_X8_signOf : GoodIn wsX8_scans wsX8_signOf := goodIn_r _ [17] (by decide +kernel) (by decide +kernel)
set_option maxRecDepth 20000 in
theorem gX8_scans_X8_signOf : GoodIn wsX8_scans (va_wsS RX8 96 yX8_signOf wsX8_signOf) := goodIn_app (goodIn_of _ (by decide +kernel)) ggX8_scans_X8_signOf
set_option maxRecDepth 20000 in
theorem ggX8_scans_X8_wordOf : GoodIn wsX8_scans wsX8_wordOf := goodIn_r _ [21, 22, 3, 4, 10, 23, 24, 25, 26, 27, 28, 29, 30, 31, 32, 33, 34, 35, 36, 37, 38, 39, 40, 41, 42, 43, 44, 45, 46, 47, 48, 49] (by decide +kernel) (by decide +kernel)
set_option maxRecDepth 20000 in
theorem gX8_scans_X8_wordOf : GoodIn wsX8_scans (wsV RX8 100 RX8 yX8_wordOf wsX8_wordOf) := goodIn_app (goodIn_of _ (by decide +kernel)) ggX8_scans_X8_wordOf
theorem dX8_scans_0 : decode cX8_scans 0 = .ok (.aload_n 0, 1) := by decide +kernel
theorem dX8_scans_1 : decode cX8_scans 1 = .ok (.getfield 86, 3) := by decide +kernel
theorem dX8_scans_4 : decode cX8_scans 4 = .ok (.aload_n 0, 1) := by decide +kernel
theorem dX8_scans_5 : decode cX8_scans 5 = .ok (.getfield 59, 3) := by decide +kernel
theorem dX8_scans_8 : decode cX8_scans 8 = .ok (.if_icmp .ge 30, 3) := by decide +kernel
theorem dX8_scans_11 : decode cX8_scans 11 = .ok (.aload_n 0, 1) := by decide +kernel
theorem dX8_scans_12 : decode cX8_scans 12 = .ok (.getfield 7, 3) := by decide +kernel
theorem dX8_scans_15 : decode cX8_scans 15 = .ok (.aload_n 0, 1) := by decide +kernel
theorem dX8_scans_16 : decode cX8_scans 16 = .ok (.getfield 86, 3) := by decide +kernel
theorem dX8_scans_19 : decode cX8_scans 19 = .ok (.iaload, 1) := by decide +kernel
theorem dX8_scans_20 : decode cX8_scans 20 = .ok (.bipush 32, 2) := by decide +kernel
theorem dX8_scans_22 : decode cX8_scans 22 = .ok (.if_icmp .ne 16, 3) := by decide +kernel
theorem dX8_scans_25 : decode cX8_scans 25 = .ok (.aload_n 0, 1) := by decide +kernel
theorem dX8_scans_26 : decode cX8_scans 26 = .ok (.dup, 1) := by decide +kernel
theorem dX8_scans_27 : decode cX8_scans 27 = .ok (.getfield 86, 3) := by decide +kernel
theorem dX8_scans_30 : decode cX8_scans 30 = .ok (.iconst 1, 1) := by decide +kernel
theorem dX8_scans_31 : decode cX8_scans 31 = .ok (.iadd, 1) := by decide +kernel
theorem dX8_scans_32 : decode cX8_scans 32 = .ok (.putfield 86, 3) := by decide +kernel
theorem dX8_scans_35 : decode cX8_scans 35 = .ok (.goto (-35), 3) := by decide +kernel
theorem dX8_scans_38 : decode cX8_scans 38 = .ok (.aload_n 0, 1) := by decide +kernel
theorem dX8_scans_39 : decode cX8_scans 39 = .ok (.aload_n 0, 1) := by decide +kernel
theorem dX8_scans_40 : decode cX8_scans 40 = .ok (.getfield 86, 3) := by decide +kernel
theorem dX8_scans_43 : decode cX8_scans 43 = .ok (.putfield 71, 3) := by decide +kernel
theorem dX8_scans_46 : decode cX8_scans 46 = .ok (.aload_n 0, 1) := by decide +kernel
theorem dX8_scans_47 : decode cX8_scans 47 = .ok (.getfield 86, 3) := by decide +kernel
theorem dX8_scans_50 : decode cX8_scans 50 = .ok (.aload_n 0, 1) := by decide +kernel
theorem dX8_scans_51 : decode cX8_scans 51 = .ok (.getfield 59, 3) := by decide +kernel
theorem dX8_scans_54 : decode cX8_scans 54 = .ok (.if_icmp .ne 9, 3) := by decide +kernel
theorem dX8_scans_57 : decode cX8_scans 57 = .ok (.aload_n 0, 1) := by decide +kernel
theorem dX8_scans_58 : decode cX8_scans 58 = .ok (.iconst 0, 1) := by decide +kernel
theorem dX8_scans_59 : decode cX8_scans 59 = .ok (.putfield 89, 3) := by decide +kernel
theorem dX8_scans_62 : decode cX8_scans 62 = .ok (.return_, 1) := by decide +kernel
theorem dX8_scans_63 : decode cX8_scans 63 = .ok (.aload_n 0, 1) := by decide +kernel
theorem dX8_scans_64 : decode cX8_scans 64 = .ok (.getfield 7, 3) := by decide +kernel
theorem dX8_scans_67 : decode cX8_scans 67 = .ok (.aload_n 0, 1) := by decide +kernel
theorem dX8_scans_68 : decode cX8_scans 68 = .ok (.getfield 86, 3) := by decide +kernel
theorem dX8_scans_71 : decode cX8_scans 71 = .ok (.iaload, 1) := by decide +kernel
theorem dX8_scans_72 : decode cX8_scans 72 = .ok (.invokestatic 92, 3) := by decide +kernel
theorem dX8_scans_75 : decode cX8_scans 75 = .ok (.ifCond .ne 30, 3) := by decide +kernel
theorem dX8_scans_78 : decode cX8_scans 78 = .ok (.aload_n 0, 1) := by decide +kernel
theorem dX8_scans_79 : decode cX8_scans 79 = .ok (.aload_n 0, 1) := by decide +kernel
theorem dX8_scans_80 : decode cX8_scans 80 = .ok (.getfield 7, 3) := by decide +kernel
theorem dX8_scans_83 : decode cX8_scans 83 = .ok (.aload_n 0, 1) := by decide +kernel
theorem dX8_scans_84 : decode cX8_scans 84 = .ok (.getfield 86, 3) := by decide +kernel
theorem dX8_scans_87 : decode cX8_scans 87 = .ok (.iaload, 1) := by decide +kernel
theorem dX8_scans_88 : decode cX8_scans 88 = .ok (.invokestatic 96, 3) := by decide +kernel
theorem dX8_scans_91 : decode cX8_scans 91 = .ok (.putfield 89, 3) := by decide +kernel
theorem dX8_scans_94 : decode cX8_scans 94 = .ok (.aload_n 0, 1) := by decide +kernel
theorem dX8_scans_95 : decode cX8_scans 95 = .ok (.dup, 1) := by decide +kernel
theorem dX8_scans_96 : decode cX8_scans 96 = .ok (.getfield 86, 3) := by decide +kernel
theorem dX8_scans_99 : decode cX8_scans 99 = .ok (.iconst 1, 1) := by decide +kernel
theorem dX8_scans_100 : decode cX8_scans 100 = .ok (.iadd, 1) := by decide +kernel
theorem dX8_scans_101 : decode cX8_scans 101 = .ok (.putfield 86, 3) := by decide +kernel
theorem dX8_scans_104 : decode cX8_scans 104 = .ok (.return_, 1) := by decide +kernel
theorem dX8_scans_105 : decode cX8_scans 105 = .ok (.aload_n 0, 1) := by decide +kernel
theorem dX8_scans_106 : decode cX8_scans 106 = .ok (.getfield 86, 3) := by decide +kernel
theorem dX8_scans_109 : decode cX8_scans 109 = .ok (.aload_n 0, 1) := by decide +kernel
theorem dX8_scans_110 : decode cX8_scans 110 = .ok (.getfield 59, 3) := by decide +kernel
theorem dX8_scans_113 : decode cX8_scans 113 = .ok (.if_icmp .ge 31, 3) := by decide +kernel
theorem dX8_scans_116 : decode cX8_scans 116 = .ok (.aload_n 0, 1) := by decide +kernel
theorem dX8_scans_117 : decode cX8_scans 117 = .ok (.getfield 7, 3) := by decide +kernel
theorem dX8_scans_120 : decode cX8_scans 120 = .ok (.aload_n 0, 1) := by decide +kernel
theorem dX8_scans_121 : decode cX8_scans 121 = .ok (.getfield 86, 3) := by decide +kernel
theorem dX8_scans_124 : decode cX8_scans 124 = .ok (.iaload, 1) := by decide +kernel
theorem dX8_scans_125 : decode cX8_scans 125 = .ok (.invokestatic 92, 3) := by decide +kernel
theorem dX8_scans_128 : decode cX8_scans 128 = .ok (.ifCond .eq 16, 3) := by decide +kernel
theorem dX8_scans_131 : decode cX8_scans 131 = .ok (.aload_n 0, 1) := by decide +kernel
theorem dX8_scans_132 : decode cX8_scans 132 = .ok (.dup, 1) := by decide +kernel
theorem dX8_scans_133 : decode cX8_scans 133 = .ok (.getfield 86, 3) := by decide +kernel
theorem dX8_scans_136 : decode cX8_scans 136 = .ok (.iconst 1, 1) := by decide +kernel
theorem dX8_scans_137 : decode cX8_scans 137 = .ok (.iadd, 1) := by decide +kernel
theorem dX8_scans_138 : decode cX8_scans 138 = .ok (.putfield 86, 3) := by decide +kernel
theorem dX8_scans_141 : decode cX8_scans 141 = .ok (.goto (-36), 3) := by decide +kernel
theorem dX8_scans_144 : decode cX8_scans 144 = .ok (.aload_n 0, 1) := by decide +kernel
theorem dX8_scans_145 : decode cX8_scans 145 = .ok (.aload_n 0, 1) := by decide +kernel
theorem dX8_scans_146 : decode cX8_scans 146 = .ok (.aload_n 0, 1) := by decide +kernel
theorem dX8_scans_147 : decode cX8_scans 147 = .ok (.getfield 86, 3) := by decide +kernel
theorem dX8_scans_150 : decode cX8_scans 150 = .ok (.aload_n 0, 1) := by decide +kernel
theorem dX8_scans_151 : decode cX8_scans 151 = .ok (.getfield 71, 3) := by decide +kernel
theorem dX8_scans_154 : decode cX8_scans 154 = .ok (.isub, 1) := by decide +kernel
theorem dX8_scans_155 : decode cX8_scans 155 = .ok (.invokevirtual 100, 3) := by decide +kernel
theorem dX8_scans_158 : decode cX8_scans 158 = .ok (.putfield 89, 3) := by decide +kernel
theorem dX8_scans_161 : decode cX8_scans 161 = .ok (.return_, 1) := by decide +kernel
theorem dX8_letter_0 : decode cX8_letter 0 = .ok (.lconst 0, 1) := by decide +kernel
theorem dX8_letter_1 : decode cX8_letter 1 = .ok (.lstore_n 1, 1) := by decide +kernel
theorem dX8_letter_2 : decode cX8_letter 2 = .ok (.iconst 0, 1) := by decide +kernel
theorem dX8_letter_3 : decode cX8_letter 3 = .ok (.istore_n 3, 1) := by decide +kernel
theorem dX8_letter_4 : decode cX8_letter 4 = .ok (.iload_n 3, 1) := by decide +kernel
theorem dX8_letter_5 : decode cX8_letter 5 = .ok (.bipush 64, 2) := by decide +kernel
theorem dX8_letter_7 : decode cX8_letter 7 = .ok (.if_icmp .ge 28, 3) := by decide +kernel
theorem dX8_letter_10 : decode cX8_letter 10 = .ok (.lload_n 1, 1) := by decide +kernel
theorem dX8_letter_11 : decode cX8_letter 11 = .ok (.iload_n 3, 1) := by decide +kernel
theorem dX8_letter_12 : decode cX8_letter 12 = .ok (.iload_n 0, 1) := by decide +kernel
theorem dX8_letter_13 : decode cX8_letter 13 = .ok (.ishr, 1) := by decide +kernel
theorem dX8_letter_14 : decode cX8_letter 14 = .ok (.iconst 1, 1) := by decide +kernel
theorem dX8_letter_15 : decode cX8_letter 15 = .ok (.iand, 1) := by decide +kernel
theorem dX8_letter_16 : decode cX8_letter 16 = .ok (.iconst 1, 1) := by decide +kernel
theorem dX8_letter_17 : decode cX8_letter 17 = .ok (.if_icmp .ne 9, 3) := by decide +kernel
theorem dX8_letter_20 : decode cX8_letter 20 = .ok (.lconst 1, 1) := by decide +kernel
theorem dX8_letter_21 : decode cX8_letter 21 = .ok (.iload_n 3, 1) := by decide +kernel
theorem dX8_letter_22 : decode cX8_letter 22 = .ok (.lshl, 1) := by decide +kernel
theorem dX8_letter_23 : decode cX8_letter 23 = .ok (.goto 4, 3) := by decide +kernel
theorem dX8_letter_26 : decode cX8_letter 26 = .ok (.lconst 0, 1) := by decide +kernel
theorem dX8_letter_27 : decode cX8_letter 27 = .ok (.lor, 1) := by decide +kernel
theorem dX8_letter_28 : decode cX8_letter 28 = .ok (.lstore_n 1, 1) := by decide +kernel
theorem dX8_letter_29 : decode cX8_letter 29 = .ok (.iinc 3 1, 3) := by decide +kernel
theorem dX8_letter_32 : decode cX8_letter 32 = .ok (.goto (-28), 3) := by decide +kernel
theorem dX8_letter_35 : decode cX8_letter 35 = .ok (.lload_n 1, 1) := by decide +kernel
theorem dX8_letter_36 : decode cX8_letter 36 = .ok (.lreturn, 1) := by decide +kernel
theorem dX8_works_0 : decode cX8_works 0 = .ok (.aload_n 0, 1) := by decide +kernel
theorem dX8_works_1 : decode cX8_works 1 = .ok (.getfield 103, 3) := by decide +kernel
theorem dX8_works_4 : decode cX8_works 4 = .ok (.ifCond .le 120, 3) := by decide +kernel
theorem dX8_works_7 : decode cX8_works 7 = .ok (.aload_n 0, 1) := by decide +kernel
theorem dX8_works_8 : decode cX8_works 8 = .ok (.getfield 29, 3) := by decide +kernel
theorem dX8_works_11 : decode cX8_works 11 = .ok (.aload_n 0, 1) := by decide +kernel
theorem dX8_works_12 : decode cX8_works 12 = .ok (.getfield 103, 3) := by decide +kernel
theorem dX8_works_15 : decode cX8_works 15 = .ok (.iconst 1, 1) := by decide +kernel
theorem dX8_works_16 : decode cX8_works 16 = .ok (.isub, 1) := by decide +kernel
theorem dX8_works_17 : decode cX8_works 17 = .ok (.iaload, 1) := by decide +kernel
theorem dX8_works_18 : decode cX8_works 18 = .ok (.iload_n 1, 1) := by decide +kernel
theorem dX8_works_19 : decode cX8_works 19 = .ok (.if_icmp .lt 105, 3) := by decide +kernel
theorem dX8_works_22 : decode cX8_works 22 = .ok (.aload_n 0, 1) := by decide +kernel
theorem dX8_works_23 : decode cX8_works 23 = .ok (.getfield 29, 3) := by decide +kernel
theorem dX8_works_26 : decode cX8_works 26 = .ok (.aload_n 0, 1) := by decide +kernel
theorem dX8_works_27 : decode cX8_works 27 = .ok (.getfield 103, 3) := by decide +kernel
theorem dX8_works_30 : decode cX8_works 30 = .ok (.iconst 1, 1) := by decide +kernel
theorem dX8_works_31 : decode cX8_works 31 = .ok (.isub, 1) := by decide +kernel
theorem dX8_works_32 : decode cX8_works 32 = .ok (.iaload, 1) := by decide +kernel
theorem dX8_works_33 : decode cX8_works 33 = .ok (.bipush 22, 2) := by decide +kernel
theorem dX8_works_35 : decode cX8_works 35 = .ok (.if_icmp .ge 89, 3) := by decide +kernel
theorem dX8_works_38 : decode cX8_works 38 = .ok (.aload_n 0, 1) := by decide +kernel
theorem dX8_works_39 : decode cX8_works 39 = .ok (.getfield 26, 3) := by decide +kernel
theorem dX8_works_42 : decode cX8_works 42 = .ok (.aload_n 0, 1) := by decide +kernel
theorem dX8_works_43 : decode cX8_works 43 = .ok (.getfield 106, 3) := by decide +kernel
theorem dX8_works_46 : decode cX8_works 46 = .ok (.iconst 2, 1) := by decide +kernel
theorem dX8_works_47 : decode cX8_works 47 = .ok (.isub, 1) := by decide +kernel
theorem dX8_works_48 : decode cX8_works 48 = .ok (.laload, 1) := by decide +kernel
theorem dX8_works_49 : decode cX8_works 49 = .ok (.lstore_n 2, 1) := by decide +kernel
theorem dX8_works_50 : decode cX8_works 50 = .ok (.aload_n 0, 1) := by decide +kernel
theorem dX8_works_51 : decode cX8_works 51 = .ok (.getfield 26, 3) := by decide +kernel
theorem dX8_works_54 : decode cX8_works 54 = .ok (.aload_n 0, 1) := by decide +kernel
theorem dX8_works_55 : decode cX8_works 55 = .ok (.getfield 106, 3) := by decide +kernel
theorem dX8_works_58 : decode cX8_works 58 = .ok (.iconst 1, 1) := by decide +kernel
theorem dX8_works_59 : decode cX8_works 59 = .ok (.isub, 1) := by decide +kernel
theorem dX8_works_60 : decode cX8_works 60 = .ok (.laload, 1) := by decide +kernel
theorem dX8_works_61 : decode cX8_works 61 = .ok (.lstore 4, 2) := by decide +kernel
theorem dX8_works_63 : decode cX8_works 63 = .ok (.aload_n 0, 1) := by decide +kernel
theorem dX8_works_64 : decode cX8_works 64 = .ok (.dup, 1) := by decide +kernel
theorem dX8_works_65 : decode cX8_works 65 = .ok (.getfield 106, 3) := by decide +kernel
theorem dX8_works_68 : decode cX8_works 68 = .ok (.iconst 1, 1) := by decide +kernel
theorem dX8_works_69 : decode cX8_works 69 = .ok (.isub, 1) := by decide +kernel
theorem dX8_works_70 : decode cX8_works 70 = .ok (.putfield 106, 3) := by decide +kernel
theorem dX8_works_73 : decode cX8_works 73 = .ok (.aload_n 0, 1) := by decide +kernel
theorem dX8_works_74 : decode cX8_works 74 = .ok (.getfield 26, 3) := by decide +kernel
theorem dX8_works_77 : decode cX8_works 77 = .ok (.aload_n 0, 1) := by decide +kernel
theorem dX8_works_78 : decode cX8_works 78 = .ok (.getfield 106, 3) := by decide +kernel
theorem dX8_works_81 : decode cX8_works 81 = .ok (.iconst 1, 1) := by decide +kernel
theorem dX8_works_82 : decode cX8_works 82 = .ok (.isub, 1) := by decide +kernel
theorem dX8_works_83 : decode cX8_works 83 = .ok (.aload_n 0, 1) := by decide +kernel
theorem dX8_works_84 : decode cX8_works 84 = .ok (.getfield 29, 3) := by decide +kernel
theorem dX8_works_87 : decode cX8_works 87 = .ok (.aload_n 0, 1) := by decide +kernel
theorem dX8_works_88 : decode cX8_works 88 = .ok (.getfield 103, 3) := by decide +kernel
theorem dX8_works_91 : decode cX8_works 91 = .ok (.iconst 1, 1) := by decide +kernel
theorem dX8_works_92 : decode cX8_works 92 = .ok (.isub, 1) := by decide +kernel
theorem dX8_works_93 : decode cX8_works 93 = .ok (.iaload, 1) := by decide +kernel
theorem dX8_works_94 : decode cX8_works 94 = .ok (.bipush 20, 2) := by decide +kernel
theorem dX8_works_96 : decode cX8_works 96 = .ok (.if_icmp .ne 10, 3) := by decide +kernel
theorem dX8_works_99 : decode cX8_works 99 = .ok (.lload_n 2, 1) := by decide +kernel
theorem dX8_works_100 : decode cX8_works 100 = .ok (.lload 4, 2) := by decide +kernel
theorem dX8_works_102 : decode cX8_works 102 = .ok (.lor, 1) := by decide +kernel
theorem dX8_works_103 : decode cX8_works 103 = .ok (.goto 7, 3) := by decide +kernel
theorem dX8_works_106 : decode cX8_works 106 = .ok (.lload_n 2, 1) := by decide +kernel
theorem dX8_works_107 : decode cX8_works 107 = .ok (.lload 4, 2) := by decide +kernel
theorem dX8_works_109 : decode cX8_works 109 = .ok (.land, 1) := by decide +kernel
theorem dX8_works_110 : decode cX8_works 110 = .ok (.lastore, 1) := by decide +kernel
theorem dX8_works_111 : decode cX8_works 111 = .ok (.aload_n 0, 1) := by decide +kernel
theorem dX8_works_112 : decode cX8_works 112 = .ok (.dup, 1) := by decide +kernel
theorem dX8_works_113 : decode cX8_works 113 = .ok (.getfield 103, 3) := by decide +kernel
theorem dX8_works_116 : decode cX8_works 116 = .ok (.iconst 1, 1) := by decide +kernel
theorem dX8_works_117 : decode cX8_works 117 = .ok (.isub, 1) := by decide +kernel
theorem dX8_works_118 : decode cX8_works 118 = .ok (.putfield 103, 3) := by decide +kernel
theorem dX8_works_121 : decode cX8_works 121 = .ok (.goto (-121), 3) := by decide +kernel
theorem dX8_works_124 : decode cX8_works 124 = .ok (.return_, 1) := by decide +kernel
theorem dX8_turns_0 : decode cX8_turns 0 = .ok (.aload_n 0, 1) := by decide +kernel
theorem dX8_turns_1 : decode cX8_turns 1 = .ok (.getfield 103, 3) := by decide +kernel
theorem dX8_turns_4 : decode cX8_turns 4 = .ok (.ifCond .le 68, 3) := by decide +kernel
theorem dX8_turns_7 : decode cX8_turns 7 = .ok (.aload_n 0, 1) := by decide +kernel
theorem dX8_turns_8 : decode cX8_turns 8 = .ok (.getfield 29, 3) := by decide +kernel
theorem dX8_turns_11 : decode cX8_turns 11 = .ok (.aload_n 0, 1) := by decide +kernel
theorem dX8_turns_12 : decode cX8_turns 12 = .ok (.getfield 103, 3) := by decide +kernel
theorem dX8_turns_15 : decode cX8_turns 15 = .ok (.iconst 1, 1) := by decide +kernel
theorem dX8_turns_16 : decode cX8_turns 16 = .ok (.isub, 1) := by decide +kernel
theorem dX8_turns_17 : decode cX8_turns 17 = .ok (.iaload, 1) := by decide +kernel
theorem dX8_turns_18 : decode cX8_turns 18 = .ok (.bipush 22, 2) := by decide +kernel
theorem dX8_turns_20 : decode cX8_turns 20 = .ok (.if_icmp .ne 52, 3) := by decide +kernel
theorem dX8_turns_23 : decode cX8_turns 23 = .ok (.aload_n 0, 1) := by decide +kernel
theorem dX8_turns_24 : decode cX8_turns 24 = .ok (.getfield 26, 3) := by decide +kernel
theorem dX8_turns_27 : decode cX8_turns 27 = .ok (.aload_n 0, 1) := by decide +kernel
theorem dX8_turns_28 : decode cX8_turns 28 = .ok (.getfield 106, 3) := by decide +kernel
theorem dX8_turns_31 : decode cX8_turns 31 = .ok (.iconst 1, 1) := by decide +kernel
theorem dX8_turns_32 : decode cX8_turns 32 = .ok (.isub, 1) := by decide +kernel
theorem dX8_turns_33 : decode cX8_turns 33 = .ok (.aload_n 0, 1) := by decide +kernel
theorem dX8_turns_34 : decode cX8_turns 34 = .ok (.getfield 26, 3) := by decide +kernel
theorem dX8_turns_37 : decode cX8_turns 37 = .ok (.aload_n 0, 1) := by decide +kernel
theorem dX8_turns_38 : decode cX8_turns 38 = .ok (.getfield 106, 3) := by decide +kernel
theorem dX8_turns_41 : decode cX8_turns 41 = .ok (.iconst 1, 1) := by decide +kernel
theorem dX8_turns_42 : decode cX8_turns 42 = .ok (.isub, 1) := by decide +kernel
theorem dX8_turns_43 : decode cX8_turns 43 = .ok (.laload, 1) := by decide +kernel
theorem dX8_turns_44 : decode cX8_turns 44 = .ok (.ldc2_w 38, 3) := by decide +kernel
theorem dX8_turns_47 : decode cX8_turns 47 = .ok (.lxor, 1) := by decide +kernel
theorem dX8_turns_48 : decode cX8_turns 48 = .ok (.lastore, 1) := by decide +kernel
theorem dX8_turns_49 : decode cX8_turns 49 = .ok (.aload_n 0, 1) := by decide +kernel
theorem dX8_turns_50 : decode cX8_turns 50 = .ok (.dup, 1) := by decide +kernel
theorem dX8_turns_51 : decode cX8_turns 51 = .ok (.getfield 103, 3) := by decide +kernel
theorem dX8_turns_54 : decode cX8_turns 54 = .ok (.iconst 1, 1) := by decide +kernel
theorem dX8_turns_55 : decode cX8_turns 55 = .ok (.isub, 1) := by decide +kernel
theorem dX8_turns_56 : decode cX8_turns 56 = .ok (.putfield 103, 3) := by decide +kernel
theorem dX8_turns_59 : decode cX8_turns 59 = .ok (.aload_n 0, 1) := by decide +kernel
theorem dX8_turns_60 : decode cX8_turns 60 = .ok (.dup, 1) := by decide +kernel
theorem dX8_turns_61 : decode cX8_turns 61 = .ok (.getfield 109, 3) := by decide +kernel
theorem dX8_turns_64 : decode cX8_turns 64 = .ok (.iconst 1, 1) := by decide +kernel
theorem dX8_turns_65 : decode cX8_turns 65 = .ok (.isub, 1) := by decide +kernel
theorem dX8_turns_66 : decode cX8_turns 66 = .ok (.putfield 109, 3) := by decide +kernel
theorem dX8_turns_69 : decode cX8_turns 69 = .ok (.goto (-69), 3) := by decide +kernel
theorem dX8_turns_72 : decode cX8_turns 72 = .ok (.return_, 1) := by decide +kernel
theorem dX8_isInner_0 : decode cX8_isInner 0 = .ok (.iconst 0, 1) := by decide +kernel
theorem dX8_isInner_1 : decode cX8_isInner 1 = .ok (.istore_n 1, 1) := by decide +kernel
theorem dX8_isInner_2 : decode cX8_isInner 2 = .ok (.iconst 0, 1) := by decide +kernel
theorem dX8_isInner_3 : decode cX8_isInner 3 = .ok (.istore_n 2, 1) := by decide +kernel
theorem dX8_isInner_4 : decode cX8_isInner 4 = .ok (.iload_n 2, 1) := by decide +kernel
theorem dX8_isInner_5 : decode cX8_isInner 5 = .ok (.aload_n 0, 1) := by decide +kernel
theorem dX8_isInner_6 : decode cX8_isInner 6 = .ok (.getfield 103, 3) := by decide +kernel
theorem dX8_isInner_9 : decode cX8_isInner 9 = .ok (.if_icmp .ge 30, 3) := by decide +kernel
theorem dX8_isInner_12 : decode cX8_isInner 12 = .ok (.iload_n 1, 1) := by decide +kernel
theorem dX8_isInner_13 : decode cX8_isInner 13 = .ok (.ifCond .ne 14, 3) := by decide +kernel
theorem dX8_isInner_16 : decode cX8_isInner 16 = .ok (.aload_n 0, 1) := by decide +kernel
theorem dX8_isInner_17 : decode cX8_isInner 17 = .ok (.getfield 29, 3) := by decide +kernel
theorem dX8_isInner_20 : decode cX8_isInner 20 = .ok (.iload_n 2, 1) := by decide +kernel
theorem dX8_isInner_21 : decode cX8_isInner 21 = .ok (.iaload, 1) := by decide +kernel
theorem dX8_isInner_22 : decode cX8_isInner 22 = .ok (.bipush 23, 2) := by decide +kernel
theorem dX8_isInner_24 : decode cX8_isInner 24 = .ok (.if_icmp .ne 7, 3) := by decide +kernel
theorem dX8_isInner_27 : decode cX8_isInner 27 = .ok (.iconst 1, 1) := by decide +kernel
theorem dX8_isInner_28 : decode cX8_isInner 28 = .ok (.goto 4, 3) := by decide +kernel
theorem dX8_isInner_31 : decode cX8_isInner 31 = .ok (.iconst 0, 1) := by decide +kernel
theorem dX8_isInner_32 : decode cX8_isInner 32 = .ok (.istore_n 1, 1) := by decide +kernel
theorem dX8_isInner_33 : decode cX8_isInner 33 = .ok (.iinc 2 1, 3) := by decide +kernel
theorem dX8_isInner_36 : decode cX8_isInner 36 = .ok (.goto (-32), 3) := by decide +kernel
theorem dX8_isInner_39 : decode cX8_isInner 39 = .ok (.iload_n 1, 1) := by decide +kernel
theorem dX8_isInner_40 : decode cX8_isInner 40 = .ok (.ireturn, 1) := by decide +kernel
set_option maxRecDepth 20000 in
theorem ggX8_isOne_X8_in : GoodIn wsX8_isOne wsX8_in := goodIn_r _ [7] (by decide +kernel) (by decide +kernel)
set_option maxRecDepth 20000 in
theorem gX8_isOne_X8_in : GoodIn wsX8_isOne (va_wsS RX8 55 yX8_in wsX8_in) := goodIn_app (goodIn_of _ (by decide +kernel)) ggX8_isOne_X8_in
theorem dX8_isOne_0 : decode cX8_isOne 0 = .ok (.aload_n 0, 1) := by decide +kernel
theorem dX8_isOne_1 : decode cX8_isOne 1 = .ok (.getfield 89, 3) := by decide +kernel
theorem dX8_isOne_4 : decode cX8_isOne 4 = .ok (.i2l, 1) := by decide +kernel
theorem dX8_isOne_5 : decode cX8_isOne 5 = .ok (.ldc2_w 112, 3) := by decide +kernel
theorem dX8_isOne_8 : decode cX8_isOne 8 = .ok (.ldc2_w 114, 3) := by decide +kernel
theorem dX8_isOne_11 : decode cX8_isOne 11 = .ok (.invokestatic 55, 3) := by decide +kernel
theorem dX8_isOne_14 : decode cX8_isOne 14 = .ok (.ifCond .ne 21, 3) := by decide +kernel
theorem dX8_isOne_17 : decode cX8_isOne 17 = .ok (.aload_n 0, 1) := by decide +kernel
theorem dX8_isOne_18 : decode cX8_isOne 18 = .ok (.getfield 89, 3) := by decide +kernel
theorem dX8_isOne_21 : decode cX8_isOne 21 = .ok (.bipush 17, 2) := by decide +kernel
theorem dX8_isOne_23 : decode cX8_isOne 23 = .ok (.if_icmp .eq 12, 3) := by decide +kernel
theorem dX8_isOne_26 : decode cX8_isOne 26 = .ok (.aload_n 0, 1) := by decide +kernel
theorem dX8_isOne_27 : decode cX8_isOne 27 = .ok (.getfield 89, 3) := by decide +kernel
theorem dX8_isOne_30 : decode cX8_isOne 30 = .ok (.bipush 18, 2) := by decide +kernel
theorem dX8_isOne_32 : decode cX8_isOne 32 = .ok (.if_icmp .ne 7, 3) := by decide +kernel
theorem dX8_isOne_35 : decode cX8_isOne 35 = .ok (.iconst 1, 1) := by decide +kernel
theorem dX8_isOne_36 : decode cX8_isOne 36 = .ok (.goto 4, 3) := by decide +kernel
theorem dX8_isOne_39 : decode cX8_isOne 39 = .ok (.iconst 0, 1) := by decide +kernel
theorem dX8_isOne_40 : decode cX8_isOne 40 = .ok (.ireturn, 1) := by decide +kernel
set_option maxRecDepth 20000 in
theorem ggX8_says_X8_isOne : GoodIn wsX8_says wsX8_isOne := goodIn_r _ [13, 4, 14, 15, 16, 17, 12, 18, 61, 62, 63, 64, 65, 66, 67, 68, 69, 70, 71, 72, 73, 74, 75, 76, 77, 78, 79, 80, 81] (by decide +kernel) (by decide +kernel)
set_option maxRecDepth 20000 in
theorem gX8_says_X8_isOne : GoodIn wsX8_says (wsV RX8 116 RX8 yX8_isOne wsX8_isOne) := goodIn_app (goodIn_of _ (by decide +kernel)) ggX8_says_X8_isOne
set_option maxRecDepth 20000 in
theorem ggX8_says_X8_letter : GoodIn wsX8_says wsX8_letter := goodIn_r _ [21] (by decide +kernel) (by decide +kernel)
set_option maxRecDepth 20000 in
theorem gX8_says_X8_letter : GoodIn wsX8_says (va_wsS RX8 120 yX8_letter wsX8_letter) := goodIn_app (goodIn_of _ (by decide +kernel)) ggX8_says_X8_letter
set_option maxRecDepth 20000 in
theorem ggX8_says_X8_turns : GoodIn wsX8_says wsX8_turns := goodIn_r _ [25, 2, 5, 6, 1, 7, 3, 61, 62, 63, 64, 65, 66, 67, 68, 69, 70, 71, 72, 73, 74, 75, 76, 77, 78, 79, 80, 81] (by decide +kernel) (by decide +kernel)
set_option maxRecDepth 20000 in
theorem gX8_says_X8_turns : GoodIn wsX8_says (wsV RX8 124 RX8 yX8_turns wsX8_turns) := goodIn_app (goodIn_of _ (by decide +kernel)) ggX8_says_X8_turns
set_option maxRecDepth 20000 in
theorem ggX8_says_X8_works : GoodIn wsX8_says wsX8_works := goodIn_r _ [29, 2, 5, 6, 1, 61, 62, 63, 64, 65, 66, 67, 68, 69, 70, 71, 72, 73, 74, 75, 76, 77, 78, 79, 80, 81] (by decide +kernel) (by decide +kernel)
set_option maxRecDepth 20000 in
theorem gX8_says_X8_works : GoodIn wsX8_says (wsV RX8 127 RX8 yX8_works wsX8_works) := goodIn_app (goodIn_of _ (by decide +kernel)) ggX8_says_X8_works
set_option maxRecDepth 20000 in
theorem ggX8_says_X8_isInner : GoodIn wsX8_says wsX8_isInner := goodIn_r _ [33, 2, 5, 61, 62, 63, 64, 65, 66, 67, 68, 69, 70, 71, 72, 73, 74, 75, 76, 77, 78, 79, 80, 81] (by decide +kernel) (by decide +kernel)
set_option maxRecDepth 20000 in
theorem gX8_says_X8_isInner : GoodIn wsX8_says (wsV RX8 131 RX8 yX8_isInner wsX8_isInner) := goodIn_app (goodIn_of _ (by decide +kernel)) ggX8_says_X8_isInner
set_option maxRecDepth 20000 in
theorem ggX8_says_X8_scans : GoodIn wsX8_says wsX8_scans := goodIn_r _ [37, 38, 39, 40, 41, 4, 42, 43, 12, 44, 45, 46, 16, 17, 18, 47, 48, 49, 50, 51, 52, 53, 54, 55, 56, 57, 58, 59, 60, 61, 62, 63, 64, 65, 66, 67, 68, 69, 70, 71, 72, 73, 74, 75, 76, 77, 78, 79, 80, 81] (by decide +kernel) (by decide +kernel)
set_option maxRecDepth 20000 in
theorem gX8_says_X8_scans : GoodIn wsX8_says (wsV RX8 137 RX8 yX8_scans wsX8_scans) := goodIn_app (goodIn_of _ (by decide +kernel)) ggX8_says_X8_scans
theorem dX8_says_0 : decode cX8_says 0 = .ok (.aload_n 0, 1) := by decide +kernel
theorem dX8_says_1 : decode cX8_says 1 = .ok (.iconst 0, 1) := by decide +kernel
theorem dX8_says_2 : decode cX8_says 2 = .ok (.putfield 106, 3) := by decide +kernel
theorem dX8_says_5 : decode cX8_says 5 = .ok (.aload_n 0, 1) := by decide +kernel
theorem dX8_says_6 : decode cX8_says 6 = .ok (.iconst 0, 1) := by decide +kernel
theorem dX8_says_7 : decode cX8_says 7 = .ok (.putfield 103, 3) := by decide +kernel
theorem dX8_says_10 : decode cX8_says 10 = .ok (.aload_n 0, 1) := by decide +kernel
theorem dX8_says_11 : decode cX8_says 11 = .ok (.iconst 0, 1) := by decide +kernel
theorem dX8_says_12 : decode cX8_says 12 = .ok (.putfield 109, 3) := by decide +kernel
theorem dX8_says_15 : decode cX8_says 15 = .ok (.iconst 1, 1) := by decide +kernel
theorem dX8_says_16 : decode cX8_says 16 = .ok (.istore_n 1, 1) := by decide +kernel
theorem dX8_says_17 : decode cX8_says 17 = .ok (.iload_n 1, 1) := by decide +kernel
theorem dX8_says_18 : decode cX8_says 18 = .ok (.ifCond .eq 143, 3) := by decide +kernel
theorem dX8_says_21 : decode cX8_says 21 = .ok (.aload_n 0, 1) := by decide +kernel
theorem dX8_says_22 : decode cX8_says 22 = .ok (.getfield 89, 3) := by decide +kernel
theorem dX8_says_25 : decode cX8_says 25 = .ok (.bipush 22, 2) := by decide +kernel
theorem dX8_says_27 : decode cX8_says 27 = .ok (.if_icmp .eq 12, 3) := by decide +kernel
theorem dX8_says_30 : decode cX8_says 30 = .ok (.aload_n 0, 1) := by decide +kernel
theorem dX8_says_31 : decode cX8_says 31 = .ok (.getfield 89, 3) := by decide +kernel
theorem dX8_says_34 : decode cX8_says 34 = .ok (.bipush 23, 2) := by decide +kernel
theorem dX8_says_36 : decode cX8_says 36 = .ok (.if_icmp .ne 50, 3) := by decide +kernel
theorem dX8_says_39 : decode cX8_says 39 = .ok (.aload_n 0, 1) := by decide +kernel
theorem dX8_says_40 : decode cX8_says 40 = .ok (.getfield 109, 3) := by decide +kernel
theorem dX8_says_43 : decode cX8_says 43 = .ok (.bipush 8, 2) := by decide +kernel
theorem dX8_says_45 : decode cX8_says 45 = .ok (.if_icmp .ne 5, 3) := by decide +kernel
theorem dX8_says_48 : decode cX8_says 48 = .ok (.iconst 0, 1) := by decide +kernel
theorem dX8_says_49 : decode cX8_says 49 = .ok (.ireturn, 1) := by decide +kernel
theorem dX8_says_50 : decode cX8_says 50 = .ok (.aload_n 0, 1) := by decide +kernel
theorem dX8_says_51 : decode cX8_says 51 = .ok (.dup, 1) := by decide +kernel
theorem dX8_says_52 : decode cX8_says 52 = .ok (.getfield 109, 3) := by decide +kernel
theorem dX8_says_55 : decode cX8_says 55 = .ok (.iconst 1, 1) := by decide +kernel
theorem dX8_says_56 : decode cX8_says 56 = .ok (.iadd, 1) := by decide +kernel
theorem dX8_says_57 : decode cX8_says 57 = .ok (.putfield 109, 3) := by decide +kernel
theorem dX8_says_60 : decode cX8_says 60 = .ok (.aload_n 0, 1) := by decide +kernel
theorem dX8_says_61 : decode cX8_says 61 = .ok (.getfield 29, 3) := by decide +kernel
theorem dX8_says_64 : decode cX8_says 64 = .ok (.aload_n 0, 1) := by decide +kernel
theorem dX8_says_65 : decode cX8_says 65 = .ok (.getfield 103, 3) := by decide +kernel
theorem dX8_says_68 : decode cX8_says 68 = .ok (.aload_n 0, 1) := by decide +kernel
theorem dX8_says_69 : decode cX8_says 69 = .ok (.getfield 89, 3) := by decide +kernel
theorem dX8_says_72 : decode cX8_says 72 = .ok (.iastore, 1) := by decide +kernel
theorem dX8_says_73 : decode cX8_says 73 = .ok (.aload_n 0, 1) := by decide +kernel
theorem dX8_says_74 : decode cX8_says 74 = .ok (.dup, 1) := by decide +kernel
theorem dX8_says_75 : decode cX8_says 75 = .ok (.getfield 103, 3) := by decide +kernel
theorem dX8_says_78 : decode cX8_says 78 = .ok (.iconst 1, 1) := by decide +kernel
theorem dX8_says_79 : decode cX8_says 79 = .ok (.iadd, 1) := by decide +kernel
theorem dX8_says_80 : decode cX8_says 80 = .ok (.putfield 103, 3) := by decide +kernel
theorem dX8_says_83 : decode cX8_says 83 = .ok (.goto 208, 3) := by decide +kernel
theorem dX8_says_86 : decode cX8_says 86 = .ok (.aload_n 0, 1) := by decide +kernel
theorem dX8_says_87 : decode cX8_says 87 = .ok (.invokevirtual 116, 3) := by decide +kernel
theorem dX8_says_90 : decode cX8_says 90 = .ok (.ifCond .eq 69, 3) := by decide +kernel
theorem dX8_says_93 : decode cX8_says 93 = .ok (.aload_n 0, 1) := by decide +kernel
theorem dX8_says_94 : decode cX8_says 94 = .ok (.getfield 26, 3) := by decide +kernel
theorem dX8_says_97 : decode cX8_says 97 = .ok (.aload_n 0, 1) := by decide +kernel
theorem dX8_says_98 : decode cX8_says 98 = .ok (.getfield 106, 3) := by decide +kernel
theorem dX8_says_101 : decode cX8_says 101 = .ok (.aload_n 0, 1) := by decide +kernel
theorem dX8_says_102 : decode cX8_says 102 = .ok (.getfield 89, 3) := by decide +kernel
theorem dX8_says_105 : decode cX8_says 105 = .ok (.bipush 17, 2) := by decide +kernel
theorem dX8_says_107 : decode cX8_says 107 = .ok (.if_icmp .ne 7, 3) := by decide +kernel
theorem dX8_says_110 : decode cX8_says 110 = .ok (.lconst 0, 1) := by decide +kernel
theorem dX8_says_111 : decode cX8_says 111 = .ok (.goto 28, 3) := by decide +kernel
theorem dX8_says_114 : decode cX8_says 114 = .ok (.aload_n 0, 1) := by decide +kernel
theorem dX8_says_115 : decode cX8_says 115 = .ok (.getfield 89, 3) := by decide +kernel
theorem dX8_says_118 : decode cX8_says 118 = .ok (.bipush 18, 2) := by decide +kernel
theorem dX8_says_120 : decode cX8_says 120 = .ok (.if_icmp .ne 9, 3) := by decide +kernel
theorem dX8_says_123 : decode cX8_says 123 = .ok (.ldc2_w 38, 3) := by decide +kernel
theorem dX8_says_126 : decode cX8_says 126 = .ok (.goto 13, 3) := by decide +kernel
theorem dX8_says_129 : decode cX8_says 129 = .ok (.aload_n 0, 1) := by decide +kernel
theorem dX8_says_130 : decode cX8_says 130 = .ok (.getfield 89, 3) := by decide +kernel
theorem dX8_says_133 : decode cX8_says 133 = .ok (.bipush 10, 2) := by decide +kernel
theorem dX8_says_135 : decode cX8_says 135 = .ok (.isub, 1) := by decide +kernel
theorem dX8_says_136 : decode cX8_says 136 = .ok (.invokestatic 120, 3) := by decide +kernel
theorem dX8_says_139 : decode cX8_says 139 = .ok (.lastore, 1) := by decide +kernel
theorem dX8_says_140 : decode cX8_says 140 = .ok (.aload_n 0, 1) := by decide +kernel
theorem dX8_says_141 : decode cX8_says 141 = .ok (.dup, 1) := by decide +kernel
theorem dX8_says_142 : decode cX8_says 142 = .ok (.getfield 106, 3) := by decide +kernel
theorem dX8_says_145 : decode cX8_says 145 = .ok (.iconst 1, 1) := by decide +kernel
theorem dX8_says_146 : decode cX8_says 146 = .ok (.iadd, 1) := by decide +kernel
theorem dX8_says_147 : decode cX8_says 147 = .ok (.putfield 106, 3) := by decide +kernel
theorem dX8_says_150 : decode cX8_says 150 = .ok (.aload_n 0, 1) := by decide +kernel
theorem dX8_says_151 : decode cX8_says 151 = .ok (.invokevirtual 124, 3) := by decide +kernel
theorem dX8_says_154 : decode cX8_says 154 = .ok (.iconst 0, 1) := by decide +kernel
theorem dX8_says_155 : decode cX8_says 155 = .ok (.istore_n 1, 1) := by decide +kernel
theorem dX8_says_156 : decode cX8_says 156 = .ok (.goto 135, 3) := by decide +kernel
theorem dX8_says_159 : decode cX8_says 159 = .ok (.iconst 0, 1) := by decide +kernel
theorem dX8_says_160 : decode cX8_says 160 = .ok (.ireturn, 1) := by decide +kernel
theorem dX8_says_161 : decode cX8_says 161 = .ok (.aload_n 0, 1) := by decide +kernel
theorem dX8_says_162 : decode cX8_says 162 = .ok (.getfield 89, 3) := by decide +kernel
theorem dX8_says_165 : decode cX8_says 165 = .ok (.bipush 21, 2) := by decide +kernel
theorem dX8_says_167 : decode cX8_says 167 = .ok (.if_icmp .eq 12, 3) := by decide +kernel
theorem dX8_says_170 : decode cX8_says 170 = .ok (.aload_n 0, 1) := by decide +kernel
theorem dX8_says_171 : decode cX8_says 171 = .ok (.getfield 89, 3) := by decide +kernel
theorem dX8_says_174 : decode cX8_says 174 = .ok (.bipush 20, 2) := by decide +kernel
theorem dX8_says_176 : decode cX8_says 176 = .ok (.if_icmp .ne 39, 3) := by decide +kernel
theorem dX8_says_179 : decode cX8_says 179 = .ok (.aload_n 0, 1) := by decide +kernel
theorem dX8_says_180 : decode cX8_says 180 = .ok (.aload_n 0, 1) := by decide +kernel
theorem dX8_says_181 : decode cX8_says 181 = .ok (.getfield 89, 3) := by decide +kernel
theorem dX8_says_184 : decode cX8_says 184 = .ok (.invokevirtual 127, 3) := by decide +kernel
theorem dX8_says_187 : decode cX8_says 187 = .ok (.aload_n 0, 1) := by decide +kernel
theorem dX8_says_188 : decode cX8_says 188 = .ok (.getfield 29, 3) := by decide +kernel
theorem dX8_says_191 : decode cX8_says 191 = .ok (.aload_n 0, 1) := by decide +kernel
theorem dX8_says_192 : decode cX8_says 192 = .ok (.getfield 103, 3) := by decide +kernel
theorem dX8_says_195 : decode cX8_says 195 = .ok (.aload_n 0, 1) := by decide +kernel
theorem dX8_says_196 : decode cX8_says 196 = .ok (.getfield 89, 3) := by decide +kernel
theorem dX8_says_199 : decode cX8_says 199 = .ok (.iastore, 1) := by decide +kernel
theorem dX8_says_200 : decode cX8_says 200 = .ok (.aload_n 0, 1) := by decide +kernel
theorem dX8_says_201 : decode cX8_says 201 = .ok (.dup, 1) := by decide +kernel
theorem dX8_says_202 : decode cX8_says 202 = .ok (.getfield 103, 3) := by decide +kernel
theorem dX8_says_205 : decode cX8_says 205 = .ok (.iconst 1, 1) := by decide +kernel
theorem dX8_says_206 : decode cX8_says 206 = .ok (.iadd, 1) := by decide +kernel
theorem dX8_says_207 : decode cX8_says 207 = .ok (.putfield 103, 3) := by decide +kernel
theorem dX8_says_210 : decode cX8_says 210 = .ok (.iconst 1, 1) := by decide +kernel
theorem dX8_says_211 : decode cX8_says 211 = .ok (.istore_n 1, 1) := by decide +kernel
theorem dX8_says_212 : decode cX8_says 212 = .ok (.goto 79, 3) := by decide +kernel
theorem dX8_says_215 : decode cX8_says 215 = .ok (.aload_n 0, 1) := by decide +kernel
theorem dX8_says_216 : decode cX8_says 216 = .ok (.getfield 89, 3) := by decide +kernel
theorem dX8_says_219 : decode cX8_says 219 = .ok (.bipush 24, 2) := by decide +kernel
theorem dX8_says_221 : decode cX8_says 221 = .ok (.if_icmp .ne 43, 3) := by decide +kernel
theorem dX8_says_224 : decode cX8_says 224 = .ok (.aload_n 0, 1) := by decide +kernel
theorem dX8_says_225 : decode cX8_says 225 = .ok (.invokevirtual 131, 3) := by decide +kernel
theorem dX8_says_228 : decode cX8_says 228 = .ok (.ifCond .eq 36, 3) := by decide +kernel
theorem dX8_says_231 : decode cX8_says 231 = .ok (.aload_n 0, 1) := by decide +kernel
theorem dX8_says_232 : decode cX8_says 232 = .ok (.bipush 20, 2) := by decide +kernel
theorem dX8_says_234 : decode cX8_says 234 = .ok (.invokevirtual 127, 3) := by decide +kernel
theorem dX8_says_237 : decode cX8_says 237 = .ok (.aload_n 0, 1) := by decide +kernel
theorem dX8_says_238 : decode cX8_says 238 = .ok (.dup, 1) := by decide +kernel
theorem dX8_says_239 : decode cX8_says 239 = .ok (.getfield 103, 3) := by decide +kernel
theorem dX8_says_242 : decode cX8_says 242 = .ok (.iconst 1, 1) := by decide +kernel
theorem dX8_says_243 : decode cX8_says 243 = .ok (.isub, 1) := by decide +kernel
theorem dX8_says_244 : decode cX8_says 244 = .ok (.putfield 103, 3) := by decide +kernel
theorem dX8_says_247 : decode cX8_says 247 = .ok (.aload_n 0, 1) := by decide +kernel
theorem dX8_says_248 : decode cX8_says 248 = .ok (.dup, 1) := by decide +kernel
theorem dX8_says_249 : decode cX8_says 249 = .ok (.getfield 109, 3) := by decide +kernel
theorem dX8_says_252 : decode cX8_says 252 = .ok (.iconst 1, 1) := by decide +kernel
theorem dX8_says_253 : decode cX8_says 253 = .ok (.isub, 1) := by decide +kernel
theorem dX8_says_254 : decode cX8_says 254 = .ok (.putfield 109, 3) := by decide +kernel
theorem dX8_says_257 : decode cX8_says 257 = .ok (.aload_n 0, 1) := by decide +kernel
theorem dX8_says_258 : decode cX8_says 258 = .ok (.invokevirtual 124, 3) := by decide +kernel
theorem dX8_says_261 : decode cX8_says 261 = .ok (.goto 30, 3) := by decide +kernel
theorem dX8_says_264 : decode cX8_says 264 = .ok (.aload_n 0, 1) := by decide +kernel
theorem dX8_says_265 : decode cX8_says 265 = .ok (.invokevirtual 131, 3) := by decide +kernel
theorem dX8_says_268 : decode cX8_says 268 = .ok (.ifCond .eq 5, 3) := by decide +kernel
theorem dX8_says_271 : decode cX8_says 271 = .ok (.iconst 0, 1) := by decide +kernel
theorem dX8_says_272 : decode cX8_says 272 = .ok (.ireturn, 1) := by decide +kernel
theorem dX8_says_273 : decode cX8_says 273 = .ok (.aload_n 0, 1) := by decide +kernel
theorem dX8_says_274 : decode cX8_says 274 = .ok (.bipush 20, 2) := by decide +kernel
theorem dX8_says_276 : decode cX8_says 276 = .ok (.invokevirtual 127, 3) := by decide +kernel
theorem dX8_says_279 : decode cX8_says 279 = .ok (.aload_n 0, 1) := by decide +kernel
theorem dX8_says_280 : decode cX8_says 280 = .ok (.aload_n 0, 1) := by decide +kernel
theorem dX8_says_281 : decode cX8_says 281 = .ok (.getfield 26, 3) := by decide +kernel
theorem dX8_says_284 : decode cX8_says 284 = .ok (.iconst 0, 1) := by decide +kernel
theorem dX8_says_285 : decode cX8_says 285 = .ok (.laload, 1) := by decide +kernel
theorem dX8_says_286 : decode cX8_says 286 = .ok (.putfield 134, 3) := by decide +kernel
theorem dX8_says_289 : decode cX8_says 289 = .ok (.iconst 1, 1) := by decide +kernel
theorem dX8_says_290 : decode cX8_says 290 = .ok (.ireturn, 1) := by decide +kernel
theorem dX8_says_291 : decode cX8_says 291 = .ok (.aload_n 0, 1) := by decide +kernel
theorem dX8_says_292 : decode cX8_says 292 = .ok (.invokevirtual 137, 3) := by decide +kernel
theorem dX8_says_295 : decode cX8_says 295 = .ok (.goto (-278), 3) := by decide +kernel
theorem dX8_sortOf_0 : decode cX8_sortOf 0 = .ok (.iload_n 0, 1) := by decide +kernel
theorem dX8_sortOf_1 : decode cX8_sortOf 1 = .ok (.iconst 2, 1) := by decide +kernel
theorem dX8_sortOf_2 : decode cX8_sortOf 2 = .ok (.if_icmp .ne 7, 3) := by decide +kernel
theorem dX8_sortOf_5 : decode cX8_sortOf 5 = .ok (.iconst 0, 1) := by decide +kernel
theorem dX8_sortOf_6 : decode cX8_sortOf 6 = .ok (.goto 33, 3) := by decide +kernel
theorem dX8_sortOf_9 : decode cX8_sortOf 9 = .ok (.iload_n 0, 1) := by decide +kernel
theorem dX8_sortOf_10 : decode cX8_sortOf 10 = .ok (.iconst 3, 1) := by decide +kernel
theorem dX8_sortOf_11 : decode cX8_sortOf 11 = .ok (.if_icmp .ne 7, 3) := by decide +kernel
theorem dX8_sortOf_14 : decode cX8_sortOf 14 = .ok (.iconst 1, 1) := by decide +kernel
theorem dX8_sortOf_15 : decode cX8_sortOf 15 = .ok (.goto 24, 3) := by decide +kernel
theorem dX8_sortOf_18 : decode cX8_sortOf 18 = .ok (.iload_n 0, 1) := by decide +kernel
theorem dX8_sortOf_19 : decode cX8_sortOf 19 = .ok (.iconst 5, 1) := by decide +kernel
theorem dX8_sortOf_20 : decode cX8_sortOf 20 = .ok (.if_icmp .ne 7, 3) := by decide +kernel
theorem dX8_sortOf_23 : decode cX8_sortOf 23 = .ok (.iconst 3, 1) := by decide +kernel
theorem dX8_sortOf_24 : decode cX8_sortOf 24 = .ok (.goto 15, 3) := by decide +kernel
theorem dX8_sortOf_27 : decode cX8_sortOf 27 = .ok (.iload_n 0, 1) := by decide +kernel
theorem dX8_sortOf_28 : decode cX8_sortOf 28 = .ok (.bipush 6, 2) := by decide +kernel
theorem dX8_sortOf_30 : decode cX8_sortOf 30 = .ok (.if_icmp .ne 7, 3) := by decide +kernel
theorem dX8_sortOf_33 : decode cX8_sortOf 33 = .ok (.iconst 4, 1) := by decide +kernel
theorem dX8_sortOf_34 : decode cX8_sortOf 34 = .ok (.goto 5, 3) := by decide +kernel
theorem dX8_sortOf_37 : decode cX8_sortOf 37 = .ok (.bipush (-9), 2) := by decide +kernel
theorem dX8_sortOf_39 : decode cX8_sortOf 39 = .ok (.ireturn, 1) := by decide +kernel
theorem dX8_mostOf_0 : decode cX8_mostOf 0 = .ok (.iload_n 0, 1) := by decide +kernel
theorem dX8_mostOf_1 : decode cX8_mostOf 1 = .ok (.iconst 1, 1) := by decide +kernel
theorem dX8_mostOf_2 : decode cX8_mostOf 2 = .ok (.if_icmp .ne 8, 3) := by decide +kernel
theorem dX8_mostOf_5 : decode cX8_mostOf 5 = .ok (.bipush 8, 2) := by decide +kernel
theorem dX8_mostOf_7 : decode cX8_mostOf 7 = .ok (.goto 14, 3) := by decide +kernel
theorem dX8_mostOf_10 : decode cX8_mostOf 10 = .ok (.iload_n 0, 1) := by decide +kernel
theorem dX8_mostOf_11 : decode cX8_mostOf 11 = .ok (.iconst 4, 1) := by decide +kernel
theorem dX8_mostOf_12 : decode cX8_mostOf 12 = .ok (.if_icmp .ne 8, 3) := by decide +kernel
theorem dX8_mostOf_15 : decode cX8_mostOf 15 = .ok (.bipush 6, 2) := by decide +kernel
theorem dX8_mostOf_17 : decode cX8_mostOf 17 = .ok (.goto 4, 3) := by decide +kernel
theorem dX8_mostOf_20 : decode cX8_mostOf 20 = .ok (.iconst 4, 1) := by decide +kernel
theorem dX8_mostOf_21 : decode cX8_mostOf 21 = .ok (.ireturn, 1) := by decide +kernel
set_option maxRecDepth 20000 in
theorem ggX8_rules_X8_says : GoodIn wsX8_rules wsX8_says := goodIn_r _ [8, 9, 10, 11, 3, 12, 13, 14, 2, 15, 16, 17, 7, 18, 19, 20, 21, 22, 23, 24, 25, 26, 27, 28, 29, 30, 31, 32, 33, 34, 35, 36, 37, 38, 39, 40, 41, 42, 43, 44, 45, 46, 47, 48, 49, 50, 51, 52, 53, 54, 55, 56, 57, 58, 59, 60, 61, 62, 63, 64, 65, 66, 67, 68, 69, 70, 71, 72, 73, 74, 75, 76, 77, 78, 79, 80, 81, 82, 83, 84, 85, 86] (by decide +kernel) (by decide +kernel)
set_option maxRecDepth 20000 in
theorem gX8_rules_X8_says : GoodIn wsX8_rules (wsV RX8 140 RX8 yX8_says wsX8_says) := goodIn_app (goodIn_of _ (by decide +kernel)) ggX8_rules_X8_says
set_option maxRecDepth 20000 in
theorem ggX8_rules_X8_scans : GoodIn wsX8_rules wsX8_scans := goodIn_r _ [42, 43, 44, 45, 46, 3, 47, 48, 7, 49, 50, 51, 21, 22, 23, 52, 53, 54, 55, 56, 57, 58, 59, 60, 61, 62, 63, 64, 65, 66, 67, 68, 69, 70, 71, 72, 73, 74, 75, 76, 77, 78, 79, 80, 81, 82, 83, 84, 85, 86] (by decide +kernel) (by decide +kernel)
set_option maxRecDepth 20000 in
theorem gX8_rules_X8_scans : GoodIn wsX8_rules (wsV RX8 137 RX8 yX8_scans wsX8_scans) := goodIn_app (goodIn_of _ (by decide +kernel)) ggX8_rules_X8_scans
theorem dX8_rules_0 : decode cX8_rules 0 = .ok (.aload_n 0, 1) := by decide +kernel
theorem dX8_rules_1 : decode cX8_rules 1 = .ok (.invokevirtual 140, 3) := by decide +kernel
theorem dX8_rules_4 : decode cX8_rules 4 = .ok (.ifCond .ne 5, 3) := by decide +kernel
theorem dX8_rules_7 : decode cX8_rules 7 = .ok (.iconst 0, 1) := by decide +kernel
theorem dX8_rules_8 : decode cX8_rules 8 = .ok (.ireturn, 1) := by decide +kernel
theorem dX8_rules_9 : decode cX8_rules 9 = .ok (.aload_n 0, 1) := by decide +kernel
theorem dX8_rules_10 : decode cX8_rules 10 = .ok (.getfield 32, 3) := by decide +kernel
theorem dX8_rules_13 : decode cX8_rules 13 = .ok (.bipush 9, 2) := by decide +kernel
theorem dX8_rules_15 : decode cX8_rules 15 = .ok (.iload_n 1, 1) := by decide +kernel
theorem dX8_rules_16 : decode cX8_rules 16 = .ok (.iadd, 1) := by decide +kernel
theorem dX8_rules_17 : decode cX8_rules 17 = .ok (.aload_n 0, 1) := by decide +kernel
theorem dX8_rules_18 : decode cX8_rules 18 = .ok (.getfield 134, 3) := by decide +kernel
theorem dX8_rules_21 : decode cX8_rules 21 = .ok (.lastore, 1) := by decide +kernel
theorem dX8_rules_22 : decode cX8_rules 22 = .ok (.aload_n 0, 1) := by decide +kernel
theorem dX8_rules_23 : decode cX8_rules 23 = .ok (.getfield 89, 3) := by decide +kernel
theorem dX8_rules_26 : decode cX8_rules 26 = .ok (.iconst 4, 1) := by decide +kernel
theorem dX8_rules_27 : decode cX8_rules 27 = .ok (.if_icmp .eq 5, 3) := by decide +kernel
theorem dX8_rules_30 : decode cX8_rules 30 = .ok (.iconst 0, 1) := by decide +kernel
theorem dX8_rules_31 : decode cX8_rules 31 = .ok (.ireturn, 1) := by decide +kernel
theorem dX8_rules_32 : decode cX8_rules 32 = .ok (.aload_n 0, 1) := by decide +kernel
theorem dX8_rules_33 : decode cX8_rules 33 = .ok (.invokevirtual 137, 3) := by decide +kernel
theorem dX8_rules_36 : decode cX8_rules 36 = .ok (.aload_n 0, 1) := by decide +kernel
theorem dX8_rules_37 : decode cX8_rules 37 = .ok (.invokevirtual 140, 3) := by decide +kernel
theorem dX8_rules_40 : decode cX8_rules 40 = .ok (.ifCond .ne 5, 3) := by decide +kernel
theorem dX8_rules_43 : decode cX8_rules 43 = .ok (.iconst 0, 1) := by decide +kernel
theorem dX8_rules_44 : decode cX8_rules 44 = .ok (.ireturn, 1) := by decide +kernel
theorem dX8_rules_45 : decode cX8_rules 45 = .ok (.aload_n 0, 1) := by decide +kernel
theorem dX8_rules_46 : decode cX8_rules 46 = .ok (.getfield 32, 3) := by decide +kernel
theorem dX8_rules_49 : decode cX8_rules 49 = .ok (.bipush 18, 2) := by decide +kernel
theorem dX8_rules_51 : decode cX8_rules 51 = .ok (.iload_n 1, 1) := by decide +kernel
theorem dX8_rules_52 : decode cX8_rules 52 = .ok (.iadd, 1) := by decide +kernel
theorem dX8_rules_53 : decode cX8_rules 53 = .ok (.aload_n 0, 1) := by decide +kernel
theorem dX8_rules_54 : decode cX8_rules 54 = .ok (.getfield 134, 3) := by decide +kernel
theorem dX8_rules_57 : decode cX8_rules 57 = .ok (.lastore, 1) := by decide +kernel
theorem dX8_rules_58 : decode cX8_rules 58 = .ok (.iconst 1, 1) := by decide +kernel
theorem dX8_rules_59 : decode cX8_rules 59 = .ok (.ireturn, 1) := by decide +kernel
set_option maxRecDepth 20000 in
theorem ggX8_item_X8_sortOf : GoodIn wsX8_item wsX8_sortOf := goodIn_r _ [8] (by decide +kernel) (by decide +kernel)
set_option maxRecDepth 20000 in
theorem gX8_item_X8_sortOf : GoodIn wsX8_item (va_wsS RX8 143 yX8_sortOf wsX8_sortOf) := goodIn_app (goodIn_of _ (by decide +kernel)) ggX8_item_X8_sortOf
set_option maxRecDepth 20000 in
theorem ggX8_item_X8_mostOf : GoodIn wsX8_item wsX8_mostOf := goodIn_r _ [11] (by decide +kernel) (by decide +kernel)
set_option maxRecDepth 20000 in
theorem gX8_item_X8_mostOf : GoodIn wsX8_item (va_wsS RX8 146 yX8_mostOf wsX8_mostOf) := goodIn_app (goodIn_of _ (by decide +kernel)) ggX8_item_X8_mostOf
set_option maxRecDepth 20000 in
theorem ggX8_item_X8_scans : GoodIn wsX8_item wsX8_scans := goodIn_r _ [15, 16, 17, 18, 19, 1, 20, 21, 7, 22, 23, 24, 25, 26, 27, 28, 29, 30, 31, 32, 33, 34, 35, 36, 37, 38, 39, 40, 41, 77, 78, 79, 80, 81, 82, 83, 84, 85, 86, 87, 88, 89, 90, 91, 92, 93, 94, 95, 96, 97] (by decide +kernel) (by decide +kernel)
set_option maxRecDepth 20000 in
theorem gX8_item_X8_scans : GoodIn wsX8_item (wsV RX8 137 RX8 yX8_scans wsX8_scans) := goodIn_app (goodIn_of _ (by decide +kernel)) ggX8_item_X8_scans
set_option maxRecDepth 20000 in
theorem ggX8_item_X8_rules : GoodIn wsX8_item wsX8_rules := goodIn_r _ [45, 3, 4, 1, 46, 47, 48, 7, 49, 50, 51, 52, 53, 54, 55, 56, 57, 58, 59, 60, 61, 25, 26, 27, 62, 63, 64, 65, 66, 67, 68, 69, 70, 71, 72, 73, 74, 75, 76, 12, 13, 14, 15, 16, 17, 18, 19, 20, 21, 22, 23, 24, 28, 29, 30, 31, 32, 33, 34, 35, 36, 37, 38, 39, 40, 41, 77, 78, 79, 80, 81, 82, 83, 84, 85, 86, 87, 88, 89, 90, 91, 92, 93, 94, 95, 96, 97] (by decide +kernel) (by decide +kernel)
set_option maxRecDepth 20000 in
theorem gX8_item_X8_rules : GoodIn wsX8_item (wsV RX8 149 RX8 yX8_rules wsX8_rules) := goodIn_app (goodIn_of _ (by decide +kernel)) ggX8_item_X8_rules
set_option maxRecDepth 20000 in
theorem ggX8_item_X8_says : GoodIn wsX8_item wsX8_says := goodIn_r _ [49, 50, 51, 52, 1, 53, 54, 55, 4, 56, 57, 58, 7, 59, 60, 61, 25, 26, 27, 62, 63, 64, 65, 66, 67, 68, 69, 70, 71, 72, 73, 74, 75, 76, 12, 13, 14, 15, 16, 17, 18, 19, 20, 21, 22, 23, 24, 28, 29, 30, 31, 32, 33, 34, 35, 36, 37, 38, 39, 40, 41, 77, 78, 79, 80, 81, 82, 83, 84, 85, 86, 87, 88, 89, 90, 91, 92, 93, 94, 95, 96, 97] (by decide +kernel) (by decide +kernel)
set_option maxRecDepth 20000 in
theorem gX8_item_X8_says : GoodIn wsX8_item (wsV RX8 140 RX8 yX8_says wsX8_says) := goodIn_app (goodIn_of _ (by decide +kernel)) ggX8_item_X8_says
theorem dX8_item_0 : decode cX8_item 0 = .ok (.aload_n 0, 1) := by decide +kernel
theorem dX8_item_1 : decode cX8_item 1 = .ok (.getfield 89, 3) := by decide +kernel
theorem dX8_item_4 : decode cX8_item 4 = .ok (.invokestatic 143, 3) := by decide +kernel
theorem dX8_item_7 : decode cX8_item 7 = .ok (.istore_n 1, 1) := by decide +kernel
theorem dX8_item_8 : decode cX8_item 8 = .ok (.iload_n 1, 1) := by decide +kernel
theorem dX8_item_9 : decode cX8_item 9 = .ok (.ifCond .lt 16, 3) := by decide +kernel
theorem dX8_item_12 : decode cX8_item 12 = .ok (.aload_n 0, 1) := by decide +kernel
theorem dX8_item_13 : decode cX8_item 13 = .ok (.getfield 35, 3) := by decide +kernel
theorem dX8_item_16 : decode cX8_item 16 = .ok (.iload_n 1, 1) := by decide +kernel
theorem dX8_item_17 : decode cX8_item 17 = .ok (.iaload, 1) := by decide +kernel
theorem dX8_item_18 : decode cX8_item 18 = .ok (.iload_n 1, 1) := by decide +kernel
theorem dX8_item_19 : decode cX8_item 19 = .ok (.invokestatic 146, 3) := by decide +kernel
theorem dX8_item_22 : decode cX8_item 22 = .ok (.if_icmp .ne 5, 3) := by decide +kernel
theorem dX8_item_25 : decode cX8_item 25 = .ok (.iconst 0, 1) := by decide +kernel
theorem dX8_item_26 : decode cX8_item 26 = .ok (.ireturn, 1) := by decide +kernel
theorem dX8_item_27 : decode cX8_item 27 = .ok (.aload_n 0, 1) := by decide +kernel
theorem dX8_item_28 : decode cX8_item 28 = .ok (.getfield 35, 3) := by decide +kernel
theorem dX8_item_31 : decode cX8_item 31 = .ok (.iload_n 1, 1) := by decide +kernel
theorem dX8_item_32 : decode cX8_item 32 = .ok (.iaload, 1) := by decide +kernel
theorem dX8_item_33 : decode cX8_item 33 = .ok (.istore_n 2, 1) := by decide +kernel
theorem dX8_item_34 : decode cX8_item 34 = .ok (.aload_n 0, 1) := by decide +kernel
theorem dX8_item_35 : decode cX8_item 35 = .ok (.invokevirtual 137, 3) := by decide +kernel
theorem dX8_item_38 : decode cX8_item 38 = .ok (.iload_n 1, 1) := by decide +kernel
theorem dX8_item_39 : decode cX8_item 39 = .ok (.iconst 1, 1) := by decide +kernel
theorem dX8_item_40 : decode cX8_item 40 = .ok (.if_icmp .ne 13, 3) := by decide +kernel
theorem dX8_item_43 : decode cX8_item 43 = .ok (.aload_n 0, 1) := by decide +kernel
theorem dX8_item_44 : decode cX8_item 44 = .ok (.iload_n 2, 1) := by decide +kernel
theorem dX8_item_45 : decode cX8_item 45 = .ok (.invokevirtual 149, 3) := by decide +kernel
theorem dX8_item_48 : decode cX8_item 48 = .ok (.ifCond .ne 29, 3) := by decide +kernel
theorem dX8_item_51 : decode cX8_item 51 = .ok (.iconst 0, 1) := by decide +kernel
theorem dX8_item_52 : decode cX8_item 52 = .ok (.ireturn, 1) := by decide +kernel
theorem dX8_item_53 : decode cX8_item 53 = .ok (.aload_n 0, 1) := by decide +kernel
theorem dX8_item_54 : decode cX8_item 54 = .ok (.invokevirtual 140, 3) := by decide +kernel
theorem dX8_item_57 : decode cX8_item 57 = .ok (.ifCond .ne 5, 3) := by decide +kernel
theorem dX8_item_60 : decode cX8_item 60 = .ok (.iconst 0, 1) := by decide +kernel
theorem dX8_item_61 : decode cX8_item 61 = .ok (.ireturn, 1) := by decide +kernel
theorem dX8_item_62 : decode cX8_item 62 = .ok (.aload_n 0, 1) := by decide +kernel
theorem dX8_item_63 : decode cX8_item 63 = .ok (.getfield 32, 3) := by decide +kernel
theorem dX8_item_66 : decode cX8_item 66 = .ok (.bipush 9, 2) := by decide +kernel
theorem dX8_item_68 : decode cX8_item 68 = .ok (.iload_n 1, 1) := by decide +kernel
theorem dX8_item_69 : decode cX8_item 69 = .ok (.imul, 1) := by decide +kernel
theorem dX8_item_70 : decode cX8_item 70 = .ok (.iload_n 2, 1) := by decide +kernel
theorem dX8_item_71 : decode cX8_item 71 = .ok (.iadd, 1) := by decide +kernel
theorem dX8_item_72 : decode cX8_item 72 = .ok (.aload_n 0, 1) := by decide +kernel
theorem dX8_item_73 : decode cX8_item 73 = .ok (.getfield 134, 3) := by decide +kernel
theorem dX8_item_76 : decode cX8_item 76 = .ok (.lastore, 1) := by decide +kernel
theorem dX8_item_77 : decode cX8_item 77 = .ok (.aload_n 0, 1) := by decide +kernel
theorem dX8_item_78 : decode cX8_item 78 = .ok (.getfield 89, 3) := by decide +kernel
theorem dX8_item_81 : decode cX8_item 81 = .ok (.bipush 19, 2) := by decide +kernel
theorem dX8_item_83 : decode cX8_item 83 = .ok (.if_icmp .eq 5, 3) := by decide +kernel
theorem dX8_item_86 : decode cX8_item 86 = .ok (.iconst 0, 1) := by decide +kernel
theorem dX8_item_87 : decode cX8_item 87 = .ok (.ireturn, 1) := by decide +kernel
theorem dX8_item_88 : decode cX8_item 88 = .ok (.aload_n 0, 1) := by decide +kernel
theorem dX8_item_89 : decode cX8_item 89 = .ok (.getfield 35, 3) := by decide +kernel
theorem dX8_item_92 : decode cX8_item 92 = .ok (.iload_n 1, 1) := by decide +kernel
theorem dX8_item_93 : decode cX8_item 93 = .ok (.dup2, 1) := by decide +kernel
theorem dX8_item_94 : decode cX8_item 94 = .ok (.iaload, 1) := by decide +kernel
theorem dX8_item_95 : decode cX8_item 95 = .ok (.iconst 1, 1) := by decide +kernel
theorem dX8_item_96 : decode cX8_item 96 = .ok (.iadd, 1) := by decide +kernel
theorem dX8_item_97 : decode cX8_item 97 = .ok (.iastore, 1) := by decide +kernel
theorem dX8_item_98 : decode cX8_item 98 = .ok (.aload_n 0, 1) := by decide +kernel
theorem dX8_item_99 : decode cX8_item 99 = .ok (.invokevirtual 137, 3) := by decide +kernel
theorem dX8_item_102 : decode cX8_item 102 = .ok (.iconst 1, 1) := by decide +kernel
theorem dX8_item_103 : decode cX8_item 103 = .ok (.ireturn, 1) := by decide +kernel
set_option maxRecDepth 20000 in
theorem ggX8_tell_X8_scans : GoodIn wsX8_tell wsX8_scans := goodIn_r _ [13, 1, 8, 14, 4, 3, 15, 16, 12, 17, 18, 19, 20, 21, 22, 23, 24, 25, 26, 27, 28, 29, 30, 31, 32, 33, 34, 35, 36, 121, 122, 123, 124, 125, 126, 127, 128, 129, 130, 131, 132, 133, 134, 135, 136, 137, 138, 139, 140, 141] (by decide +kernel) (by decide +kernel)
set_option maxRecDepth 20000 in
theorem gX8_tell_X8_scans : GoodIn wsX8_tell (wsV RX8 137 RX8 yX8_scans wsX8_scans) := goodIn_app (goodIn_of _ (by decide +kernel)) ggX8_tell_X8_scans
set_option maxRecDepth 20000 in
theorem ggX8_tell_X8_item : GoodIn wsX8_tell wsX8_item := goodIn_r _ [40, 3, 2, 6, 41, 42, 43, 12, 44, 45, 46, 47, 9, 10, 11, 13, 1, 8, 14, 4, 15, 16, 17, 18, 19, 20, 21, 22, 23, 24, 25, 26, 27, 28, 29, 30, 31, 32, 33, 34, 35, 36, 48, 49, 50, 51, 52, 53, 54, 55, 56, 57, 58, 59, 60, 61, 62, 63, 64, 65, 66, 67, 68, 69, 70, 71, 72, 73, 74, 75, 76, 77, 78, 79, 80, 81, 82, 121, 122, 123, 124, 125, 126, 127, 128, 129, 130, 131, 132, 133, 134, 135, 136, 137, 138, 139, 140, 141] (by decide +kernel) (by decide +kernel)
set_option maxRecDepth 20000 in
theorem gX8_tell_X8_item : GoodIn wsX8_tell (wsV RX8 152 RX8 yX8_item wsX8_item) := goodIn_app (goodIn_of _ (by decide +kernel)) ggX8_tell_X8_item
set_option maxRecDepth 20000 in
theorem ggX8_tell_X8_rates : GoodIn wsX8_tell wsX8_rates := goodIn_r _ [86, 7, 87, 88, 89, 90, 12, 91, 92, 61, 5, 93, 94, 95, 96, 97, 98, 99, 100, 101, 102, 103, 104, 121, 122, 123, 124, 125, 126, 127, 128, 129, 130, 131, 132, 133, 134, 135, 136, 137, 138, 139, 140, 141] (by decide +kernel) (by decide +kernel)
set_option maxRecDepth 20000 in
theorem gX8_tell_X8_rates : GoodIn wsX8_tell (wsV RX8 47 RX8 yX8_rates wsX8_rates) := goodIn_app (goodIn_of _ (by decide +kernel)) ggX8_tell_X8_rates
set_option maxRecDepth 20000 in
theorem ggX8_tell_X8_forgets : GoodIn wsX8_tell wsX8_forgets := goodIn_r _ [108, 109, 110, 111, 112, 12, 113, 7, 93, 94, 95, 96, 97, 98, 99, 100, 61, 5, 114, 115, 116, 101, 102, 103, 104, 117, 118, 119, 120, 92, 121, 122, 123, 124, 125, 126, 127, 128, 129, 130, 131, 132, 133, 134, 135, 136, 137, 138, 139, 140, 141] (by decide +kernel) (by decide +kernel)
set_option maxRecDepth 20000 in
theorem gX8_tell_X8_forgets : GoodIn wsX8_tell (wsV RX8 50 RX8 yX8_forgets wsX8_forgets) := goodIn_app (goodIn_of _ (by decide +kernel)) ggX8_tell_X8_forgets
theorem dX8_tell_0 : decode cX8_tell 0 = .ok (.aload_n 0, 1) := by decide +kernel
theorem dX8_tell_1 : decode cX8_tell 1 = .ok (.iconst 0, 1) := by decide +kernel
theorem dX8_tell_2 : decode cX8_tell 2 = .ok (.putfield 86, 3) := by decide +kernel
theorem dX8_tell_5 : decode cX8_tell 5 = .ok (.iconst 0, 1) := by decide +kernel
theorem dX8_tell_6 : decode cX8_tell 6 = .ok (.istore_n 1, 1) := by decide +kernel
theorem dX8_tell_7 : decode cX8_tell 7 = .ok (.iload_n 1, 1) := by decide +kernel
theorem dX8_tell_8 : decode cX8_tell 8 = .ok (.iconst 5, 1) := by decide +kernel
theorem dX8_tell_9 : decode cX8_tell 9 = .ok (.if_icmp .ge 16, 3) := by decide +kernel
theorem dX8_tell_12 : decode cX8_tell 12 = .ok (.aload_n 0, 1) := by decide +kernel
theorem dX8_tell_13 : decode cX8_tell 13 = .ok (.getfield 35, 3) := by decide +kernel
theorem dX8_tell_16 : decode cX8_tell 16 = .ok (.iload_n 1, 1) := by decide +kernel
theorem dX8_tell_17 : decode cX8_tell 17 = .ok (.iconst 0, 1) := by decide +kernel
theorem dX8_tell_18 : decode cX8_tell 18 = .ok (.iastore, 1) := by decide +kernel
theorem dX8_tell_19 : decode cX8_tell 19 = .ok (.iinc 1 1, 3) := by decide +kernel
theorem dX8_tell_22 : decode cX8_tell 22 = .ok (.goto (-15), 3) := by decide +kernel
theorem dX8_tell_25 : decode cX8_tell 25 = .ok (.aload_n 0, 1) := by decide +kernel
theorem dX8_tell_26 : decode cX8_tell 26 = .ok (.invokevirtual 137, 3) := by decide +kernel
theorem dX8_tell_29 : decode cX8_tell 29 = .ok (.iconst 0, 1) := by decide +kernel
theorem dX8_tell_30 : decode cX8_tell 30 = .ok (.istore_n 1, 1) := by decide +kernel
theorem dX8_tell_31 : decode cX8_tell 31 = .ok (.aload_n 0, 1) := by decide +kernel
theorem dX8_tell_32 : decode cX8_tell 32 = .ok (.getfield 89, 3) := by decide +kernel
theorem dX8_tell_35 : decode cX8_tell 35 = .ok (.ifCond .eq 24, 3) := by decide +kernel
theorem dX8_tell_38 : decode cX8_tell 38 = .ok (.aload_n 0, 1) := by decide +kernel
theorem dX8_tell_39 : decode cX8_tell 39 = .ok (.invokevirtual 152, 3) := by decide +kernel
theorem dX8_tell_42 : decode cX8_tell 42 = .ok (.ifCond .ne 11, 3) := by decide +kernel
theorem dX8_tell_45 : decode cX8_tell 45 = .ok (.bipush (-10), 2) := by decide +kernel
theorem dX8_tell_47 : decode cX8_tell 47 = .ok (.aload_n 0, 1) := by decide +kernel
theorem dX8_tell_48 : decode cX8_tell 48 = .ok (.getfield 71, 3) := by decide +kernel
theorem dX8_tell_51 : decode cX8_tell 51 = .ok (.isub, 1) := by decide +kernel
theorem dX8_tell_52 : decode cX8_tell 52 = .ok (.ireturn, 1) := by decide +kernel
theorem dX8_tell_53 : decode cX8_tell 53 = .ok (.iinc 1 1, 3) := by decide +kernel
theorem dX8_tell_56 : decode cX8_tell 56 = .ok (.goto (-25), 3) := by decide +kernel
theorem dX8_tell_59 : decode cX8_tell 59 = .ok (.iconst 0, 1) := by decide +kernel
theorem dX8_tell_60 : decode cX8_tell 60 = .ok (.istore_n 2, 1) := by decide +kernel
theorem dX8_tell_61 : decode cX8_tell 61 = .ok (.iload_n 2, 1) := by decide +kernel
theorem dX8_tell_62 : decode cX8_tell 62 = .ok (.bipush 45, 2) := by decide +kernel
theorem dX8_tell_64 : decode cX8_tell 64 = .ok (.if_icmp .ge 21, 3) := by decide +kernel
theorem dX8_tell_67 : decode cX8_tell 67 = .ok (.aload_n 0, 1) := by decide +kernel
theorem dX8_tell_68 : decode cX8_tell 68 = .ok (.getfield 13, 3) := by decide +kernel
theorem dX8_tell_71 : decode cX8_tell 71 = .ok (.iload_n 2, 1) := by decide +kernel
theorem dX8_tell_72 : decode cX8_tell 72 = .ok (.aload_n 0, 1) := by decide +kernel
theorem dX8_tell_73 : decode cX8_tell 73 = .ok (.getfield 32, 3) := by decide +kernel
theorem dX8_tell_76 : decode cX8_tell 76 = .ok (.iload_n 2, 1) := by decide +kernel
theorem dX8_tell_77 : decode cX8_tell 77 = .ok (.laload, 1) := by decide +kernel
theorem dX8_tell_78 : decode cX8_tell 78 = .ok (.lastore, 1) := by decide +kernel
theorem dX8_tell_79 : decode cX8_tell 79 = .ok (.iinc 2 1, 3) := by decide +kernel
theorem dX8_tell_82 : decode cX8_tell 82 = .ok (.goto (-21), 3) := by decide +kernel
theorem dX8_tell_85 : decode cX8_tell 85 = .ok (.iconst 0, 1) := by decide +kernel
theorem dX8_tell_86 : decode cX8_tell 86 = .ok (.istore_n 2, 1) := by decide +kernel
theorem dX8_tell_87 : decode cX8_tell 87 = .ok (.iload_n 2, 1) := by decide +kernel
theorem dX8_tell_88 : decode cX8_tell 88 = .ok (.iconst 5, 1) := by decide +kernel
theorem dX8_tell_89 : decode cX8_tell 89 = .ok (.if_icmp .ge 21, 3) := by decide +kernel
theorem dX8_tell_92 : decode cX8_tell 92 = .ok (.aload_n 0, 1) := by decide +kernel
theorem dX8_tell_93 : decode cX8_tell 93 = .ok (.getfield 17, 3) := by decide +kernel
theorem dX8_tell_96 : decode cX8_tell 96 = .ok (.iload_n 2, 1) := by decide +kernel
theorem dX8_tell_97 : decode cX8_tell 97 = .ok (.aload_n 0, 1) := by decide +kernel
theorem dX8_tell_98 : decode cX8_tell 98 = .ok (.getfield 35, 3) := by decide +kernel
theorem dX8_tell_101 : decode cX8_tell 101 = .ok (.iload_n 2, 1) := by decide +kernel
theorem dX8_tell_102 : decode cX8_tell 102 = .ok (.iaload, 1) := by decide +kernel
theorem dX8_tell_103 : decode cX8_tell 103 = .ok (.iastore, 1) := by decide +kernel
theorem dX8_tell_104 : decode cX8_tell 104 = .ok (.iinc 2 1, 3) := by decide +kernel
theorem dX8_tell_107 : decode cX8_tell 107 = .ok (.goto (-20), 3) := by decide +kernel
theorem dX8_tell_110 : decode cX8_tell 110 = .ok (.aload_n 0, 1) := by decide +kernel
theorem dX8_tell_111 : decode cX8_tell 111 = .ok (.getfield 17, 3) := by decide +kernel
theorem dX8_tell_114 : decode cX8_tell 114 = .ok (.iconst 2, 1) := by decide +kernel
theorem dX8_tell_115 : decode cX8_tell 115 = .ok (.aload_n 0, 1) := by decide +kernel
theorem dX8_tell_116 : decode cX8_tell 116 = .ok (.getfield 17, 3) := by decide +kernel
theorem dX8_tell_119 : decode cX8_tell 119 = .ok (.iconst 1, 1) := by decide +kernel
theorem dX8_tell_120 : decode cX8_tell 120 = .ok (.iaload, 1) := by decide +kernel
theorem dX8_tell_121 : decode cX8_tell 121 = .ok (.iastore, 1) := by decide +kernel
theorem dX8_tell_122 : decode cX8_tell 122 = .ok (.aload_n 0, 1) := by decide +kernel
theorem dX8_tell_123 : decode cX8_tell 123 = .ok (.iconst 0, 1) := by decide +kernel
theorem dX8_tell_124 : decode cX8_tell 124 = .ok (.putfield 59, 3) := by decide +kernel
theorem dX8_tell_127 : decode cX8_tell 127 = .ok (.aload_n 0, 1) := by decide +kernel
theorem dX8_tell_128 : decode cX8_tell 128 = .ok (.invokevirtual 47, 3) := by decide +kernel
theorem dX8_tell_131 : decode cX8_tell 131 = .ok (.aload_n 0, 1) := by decide +kernel
theorem dX8_tell_132 : decode cX8_tell 132 = .ok (.invokevirtual 50, 3) := by decide +kernel
theorem dX8_tell_135 : decode cX8_tell 135 = .ok (.iload_n 1, 1) := by decide +kernel
theorem dX8_tell_136 : decode cX8_tell 136 = .ok (.ireturn, 1) := by decide +kernel
set_option maxRecDepth 20000 in
theorem ggX8_question_X8_scans : GoodIn wsX8_question wsX8_scans := goodIn_r _ [14, 1, 9, 15, 3, 2, 16, 17, 13, 18, 19, 20, 21, 22, 23, 24, 25, 26, 27, 28, 29, 30, 31, 32, 33, 34, 35, 36, 37, 72, 73, 74, 75, 76, 77, 78, 79, 80, 81, 82, 83, 84, 85, 86, 87, 88, 89, 90, 91, 92] (by decide +kernel) (by decide +kernel)
set_option maxRecDepth 20000 in
theorem gX8_question_X8_scans : GoodIn wsX8_question (wsV RX8 137 RX8 yX8_scans wsX8_scans) := goodIn_app (goodIn_of _ (by decide +kernel)) ggX8_question_X8_scans
set_option maxRecDepth 20000 in
theorem ggX8_question_X8_rules : GoodIn wsX8_question wsX8_rules := goodIn_r _ [41, 4, 7, 2, 42, 43, 44, 13, 45, 46, 47, 48, 49, 50, 5, 51, 52, 53, 54, 55, 56, 21, 22, 23, 57, 58, 59, 60, 61, 62, 63, 64, 65, 66, 67, 68, 69, 70, 71, 10, 11, 12, 14, 1, 9, 15, 3, 16, 17, 18, 19, 20, 24, 25, 26, 27, 28, 29, 30, 31, 32, 33, 34, 35, 36, 37, 72, 73, 74, 75, 76, 77, 78, 79, 80, 81, 82, 83, 84, 85, 86, 87, 88, 89, 90, 91, 92] (by decide +kernel) (by decide +kernel)
set_option maxRecDepth 20000 in
theorem gX8_question_X8_rules : GoodIn wsX8_question (wsV RX8 149 RX8 yX8_rules wsX8_rules) := goodIn_app (goodIn_of _ (by decide +kernel)) ggX8_question_X8_rules
set_option maxRecDepth 20000 in
theorem ggX8_question_X8_says : GoodIn wsX8_question wsX8_says := goodIn_r _ [45, 46, 47, 48, 2, 49, 50, 5, 7, 51, 52, 53, 13, 54, 55, 56, 21, 22, 23, 57, 58, 59, 60, 61, 62, 63, 64, 65, 66, 67, 68, 69, 70, 71, 10, 11, 12, 14, 1, 9, 15, 3, 16, 17, 18, 19, 20, 24, 25, 26, 27, 28, 29, 30, 31, 32, 33, 34, 35, 36, 37, 72, 73, 74, 75, 76, 77, 78, 79, 80, 81, 82, 83, 84, 85, 86, 87, 88, 89, 90, 91, 92] (by decide +kernel) (by decide +kernel)
set_option maxRecDepth 20000 in
theorem gX8_question_X8_says : GoodIn wsX8_question (wsV RX8 140 RX8 yX8_says wsX8_says) := goodIn_app (goodIn_of _ (by decide +kernel)) ggX8_question_X8_says
theorem dX8_question_0 : decode cX8_question 0 = .ok (.aload_n 0, 1) := by decide +kernel
theorem dX8_question_1 : decode cX8_question 1 = .ok (.iconst 0, 1) := by decide +kernel
theorem dX8_question_2 : decode cX8_question 2 = .ok (.putfield 86, 3) := by decide +kernel
theorem dX8_question_5 : decode cX8_question 5 = .ok (.aload_n 0, 1) := by decide +kernel
theorem dX8_question_6 : decode cX8_question 6 = .ok (.invokevirtual 137, 3) := by decide +kernel
theorem dX8_question_9 : decode cX8_question 9 = .ok (.aload_n 0, 1) := by decide +kernel
theorem dX8_question_10 : decode cX8_question 10 = .ok (.getfield 89, 3) := by decide +kernel
theorem dX8_question_13 : decode cX8_question 13 = .ok (.iconst 3, 1) := by decide +kernel
theorem dX8_question_14 : decode cX8_question 14 = .ok (.if_icmp .ne 7, 3) := by decide +kernel
theorem dX8_question_17 : decode cX8_question 17 = .ok (.iconst 1, 1) := by decide +kernel
theorem dX8_question_18 : decode cX8_question 18 = .ok (.goto 4, 3) := by decide +kernel
theorem dX8_question_21 : decode cX8_question 21 = .ok (.iconst 0, 1) := by decide +kernel
theorem dX8_question_22 : decode cX8_question 22 = .ok (.istore_n 1, 1) := by decide +kernel
theorem dX8_question_23 : decode cX8_question 23 = .ok (.iload_n 1, 1) := by decide +kernel
theorem dX8_question_24 : decode cX8_question 24 = .ok (.ifCond .eq 7, 3) := by decide +kernel
theorem dX8_question_27 : decode cX8_question 27 = .ok (.aload_n 0, 1) := by decide +kernel
theorem dX8_question_28 : decode cX8_question 28 = .ok (.invokevirtual 137, 3) := by decide +kernel
theorem dX8_question_31 : decode cX8_question 31 = .ok (.iload_n 1, 1) := by decide +kernel
theorem dX8_question_32 : decode cX8_question 32 = .ok (.ifCond .eq 12, 3) := by decide +kernel
theorem dX8_question_35 : decode cX8_question 35 = .ok (.aload_n 0, 1) := by decide +kernel
theorem dX8_question_36 : decode cX8_question 36 = .ok (.bipush 8, 2) := by decide +kernel
theorem dX8_question_38 : decode cX8_question 38 = .ok (.invokevirtual 149, 3) := by decide +kernel
theorem dX8_question_41 : decode cX8_question 41 = .ok (.goto 7, 3) := by decide +kernel
theorem dX8_question_44 : decode cX8_question 44 = .ok (.aload_n 0, 1) := by decide +kernel
theorem dX8_question_45 : decode cX8_question 45 = .ok (.invokevirtual 140, 3) := by decide +kernel
theorem dX8_question_48 : decode cX8_question 48 = .ok (.istore_n 2, 1) := by decide +kernel
theorem dX8_question_49 : decode cX8_question 49 = .ok (.iload_n 2, 1) := by decide +kernel
theorem dX8_question_50 : decode cX8_question 50 = .ok (.ifCond .eq 10, 3) := by decide +kernel
theorem dX8_question_53 : decode cX8_question 53 = .ok (.aload_n 0, 1) := by decide +kernel
theorem dX8_question_54 : decode cX8_question 54 = .ok (.getfield 89, 3) := by decide +kernel
theorem dX8_question_57 : decode cX8_question 57 = .ok (.ifCond .eq 11, 3) := by decide +kernel
theorem dX8_question_60 : decode cX8_question 60 = .ok (.bipush (-10), 2) := by decide +kernel
theorem dX8_question_62 : decode cX8_question 62 = .ok (.aload_n 0, 1) := by decide +kernel
theorem dX8_question_63 : decode cX8_question 63 = .ok (.getfield 71, 3) := by decide +kernel
theorem dX8_question_66 : decode cX8_question 66 = .ok (.isub, 1) := by decide +kernel
theorem dX8_question_67 : decode cX8_question 67 = .ok (.ireturn, 1) := by decide +kernel
theorem dX8_question_68 : decode cX8_question 68 = .ok (.aload_n 0, 1) := by decide +kernel
theorem dX8_question_69 : decode cX8_question 69 = .ok (.iload_n 1, 1) := by decide +kernel
theorem dX8_question_70 : decode cX8_question 70 = .ok (.ifCond .eq 13, 3) := by decide +kernel
theorem dX8_question_73 : decode cX8_question 73 = .ok (.aload_n 0, 1) := by decide +kernel
theorem dX8_question_74 : decode cX8_question 74 = .ok (.getfield 32, 3) := by decide +kernel
theorem dX8_question_77 : decode cX8_question 77 = .ok (.bipush 17, 2) := by decide +kernel
theorem dX8_question_79 : decode cX8_question 79 = .ok (.laload, 1) := by decide +kernel
theorem dX8_question_80 : decode cX8_question 80 = .ok (.goto 6, 3) := by decide +kernel
theorem dX8_question_83 : decode cX8_question 83 = .ok (.ldc2_w 38, 3) := by decide +kernel
theorem dX8_question_86 : decode cX8_question 86 = .ok (.putfield 40, 3) := by decide +kernel
theorem dX8_question_89 : decode cX8_question 89 = .ok (.aload_n 0, 1) := by decide +kernel
theorem dX8_question_90 : decode cX8_question 90 = .ok (.iload_n 1, 1) := by decide +kernel
theorem dX8_question_91 : decode cX8_question 91 = .ok (.ifCond .eq 13, 3) := by decide +kernel
theorem dX8_question_94 : decode cX8_question 94 = .ok (.aload_n 0, 1) := by decide +kernel
theorem dX8_question_95 : decode cX8_question 95 = .ok (.getfield 32, 3) := by decide +kernel
theorem dX8_question_98 : decode cX8_question 98 = .ok (.bipush 26, 2) := by decide +kernel
theorem dX8_question_100 : decode cX8_question 100 = .ok (.laload, 1) := by decide +kernel
theorem dX8_question_101 : decode cX8_question 101 = .ok (.goto 7, 3) := by decide +kernel
theorem dX8_question_104 : decode cX8_question 104 = .ok (.aload_n 0, 1) := by decide +kernel
theorem dX8_question_105 : decode cX8_question 105 = .ok (.getfield 134, 3) := by decide +kernel
theorem dX8_question_108 : decode cX8_question 108 = .ok (.putfield 44, 3) := by decide +kernel
theorem dX8_question_111 : decode cX8_question 111 = .ok (.aload_n 0, 1) := by decide +kernel
theorem dX8_question_112 : decode cX8_question 112 = .ok (.iconst 0, 1) := by decide +kernel
theorem dX8_question_113 : decode cX8_question 113 = .ok (.putfield 59, 3) := by decide +kernel
theorem dX8_question_116 : decode cX8_question 116 = .ok (.iconst 1, 1) := by decide +kernel
theorem dX8_question_117 : decode cX8_question 117 = .ok (.ireturn, 1) := by decide +kernel
set_option maxRecDepth 20000 in
theorem ggX8_worlds_X8_in : GoodIn wsX8_worlds wsX8_in := goodIn_r _ [9] (by decide +kernel) (by decide +kernel)
set_option maxRecDepth 20000 in
theorem gX8_worlds_X8_in : GoodIn wsX8_worlds (va_wsS RX8 55 yX8_in wsX8_in) := goodIn_app (goodIn_of _ (by decide +kernel)) ggX8_worlds_X8_in
theorem dX8_worlds_0 : decode cX8_worlds 0 = .ok (.iload_n 1, 1) := by decide +kernel
theorem dX8_worlds_1 : decode cX8_worlds 1 = .ok (.iconst 5, 1) := by decide +kernel
theorem dX8_worlds_2 : decode cX8_worlds 2 = .ok (.if_icmp .ne 29, 3) := by decide +kernel
theorem dX8_worlds_5 : decode cX8_worlds 5 = .ok (.iload_n 2, 1) := by decide +kernel
theorem dX8_worlds_6 : decode cX8_worlds 6 = .ok (.i2l, 1) := by decide +kernel
theorem dX8_worlds_7 : decode cX8_worlds 7 = .ok (.lconst 0, 1) := by decide +kernel
theorem dX8_worlds_8 : decode cX8_worlds 8 = .ok (.lconst 1, 1) := by decide +kernel
theorem dX8_worlds_9 : decode cX8_worlds 9 = .ok (.invokestatic 55, 3) := by decide +kernel
theorem dX8_worlds_12 : decode cX8_worlds 12 = .ok (.ifCond .eq 19, 3) := by decide +kernel
theorem dX8_worlds_15 : decode cX8_worlds 15 = .ok (.iload_n 2, 1) := by decide +kernel
theorem dX8_worlds_16 : decode cX8_worlds 16 = .ok (.ifCond .ne 10, 3) := by decide +kernel
theorem dX8_worlds_19 : decode cX8_worlds 19 = .ok (.aload_n 0, 1) := by decide +kernel
theorem dX8_worlds_20 : decode cX8_worlds 20 = .ok (.getfield 40, 3) := by decide +kernel
theorem dX8_worlds_23 : decode cX8_worlds 23 = .ok (.goto 7, 3) := by decide +kernel
theorem dX8_worlds_26 : decode cX8_worlds 26 = .ok (.aload_n 0, 1) := by decide +kernel
theorem dX8_worlds_27 : decode cX8_worlds 27 = .ok (.getfield 44, 3) := by decide +kernel
theorem dX8_worlds_30 : decode cX8_worlds 30 = .ok (.lreturn, 1) := by decide +kernel
theorem dX8_worlds_31 : decode cX8_worlds 31 = .ok (.iload_n 1, 1) := by decide +kernel
theorem dX8_worlds_32 : decode cX8_worlds 32 = .ok (.i2l, 1) := by decide +kernel
theorem dX8_worlds_33 : decode cX8_worlds 33 = .ok (.lconst 0, 1) := by decide +kernel
theorem dX8_worlds_34 : decode cX8_worlds 34 = .ok (.ldc2_w 155, 3) := by decide +kernel
theorem dX8_worlds_37 : decode cX8_worlds 37 = .ok (.invokestatic 55, 3) := by decide +kernel
theorem dX8_worlds_40 : decode cX8_worlds 40 = .ok (.ifCond .eq 35, 3) := by decide +kernel
theorem dX8_worlds_43 : decode cX8_worlds 43 = .ok (.iload_n 2, 1) := by decide +kernel
theorem dX8_worlds_44 : decode cX8_worlds 44 = .ok (.i2l, 1) := by decide +kernel
theorem dX8_worlds_45 : decode cX8_worlds 45 = .ok (.lconst 0, 1) := by decide +kernel
theorem dX8_worlds_46 : decode cX8_worlds 46 = .ok (.aload_n 0, 1) := by decide +kernel
theorem dX8_worlds_47 : decode cX8_worlds 47 = .ok (.getfield 17, 3) := by decide +kernel
theorem dX8_worlds_50 : decode cX8_worlds 50 = .ok (.iload_n 1, 1) := by decide +kernel
theorem dX8_worlds_51 : decode cX8_worlds 51 = .ok (.iaload, 1) := by decide +kernel
theorem dX8_worlds_52 : decode cX8_worlds 52 = .ok (.iconst 1, 1) := by decide +kernel
theorem dX8_worlds_53 : decode cX8_worlds 53 = .ok (.isub, 1) := by decide +kernel
theorem dX8_worlds_54 : decode cX8_worlds 54 = .ok (.i2l, 1) := by decide +kernel
theorem dX8_worlds_55 : decode cX8_worlds 55 = .ok (.invokestatic 55, 3) := by decide +kernel
theorem dX8_worlds_58 : decode cX8_worlds 58 = .ok (.ifCond .eq 17, 3) := by decide +kernel
theorem dX8_worlds_61 : decode cX8_worlds 61 = .ok (.aload_n 0, 1) := by decide +kernel
theorem dX8_worlds_62 : decode cX8_worlds 62 = .ok (.getfield 13, 3) := by decide +kernel
theorem dX8_worlds_65 : decode cX8_worlds 65 = .ok (.bipush 9, 2) := by decide +kernel
theorem dX8_worlds_67 : decode cX8_worlds 67 = .ok (.iload_n 1, 1) := by decide +kernel
theorem dX8_worlds_68 : decode cX8_worlds 68 = .ok (.imul, 1) := by decide +kernel
theorem dX8_worlds_69 : decode cX8_worlds 69 = .ok (.iload_n 2, 1) := by decide +kernel
theorem dX8_worlds_70 : decode cX8_worlds 70 = .ok (.iadd, 1) := by decide +kernel
theorem dX8_worlds_71 : decode cX8_worlds 71 = .ok (.laload, 1) := by decide +kernel
theorem dX8_worlds_72 : decode cX8_worlds 72 = .ok (.goto 4, 3) := by decide +kernel
theorem dX8_worlds_75 : decode cX8_worlds 75 = .ok (.lconst 0, 1) := by decide +kernel
theorem dX8_worlds_76 : decode cX8_worlds 76 = .ok (.lreturn, 1) := by decide +kernel
theorem dX8_allOf_0 : decode cX8_allOf 0 = .ok (.ldc2_w 38, 3) := by decide +kernel
theorem dX8_allOf_3 : decode cX8_allOf 3 = .ok (.lstore_n 2, 1) := by decide +kernel
theorem dX8_allOf_4 : decode cX8_allOf 4 = .ok (.iconst 0, 1) := by decide +kernel
theorem dX8_allOf_5 : decode cX8_allOf 5 = .ok (.istore 4, 2) := by decide +kernel
theorem dX8_allOf_7 : decode cX8_allOf 7 = .ok (.iload 4, 2) := by decide +kernel
theorem dX8_allOf_9 : decode cX8_allOf 9 = .ok (.aload_n 0, 1) := by decide +kernel
theorem dX8_allOf_10 : decode cX8_allOf 10 = .ok (.getfield 17, 3) := by decide +kernel
theorem dX8_allOf_13 : decode cX8_allOf 13 = .ok (.iload_n 1, 1) := by decide +kernel
theorem dX8_allOf_14 : decode cX8_allOf 14 = .ok (.iaload, 1) := by decide +kernel
theorem dX8_allOf_15 : decode cX8_allOf 15 = .ok (.if_icmp .ge 24, 3) := by decide +kernel
theorem dX8_allOf_18 : decode cX8_allOf 18 = .ok (.lload_n 2, 1) := by decide +kernel
theorem dX8_allOf_19 : decode cX8_allOf 19 = .ok (.aload_n 0, 1) := by decide +kernel
theorem dX8_allOf_20 : decode cX8_allOf 20 = .ok (.getfield 13, 3) := by decide +kernel
theorem dX8_allOf_23 : decode cX8_allOf 23 = .ok (.bipush 9, 2) := by decide +kernel
theorem dX8_allOf_25 : decode cX8_allOf 25 = .ok (.iload_n 1, 1) := by decide +kernel
theorem dX8_allOf_26 : decode cX8_allOf 26 = .ok (.imul, 1) := by decide +kernel
theorem dX8_allOf_27 : decode cX8_allOf 27 = .ok (.iload 4, 2) := by decide +kernel
theorem dX8_allOf_29 : decode cX8_allOf 29 = .ok (.iadd, 1) := by decide +kernel
theorem dX8_allOf_30 : decode cX8_allOf 30 = .ok (.laload, 1) := by decide +kernel
theorem dX8_allOf_31 : decode cX8_allOf 31 = .ok (.land, 1) := by decide +kernel
theorem dX8_allOf_32 : decode cX8_allOf 32 = .ok (.lstore_n 2, 1) := by decide +kernel
theorem dX8_allOf_33 : decode cX8_allOf 33 = .ok (.iinc 4 1, 3) := by decide +kernel
theorem dX8_allOf_36 : decode cX8_allOf 36 = .ok (.goto (-29), 3) := by decide +kernel
theorem dX8_allOf_39 : decode cX8_allOf 39 = .ok (.lload_n 2, 1) := by decide +kernel
theorem dX8_allOf_40 : decode cX8_allOf 40 = .ok (.lreturn, 1) := by decide +kernel
set_option maxRecDepth 20000 in
theorem ggX8_thereNow_X8_allOf : GoodIn wsX8_thereNow wsX8_allOf := goodIn_r _ [5, 6, 7, 8, 9, 10, 11, 12, 13, 14, 15, 16, 17, 18, 19, 20, 21, 22, 23, 24, 25, 26, 27, 28, 29] (by decide +kernel) (by decide +kernel)
set_option maxRecDepth 20000 in
theorem gX8_thereNow_X8_allOf : GoodIn wsX8_thereNow (wsV RX8 157 RX8 yX8_allOf wsX8_allOf) := goodIn_app (goodIn_of _ (by decide +kernel)) ggX8_thereNow_X8_allOf
theorem dX8_thereNow_0 : decode cX8_thereNow 0 = .ok (.aload_n 0, 1) := by decide +kernel
theorem dX8_thereNow_1 : decode cX8_thereNow 1 = .ok (.iconst 0, 1) := by decide +kernel
theorem dX8_thereNow_2 : decode cX8_thereNow 2 = .ok (.invokevirtual 157, 3) := by decide +kernel
theorem dX8_thereNow_5 : decode cX8_thereNow 5 = .ok (.lreturn, 1) := by decide +kernel
set_option maxRecDepth 20000 in
theorem ggX8_groundNow_X8_thereNow : GoodIn wsX8_groundNow wsX8_thereNow := goodIn_r _ [5, 6, 7, 8, 4, 9, 10, 11, 12, 13, 14, 15, 16, 17, 18, 19, 20, 21, 22, 23, 24, 25, 26, 27, 28, 29, 30, 31, 32, 33] (by decide +kernel) (by decide +kernel)
set_option maxRecDepth 20000 in
theorem gX8_groundNow_X8_thereNow : GoodIn wsX8_groundNow (wsV RX8 160 RX8 yX8_thereNow wsX8_thereNow) := goodIn_app (goodIn_of _ (by decide +kernel)) ggX8_groundNow_X8_thereNow
set_option maxRecDepth 20000 in
theorem ggX8_groundNow_X8_allOf : GoodIn wsX8_groundNow wsX8_allOf := goodIn_r _ [9, 10, 11, 12, 13, 14, 15, 16, 17, 18, 19, 20, 21, 22, 23, 24, 25, 26, 27, 28, 29, 30, 31, 32, 33] (by decide +kernel) (by decide +kernel)
set_option maxRecDepth 20000 in
theorem gX8_groundNow_X8_allOf : GoodIn wsX8_groundNow (wsV RX8 157 RX8 yX8_allOf wsX8_allOf) := goodIn_app (goodIn_of _ (by decide +kernel)) ggX8_groundNow_X8_allOf
theorem dX8_groundNow_0 : decode cX8_groundNow 0 = .ok (.aload_n 0, 1) := by decide +kernel
theorem dX8_groundNow_1 : decode cX8_groundNow 1 = .ok (.invokevirtual 160, 3) := by decide +kernel
theorem dX8_groundNow_4 : decode cX8_groundNow 4 = .ok (.aload_n 0, 1) := by decide +kernel
theorem dX8_groundNow_5 : decode cX8_groundNow 5 = .ok (.iconst 3, 1) := by decide +kernel
theorem dX8_groundNow_6 : decode cX8_groundNow 6 = .ok (.invokevirtual 157, 3) := by decide +kernel
theorem dX8_groundNow_9 : decode cX8_groundNow 9 = .ok (.land, 1) := by decide +kernel
theorem dX8_groundNow_10 : decode cX8_groundNow 10 = .ok (.lreturn, 1) := by decide +kernel
theorem dX8_broken_0 : decode cX8_broken 0 = .ok (.aload_n 0, 1) := by decide +kernel
theorem dX8_broken_1 : decode cX8_broken 1 = .ok (.getfield 13, 3) := by decide +kernel
theorem dX8_broken_4 : decode cX8_broken 4 = .ok (.bipush 9, 2) := by decide +kernel
theorem dX8_broken_6 : decode cX8_broken 6 = .ok (.iload_n 1, 1) := by decide +kernel
theorem dX8_broken_7 : decode cX8_broken 7 = .ok (.iadd, 1) := by decide +kernel
theorem dX8_broken_8 : decode cX8_broken 8 = .ok (.laload, 1) := by decide +kernel
theorem dX8_broken_9 : decode cX8_broken 9 = .ok (.aload_n 0, 1) := by decide +kernel
theorem dX8_broken_10 : decode cX8_broken 10 = .ok (.getfield 13, 3) := by decide +kernel
theorem dX8_broken_13 : decode cX8_broken 13 = .ok (.bipush 18, 2) := by decide +kernel
theorem dX8_broken_15 : decode cX8_broken 15 = .ok (.iload_n 1, 1) := by decide +kernel
theorem dX8_broken_16 : decode cX8_broken 16 = .ok (.iadd, 1) := by decide +kernel
theorem dX8_broken_17 : decode cX8_broken 17 = .ok (.laload, 1) := by decide +kernel
theorem dX8_broken_18 : decode cX8_broken 18 = .ok (.ldc2_w 38, 3) := by decide +kernel
theorem dX8_broken_21 : decode cX8_broken 21 = .ok (.lxor, 1) := by decide +kernel
theorem dX8_broken_22 : decode cX8_broken 22 = .ok (.land, 1) := by decide +kernel
theorem dX8_broken_23 : decode cX8_broken 23 = .ok (.lreturn, 1) := by decide +kernel
set_option maxRecDepth 20000 in
theorem ggX8_grades_X8_thereNow : GoodIn wsX8_grades wsX8_thereNow := goodIn_r _ [8, 9, 10, 11, 7, 12, 2, 13, 3, 18, 19, 20, 21, 22, 23, 24, 25, 26, 27, 28, 29, 30, 31, 32, 33, 34, 35, 36, 37, 38] (by decide +kernel) (by decide +kernel)
set_option maxRecDepth 20000 in
theorem gX8_grades_X8_thereNow : GoodIn wsX8_grades (wsV RX8 160 RX8 yX8_thereNow wsX8_thereNow) := goodIn_app (goodIn_of _ (by decide +kernel)) ggX8_grades_X8_thereNow
set_option maxRecDepth 20000 in
theorem ggX8_grades_X8_broken : GoodIn wsX8_grades wsX8_broken := goodIn_r _ [17, 3, 2, 18, 19, 20, 21, 22, 23, 24, 25, 26, 27, 28, 29, 30, 31, 32, 33, 34, 35, 36, 37, 38] (by decide +kernel) (by decide +kernel)
set_option maxRecDepth 20000 in
theorem gX8_grades_X8_broken : GoodIn wsX8_grades (wsV RX8 164 RX8 yX8_broken wsX8_broken) := goodIn_app (goodIn_of _ (by decide +kernel)) ggX8_grades_X8_broken
theorem dX8_grades_0 : decode cX8_grades 0 = .ok (.iconst 1, 1) := by decide +kernel
theorem dX8_grades_1 : decode cX8_grades 1 = .ok (.iload_n 1, 1) := by decide +kernel
theorem dX8_grades_2 : decode cX8_grades 2 = .ok (.ishl, 1) := by decide +kernel
theorem dX8_grades_3 : decode cX8_grades 3 = .ok (.iconst 1, 1) := by decide +kernel
theorem dX8_grades_4 : decode cX8_grades 4 = .ok (.isub, 1) := by decide +kernel
theorem dX8_grades_5 : decode cX8_grades 5 = .ok (.istore_n 2, 1) := by decide +kernel
theorem dX8_grades_6 : decode cX8_grades 6 = .ok (.iconst 0, 1) := by decide +kernel
theorem dX8_grades_7 : decode cX8_grades 7 = .ok (.istore_n 3, 1) := by decide +kernel
theorem dX8_grades_8 : decode cX8_grades 8 = .ok (.iload_n 3, 1) := by decide +kernel
theorem dX8_grades_9 : decode cX8_grades 9 = .ok (.iload_n 1, 1) := by decide +kernel
theorem dX8_grades_10 : decode cX8_grades 10 = .ok (.if_icmp .ge 17, 3) := by decide +kernel
theorem dX8_grades_13 : decode cX8_grades 13 = .ok (.aload_n 0, 1) := by decide +kernel
theorem dX8_grades_14 : decode cX8_grades 14 = .ok (.getfield 20, 3) := by decide +kernel
theorem dX8_grades_17 : decode cX8_grades 17 = .ok (.iload_n 3, 1) := by decide +kernel
theorem dX8_grades_18 : decode cX8_grades 18 = .ok (.bipush (-9), 2) := by decide +kernel
theorem dX8_grades_20 : decode cX8_grades 20 = .ok (.iastore, 1) := by decide +kernel
theorem dX8_grades_21 : decode cX8_grades 21 = .ok (.iinc 3 1, 3) := by decide +kernel
theorem dX8_grades_24 : decode cX8_grades 24 = .ok (.goto (-16), 3) := by decide +kernel
theorem dX8_grades_27 : decode cX8_grades 27 = .ok (.iconst 0, 1) := by decide +kernel
theorem dX8_grades_28 : decode cX8_grades 28 = .ok (.istore_n 3, 1) := by decide +kernel
theorem dX8_grades_29 : decode cX8_grades 29 = .ok (.iload_n 2, 1) := by decide +kernel
theorem dX8_grades_30 : decode cX8_grades 30 = .ok (.istore 4, 2) := by decide +kernel
theorem dX8_grades_32 : decode cX8_grades 32 = .ok (.iload_n 2, 1) := by decide +kernel
theorem dX8_grades_33 : decode cX8_grades 33 = .ok (.ifCond .eq 147, 3) := by decide +kernel
theorem dX8_grades_36 : decode cX8_grades 36 = .ok (.iload 4, 2) := by decide +kernel
theorem dX8_grades_38 : decode cX8_grades 38 = .ok (.ifCond .eq 142, 3) := by decide +kernel
theorem dX8_grades_41 : decode cX8_grades 41 = .ok (.aload_n 0, 1) := by decide +kernel
theorem dX8_grades_42 : decode cX8_grades 42 = .ok (.invokevirtual 160, 3) := by decide +kernel
theorem dX8_grades_45 : decode cX8_grades 45 = .ok (.lstore 5, 2) := by decide +kernel
theorem dX8_grades_47 : decode cX8_grades 47 = .ok (.iconst 0, 1) := by decide +kernel
theorem dX8_grades_48 : decode cX8_grades 48 = .ok (.istore 7, 2) := by decide +kernel
theorem dX8_grades_50 : decode cX8_grades 50 = .ok (.iload 7, 2) := by decide +kernel
theorem dX8_grades_52 : decode cX8_grades 52 = .ok (.iload_n 1, 1) := by decide +kernel
theorem dX8_grades_53 : decode cX8_grades 53 = .ok (.if_icmp .ge 40, 3) := by decide +kernel
theorem dX8_grades_56 : decode cX8_grades 56 = .ok (.lload 5, 2) := by decide +kernel
theorem dX8_grades_58 : decode cX8_grades 58 = .ok (.iload_n 2, 1) := by decide +kernel
theorem dX8_grades_59 : decode cX8_grades 59 = .ok (.iload 7, 2) := by decide +kernel
theorem dX8_grades_61 : decode cX8_grades 61 = .ok (.ishr, 1) := by decide +kernel
theorem dX8_grades_62 : decode cX8_grades 62 = .ok (.iconst 1, 1) := by decide +kernel
theorem dX8_grades_63 : decode cX8_grades 63 = .ok (.iand, 1) := by decide +kernel
theorem dX8_grades_64 : decode cX8_grades 64 = .ok (.iconst 1, 1) := by decide +kernel
theorem dX8_grades_65 : decode cX8_grades 65 = .ok (.if_icmp .ne 16, 3) := by decide +kernel
theorem dX8_grades_68 : decode cX8_grades 68 = .ok (.aload_n 0, 1) := by decide +kernel
theorem dX8_grades_69 : decode cX8_grades 69 = .ok (.iload 7, 2) := by decide +kernel
theorem dX8_grades_71 : decode cX8_grades 71 = .ok (.invokevirtual 164, 3) := by decide +kernel
theorem dX8_grades_74 : decode cX8_grades 74 = .ok (.ldc2_w 38, 3) := by decide +kernel
theorem dX8_grades_77 : decode cX8_grades 77 = .ok (.lxor, 1) := by decide +kernel
theorem dX8_grades_78 : decode cX8_grades 78 = .ok (.goto 6, 3) := by decide +kernel
theorem dX8_grades_81 : decode cX8_grades 81 = .ok (.ldc2_w 38, 3) := by decide +kernel
theorem dX8_grades_84 : decode cX8_grades 84 = .ok (.land, 1) := by decide +kernel
theorem dX8_grades_85 : decode cX8_grades 85 = .ok (.lstore 5, 2) := by decide +kernel
theorem dX8_grades_87 : decode cX8_grades 87 = .ok (.iinc 7 1, 3) := by decide +kernel
theorem dX8_grades_90 : decode cX8_grades 90 = .ok (.goto (-40), 3) := by decide +kernel
theorem dX8_grades_93 : decode cX8_grades 93 = .ok (.iconst 0, 1) := by decide +kernel
theorem dX8_grades_94 : decode cX8_grades 94 = .ok (.istore 4, 2) := by decide +kernel
theorem dX8_grades_96 : decode cX8_grades 96 = .ok (.iconst 0, 1) := by decide +kernel
theorem dX8_grades_97 : decode cX8_grades 97 = .ok (.istore 7, 2) := by decide +kernel
theorem dX8_grades_99 : decode cX8_grades 99 = .ok (.iload 7, 2) := by decide +kernel
theorem dX8_grades_101 : decode cX8_grades 101 = .ok (.iload_n 1, 1) := by decide +kernel
theorem dX8_grades_102 : decode cX8_grades 102 = .ok (.if_icmp .ge 65, 3) := by decide +kernel
theorem dX8_grades_105 : decode cX8_grades 105 = .ok (.iload_n 2, 1) := by decide +kernel
theorem dX8_grades_106 : decode cX8_grades 106 = .ok (.iload 7, 2) := by decide +kernel
theorem dX8_grades_108 : decode cX8_grades 108 = .ok (.ishr, 1) := by decide +kernel
theorem dX8_grades_109 : decode cX8_grades 109 = .ok (.iconst 1, 1) := by decide +kernel
theorem dX8_grades_110 : decode cX8_grades 110 = .ok (.iand, 1) := by decide +kernel
theorem dX8_grades_111 : decode cX8_grades 111 = .ok (.iconst 1, 1) := by decide +kernel
theorem dX8_grades_112 : decode cX8_grades 112 = .ok (.if_icmp .ne 49, 3) := by decide +kernel
theorem dX8_grades_115 : decode cX8_grades 115 = .ok (.lload 5, 2) := by decide +kernel
theorem dX8_grades_117 : decode cX8_grades 117 = .ok (.aload_n 0, 1) := by decide +kernel
theorem dX8_grades_118 : decode cX8_grades 118 = .ok (.getfield 13, 3) := by decide +kernel
theorem dX8_grades_121 : decode cX8_grades 121 = .ok (.bipush 9, 2) := by decide +kernel
theorem dX8_grades_123 : decode cX8_grades 123 = .ok (.iload 7, 2) := by decide +kernel
theorem dX8_grades_125 : decode cX8_grades 125 = .ok (.iadd, 1) := by decide +kernel
theorem dX8_grades_126 : decode cX8_grades 126 = .ok (.laload, 1) := by decide +kernel
theorem dX8_grades_127 : decode cX8_grades 127 = .ok (.land, 1) := by decide +kernel
theorem dX8_grades_128 : decode cX8_grades 128 = .ok (.aload_n 0, 1) := by decide +kernel
theorem dX8_grades_129 : decode cX8_grades 129 = .ok (.getfield 13, 3) := by decide +kernel
theorem dX8_grades_132 : decode cX8_grades 132 = .ok (.bipush 18, 2) := by decide +kernel
theorem dX8_grades_134 : decode cX8_grades 134 = .ok (.iload 7, 2) := by decide +kernel
theorem dX8_grades_136 : decode cX8_grades 136 = .ok (.iadd, 1) := by decide +kernel
theorem dX8_grades_137 : decode cX8_grades 137 = .ok (.laload, 1) := by decide +kernel
theorem dX8_grades_138 : decode cX8_grades 138 = .ok (.land, 1) := by decide +kernel
theorem dX8_grades_139 : decode cX8_grades 139 = .ok (.lconst 0, 1) := by decide +kernel
theorem dX8_grades_140 : decode cX8_grades 140 = .ok (.lcmp, 1) := by decide +kernel
theorem dX8_grades_141 : decode cX8_grades 141 = .ok (.ifCond .eq 20, 3) := by decide +kernel
theorem dX8_grades_144 : decode cX8_grades 144 = .ok (.iload 4, 2) := by decide +kernel
theorem dX8_grades_146 : decode cX8_grades 146 = .ok (.iconst 1, 1) := by decide +kernel
theorem dX8_grades_147 : decode cX8_grades 147 = .ok (.iload 7, 2) := by decide +kernel
theorem dX8_grades_149 : decode cX8_grades 149 = .ok (.ishl, 1) := by decide +kernel
theorem dX8_grades_150 : decode cX8_grades 150 = .ok (.ior, 1) := by decide +kernel
theorem dX8_grades_151 : decode cX8_grades 151 = .ok (.istore 4, 2) := by decide +kernel
theorem dX8_grades_153 : decode cX8_grades 153 = .ok (.aload_n 0, 1) := by decide +kernel
theorem dX8_grades_154 : decode cX8_grades 154 = .ok (.getfield 20, 3) := by decide +kernel
theorem dX8_grades_157 : decode cX8_grades 157 = .ok (.iload 7, 2) := by decide +kernel
theorem dX8_grades_159 : decode cX8_grades 159 = .ok (.iload_n 3, 1) := by decide +kernel
theorem dX8_grades_160 : decode cX8_grades 160 = .ok (.iastore, 1) := by decide +kernel
theorem dX8_grades_161 : decode cX8_grades 161 = .ok (.iinc 7 1, 3) := by decide +kernel
theorem dX8_grades_164 : decode cX8_grades 164 = .ok (.goto (-65), 3) := by decide +kernel
theorem dX8_grades_167 : decode cX8_grades 167 = .ok (.iload_n 2, 1) := by decide +kernel
theorem dX8_grades_168 : decode cX8_grades 168 = .ok (.iload 4, 2) := by decide +kernel
theorem dX8_grades_170 : decode cX8_grades 170 = .ok (.iconst (-1), 1) := by decide +kernel
theorem dX8_grades_171 : decode cX8_grades 171 = .ok (.ixor, 1) := by decide +kernel
theorem dX8_grades_172 : decode cX8_grades 172 = .ok (.iand, 1) := by decide +kernel
theorem dX8_grades_173 : decode cX8_grades 173 = .ok (.istore_n 2, 1) := by decide +kernel
theorem dX8_grades_174 : decode cX8_grades 174 = .ok (.iinc 3 1, 3) := by decide +kernel
theorem dX8_grades_177 : decode cX8_grades 177 = .ok (.goto (-145), 3) := by decide +kernel
theorem dX8_grades_180 : decode cX8_grades 180 = .ok (.iload_n 2, 1) := by decide +kernel
theorem dX8_grades_181 : decode cX8_grades 181 = .ok (.ifCond .eq 7, 3) := by decide +kernel
theorem dX8_grades_184 : decode cX8_grades 184 = .ok (.iconst 1, 1) := by decide +kernel
theorem dX8_grades_185 : decode cX8_grades 185 = .ok (.goto 4, 3) := by decide +kernel
theorem dX8_grades_188 : decode cX8_grades 188 = .ok (.iconst 0, 1) := by decide +kernel
theorem dX8_grades_189 : decode cX8_grades 189 = .ok (.ireturn, 1) := by decide +kernel
set_option maxRecDepth 20000 in
theorem ggX8_rates_X8_grades : GoodIn wsX8_rates wsX8_grades := goodIn_r _ [7, 8, 9, 10, 11, 12, 13, 6, 14, 15, 16, 17, 18, 1, 19, 20, 21, 22, 23, 24, 25, 26, 27, 28, 29, 30, 31, 32, 33, 34, 35, 36, 37, 38, 39, 40, 41, 42, 43] (by decide +kernel) (by decide +kernel)
set_option maxRecDepth 20000 in
theorem gX8_rates_X8_grades : GoodIn wsX8_rates (wsV RX8 167 RX8 yX8_grades wsX8_grades) := goodIn_app (goodIn_of _ (by decide +kernel)) ggX8_rates_X8_grades
theorem dX8_rates_0 : decode cX8_rates 0 = .ok (.aload_n 0, 1) := by decide +kernel
theorem dX8_rates_1 : decode cX8_rates 1 = .ok (.aload_n 0, 1) := by decide +kernel
theorem dX8_rates_2 : decode cX8_rates 2 = .ok (.aload_n 0, 1) := by decide +kernel
theorem dX8_rates_3 : decode cX8_rates 3 = .ok (.getfield 17, 3) := by decide +kernel
theorem dX8_rates_6 : decode cX8_rates 6 = .ok (.iconst 1, 1) := by decide +kernel
theorem dX8_rates_7 : decode cX8_rates 7 = .ok (.iaload, 1) := by decide +kernel
theorem dX8_rates_8 : decode cX8_rates 8 = .ok (.invokevirtual 167, 3) := by decide +kernel
theorem dX8_rates_11 : decode cX8_rates 11 = .ok (.putfield 169, 3) := by decide +kernel
theorem dX8_rates_14 : decode cX8_rates 14 = .ok (.return_, 1) := by decide +kernel
set_option maxRecDepth 20000 in
theorem ggX8_there_X8_thereNow : GoodIn wsX8_there wsX8_thereNow := goodIn_r _ [7, 8, 9, 10, 6, 11, 2, 1, 12, 21, 22, 23, 24, 25, 26, 27, 28, 29, 30, 31, 32, 33, 34, 35, 36, 37, 38, 39, 40, 41] (by decide +kernel) (by decide +kernel)
set_option maxRecDepth 20000 in
theorem gX8_there_X8_thereNow : GoodIn wsX8_there (wsV RX8 160 RX8 yX8_thereNow wsX8_thereNow) := goodIn_app (goodIn_of _ (by decide +kernel)) ggX8_there_X8_thereNow
set_option maxRecDepth 20000 in
theorem ggX8_there_X8_broken : GoodIn wsX8_there wsX8_broken := goodIn_r _ [16, 12, 2, 21, 22, 23, 24, 25, 26, 27, 28, 29, 30, 31, 32, 33, 34, 35, 36, 37, 38, 39, 40, 41] (by decide +kernel) (by decide +kernel)
set_option maxRecDepth 20000 in
theorem gX8_there_X8_broken : GoodIn wsX8_there (wsV RX8 164 RX8 yX8_broken wsX8_broken) := goodIn_app (goodIn_of _ (by decide +kernel)) ggX8_there_X8_broken
set_option maxRecDepth 20000 in
theorem ggX8_there_X8_groundNow : GoodIn wsX8_there wsX8_groundNow := goodIn_r _ [20, 3, 4, 5, 6, 7, 8, 9, 10, 11, 2, 1, 12, 21, 22, 23, 24, 25, 26, 27, 28, 29, 30, 31, 32, 33, 34, 35, 36, 37, 38, 39, 40, 41] (by decide +kernel) (by decide +kernel)
set_option maxRecDepth 20000 in
theorem gX8_there_X8_groundNow : GoodIn wsX8_there (wsV RX8 173 RX8 yX8_groundNow wsX8_groundNow) := goodIn_app (goodIn_of _ (by decide +kernel)) ggX8_there_X8_groundNow
theorem dX8_there_0 : decode cX8_there 0 = .ok (.iload_n 1, 1) := by decide +kernel
theorem dX8_there_1 : decode cX8_there 1 = .ok (.iconst 2, 1) := by decide +kernel
theorem dX8_there_2 : decode cX8_there 2 = .ok (.if_icmp .ne 43, 3) := by decide +kernel
theorem dX8_there_5 : decode cX8_there 5 = .ok (.aload_n 0, 1) := by decide +kernel
theorem dX8_there_6 : decode cX8_there 6 = .ok (.invokevirtual 160, 3) := by decide +kernel
theorem dX8_there_9 : decode cX8_there 9 = .ok (.lstore_n 2, 1) := by decide +kernel
theorem dX8_there_10 : decode cX8_there 10 = .ok (.iconst 0, 1) := by decide +kernel
theorem dX8_there_11 : decode cX8_there 11 = .ok (.istore 4, 2) := by decide +kernel
theorem dX8_there_13 : decode cX8_there 13 = .ok (.iload 4, 2) := by decide +kernel
theorem dX8_there_15 : decode cX8_there 15 = .ok (.aload_n 0, 1) := by decide +kernel
theorem dX8_there_16 : decode cX8_there 16 = .ok (.getfield 17, 3) := by decide +kernel
theorem dX8_there_19 : decode cX8_there 19 = .ok (.iconst 1, 1) := by decide +kernel
theorem dX8_there_20 : decode cX8_there 20 = .ok (.iaload, 1) := by decide +kernel
theorem dX8_there_21 : decode cX8_there 21 = .ok (.if_icmp .ge 22, 3) := by decide +kernel
theorem dX8_there_24 : decode cX8_there 24 = .ok (.lload_n 2, 1) := by decide +kernel
theorem dX8_there_25 : decode cX8_there 25 = .ok (.aload_n 0, 1) := by decide +kernel
theorem dX8_there_26 : decode cX8_there 26 = .ok (.iload 4, 2) := by decide +kernel
theorem dX8_there_28 : decode cX8_there 28 = .ok (.invokevirtual 164, 3) := by decide +kernel
theorem dX8_there_31 : decode cX8_there 31 = .ok (.ldc2_w 38, 3) := by decide +kernel
theorem dX8_there_34 : decode cX8_there 34 = .ok (.lxor, 1) := by decide +kernel
theorem dX8_there_35 : decode cX8_there 35 = .ok (.land, 1) := by decide +kernel
theorem dX8_there_36 : decode cX8_there 36 = .ok (.lstore_n 2, 1) := by decide +kernel
theorem dX8_there_37 : decode cX8_there 37 = .ok (.iinc 4 1, 3) := by decide +kernel
theorem dX8_there_40 : decode cX8_there 40 = .ok (.goto (-27), 3) := by decide +kernel
theorem dX8_there_43 : decode cX8_there 43 = .ok (.lload_n 2, 1) := by decide +kernel
theorem dX8_there_44 : decode cX8_there 44 = .ok (.lreturn, 1) := by decide +kernel
theorem dX8_there_45 : decode cX8_there 45 = .ok (.iload_n 1, 1) := by decide +kernel
theorem dX8_there_46 : decode cX8_there 46 = .ok (.ifCond .ne 10, 3) := by decide +kernel
theorem dX8_there_49 : decode cX8_there 49 = .ok (.aload_n 0, 1) := by decide +kernel
theorem dX8_there_50 : decode cX8_there 50 = .ok (.invokevirtual 160, 3) := by decide +kernel
theorem dX8_there_53 : decode cX8_there 53 = .ok (.goto 16, 3) := by decide +kernel
theorem dX8_there_56 : decode cX8_there 56 = .ok (.iload_n 1, 1) := by decide +kernel
theorem dX8_there_57 : decode cX8_there 57 = .ok (.iconst 1, 1) := by decide +kernel
theorem dX8_there_58 : decode cX8_there 58 = .ok (.if_icmp .ne 10, 3) := by decide +kernel
theorem dX8_there_61 : decode cX8_there 61 = .ok (.aload_n 0, 1) := by decide +kernel
theorem dX8_there_62 : decode cX8_there 62 = .ok (.invokevirtual 173, 3) := by decide +kernel
theorem dX8_there_65 : decode cX8_there 65 = .ok (.goto 4, 3) := by decide +kernel
theorem dX8_there_68 : decode cX8_there 68 = .ok (.lconst 0, 1) := by decide +kernel
theorem dX8_there_69 : decode cX8_there 69 = .ok (.lreturn, 1) := by decide +kernel
set_option maxRecDepth 20000 in
theorem ggX8_isRule_X8_in : GoodIn wsX8_isRule wsX8_in := goodIn_r _ [5] (by decide +kernel) (by decide +kernel)
set_option maxRecDepth 20000 in
theorem gX8_isRule_X8_in : GoodIn wsX8_isRule (va_wsS RX8 55 yX8_in wsX8_in) := goodIn_app (goodIn_of _ (by decide +kernel)) ggX8_isRule_X8_in
theorem dX8_isRule_0 : decode cX8_isRule 0 = .ok (.iload_n 1, 1) := by decide +kernel
theorem dX8_isRule_1 : decode cX8_isRule 1 = .ok (.i2l, 1) := by decide +kernel
theorem dX8_isRule_2 : decode cX8_isRule 2 = .ok (.lconst 0, 1) := by decide +kernel
theorem dX8_isRule_3 : decode cX8_isRule 3 = .ok (.aload_n 0, 1) := by decide +kernel
theorem dX8_isRule_4 : decode cX8_isRule 4 = .ok (.getfield 17, 3) := by decide +kernel
theorem dX8_isRule_7 : decode cX8_isRule 7 = .ok (.iconst 1, 1) := by decide +kernel
theorem dX8_isRule_8 : decode cX8_isRule 8 = .ok (.iaload, 1) := by decide +kernel
theorem dX8_isRule_9 : decode cX8_isRule 9 = .ok (.iconst 1, 1) := by decide +kernel
theorem dX8_isRule_10 : decode cX8_isRule 10 = .ok (.isub, 1) := by decide +kernel
theorem dX8_isRule_11 : decode cX8_isRule 11 = .ok (.i2l, 1) := by decide +kernel
theorem dX8_isRule_12 : decode cX8_isRule 12 = .ok (.invokestatic 55, 3) := by decide +kernel
theorem dX8_isRule_15 : decode cX8_isRule 15 = .ok (.ireturn, 1) := by decide +kernel
set_option maxRecDepth 20000 in
theorem ggX8_grade_X8_isRule : GoodIn wsX8_grade wsX8_isRule := goodIn_r _ [6, 7, 8, 9, 5, 10, 11, 12, 13, 14, 15, 16, 17, 18, 19, 20, 21, 22, 23, 24, 25, 26, 27, 28, 29, 30, 31] (by decide +kernel) (by decide +kernel)
set_option maxRecDepth 20000 in
theorem gX8_grade_X8_isRule : GoodIn wsX8_grade (wsV RX8 176 RX8 yX8_isRule wsX8_isRule) := goodIn_app (goodIn_of _ (by decide +kernel)) ggX8_grade_X8_isRule
theorem dX8_grade_0 : decode cX8_grade 0 = .ok (.aload_n 0, 1) := by decide +kernel
theorem dX8_grade_1 : decode cX8_grade 1 = .ok (.iload_n 1, 1) := by decide +kernel
theorem dX8_grade_2 : decode cX8_grade 2 = .ok (.invokevirtual 176, 3) := by decide +kernel
theorem dX8_grade_5 : decode cX8_grade 5 = .ok (.ifCond .eq 12, 3) := by decide +kernel
theorem dX8_grade_8 : decode cX8_grade 8 = .ok (.aload_n 0, 1) := by decide +kernel
theorem dX8_grade_9 : decode cX8_grade 9 = .ok (.getfield 20, 3) := by decide +kernel
theorem dX8_grade_12 : decode cX8_grade 12 = .ok (.iload_n 1, 1) := by decide +kernel
theorem dX8_grade_13 : decode cX8_grade 13 = .ok (.iaload, 1) := by decide +kernel
theorem dX8_grade_14 : decode cX8_grade 14 = .ok (.goto 4, 3) := by decide +kernel
theorem dX8_grade_17 : decode cX8_grade 17 = .ok (.iconst (-1), 1) := by decide +kernel
theorem dX8_grade_18 : decode cX8_grade 18 = .ok (.ireturn, 1) := by decide +kernel
theorem dX8_gradeOfRule_0 : decode cX8_gradeOfRule 0 = .ok (.aload_n 0, 1) := by decide +kernel
theorem dX8_gradeOfRule_1 : decode cX8_gradeOfRule 1 = .ok (.getfield 20, 3) := by decide +kernel
theorem dX8_gradeOfRule_4 : decode cX8_gradeOfRule 4 = .ok (.iload_n 1, 1) := by decide +kernel
theorem dX8_gradeOfRule_5 : decode cX8_gradeOfRule 5 = .ok (.iaload, 1) := by decide +kernel
theorem dX8_gradeOfRule_6 : decode cX8_gradeOfRule 6 = .ok (.bipush (-9), 2) := by decide +kernel
theorem dX8_gradeOfRule_8 : decode cX8_gradeOfRule 8 = .ok (.if_icmp .ne 8, 3) := by decide +kernel
theorem dX8_gradeOfRule_11 : decode cX8_gradeOfRule 11 = .ok (.bipush 8, 2) := by decide +kernel
theorem dX8_gradeOfRule_13 : decode cX8_gradeOfRule 13 = .ok (.goto 9, 3) := by decide +kernel
theorem dX8_gradeOfRule_16 : decode cX8_gradeOfRule 16 = .ok (.aload_n 0, 1) := by decide +kernel
theorem dX8_gradeOfRule_17 : decode cX8_gradeOfRule 17 = .ok (.getfield 20, 3) := by decide +kernel
theorem dX8_gradeOfRule_20 : decode cX8_gradeOfRule 20 = .ok (.iload_n 1, 1) := by decide +kernel
theorem dX8_gradeOfRule_21 : decode cX8_gradeOfRule 21 = .ok (.iaload, 1) := by decide +kernel
theorem dX8_gradeOfRule_22 : decode cX8_gradeOfRule 22 = .ok (.ireturn, 1) := by decide +kernel
theorem dX8_has_0 : decode cX8_has 0 = .ok (.lload_n 0, 1) := by decide +kernel
theorem dX8_has_1 : decode cX8_has 1 = .ok (.iload_n 2, 1) := by decide +kernel
theorem dX8_has_2 : decode cX8_has 2 = .ok (.lshr, 1) := by decide +kernel
theorem dX8_has_3 : decode cX8_has 3 = .ok (.lconst 1, 1) := by decide +kernel
theorem dX8_has_4 : decode cX8_has 4 = .ok (.land, 1) := by decide +kernel
theorem dX8_has_5 : decode cX8_has 5 = .ok (.lconst 1, 1) := by decide +kernel
theorem dX8_has_6 : decode cX8_has 6 = .ok (.lcmp, 1) := by decide +kernel
theorem dX8_has_7 : decode cX8_has 7 = .ok (.ifCond .ne 7, 3) := by decide +kernel
theorem dX8_has_10 : decode cX8_has 10 = .ok (.iconst 1, 1) := by decide +kernel
theorem dX8_has_11 : decode cX8_has 11 = .ok (.goto 4, 3) := by decide +kernel
theorem dX8_has_14 : decode cX8_has 14 = .ok (.iconst 0, 1) := by decide +kernel
theorem dX8_has_15 : decode cX8_has 15 = .ok (.ireturn, 1) := by decide +kernel
set_option maxRecDepth 20000 in
theorem ggX8_worldGrade_X8_thereNow : GoodIn wsX8_worldGrade wsX8_thereNow := goodIn_r _ [6, 7, 8, 9, 5, 10, 11, 1, 12, 25, 26, 27, 28, 29, 30, 31, 32, 33, 34, 35, 36, 37, 38, 39, 40, 41, 42, 43, 44, 45] (by decide +kernel) (by decide +kernel)
set_option maxRecDepth 20000 in
theorem gX8_worldGrade_X8_thereNow : GoodIn wsX8_worldGrade (wsV RX8 160 RX8 yX8_thereNow wsX8_thereNow) := goodIn_app (goodIn_of _ (by decide +kernel)) ggX8_worldGrade_X8_thereNow
set_option maxRecDepth 20000 in
theorem ggX8_worldGrade_X8_has : GoodIn wsX8_worldGrade wsX8_has := goodIn_r _ [15] (by decide +kernel) (by decide +kernel)
set_option maxRecDepth 20000 in
theorem gX8_worldGrade_X8_has : GoodIn wsX8_worldGrade (va_wsS RX8 179 yX8_has wsX8_has) := goodIn_app (goodIn_of _ (by decide +kernel)) ggX8_worldGrade_X8_has
set_option maxRecDepth 20000 in
theorem ggX8_worldGrade_X8_broken : GoodIn wsX8_worldGrade wsX8_broken := goodIn_r _ [19, 12, 11, 25, 26, 27, 28, 29, 30, 31, 32, 33, 34, 35, 36, 37, 38, 39, 40, 41, 42, 43, 44, 45] (by decide +kernel) (by decide +kernel)
set_option maxRecDepth 20000 in
theorem gX8_worldGrade_X8_broken : GoodIn wsX8_worldGrade (wsV RX8 164 RX8 yX8_broken wsX8_broken) := goodIn_app (goodIn_of _ (by decide +kernel)) ggX8_worldGrade_X8_broken
set_option maxRecDepth 20000 in
theorem ggX8_worldGrade_X8_gradeOfRule : GoodIn wsX8_worldGrade wsX8_gradeOfRule := goodIn_r _ [23, 24, 25, 26, 27, 28, 29, 30, 31, 32, 33, 34, 35, 36, 37, 38, 39, 40, 41, 42, 43, 44, 45] (by decide +kernel) (by decide +kernel)
set_option maxRecDepth 20000 in
theorem gX8_worldGrade_X8_gradeOfRule : GoodIn wsX8_worldGrade (wsV RX8 183 RX8 yX8_gradeOfRule wsX8_gradeOfRule) := goodIn_app (goodIn_of _ (by decide +kernel)) ggX8_worldGrade_X8_gradeOfRule
theorem dX8_worldGrade_0 : decode cX8_worldGrade 0 = .ok (.aload_n 0, 1) := by decide +kernel
theorem dX8_worldGrade_1 : decode cX8_worldGrade 1 = .ok (.invokevirtual 160, 3) := by decide +kernel
theorem dX8_worldGrade_4 : decode cX8_worldGrade 4 = .ok (.iload_n 1, 1) := by decide +kernel
theorem dX8_worldGrade_5 : decode cX8_worldGrade 5 = .ok (.invokestatic 179, 3) := by decide +kernel
theorem dX8_worldGrade_8 : decode cX8_worldGrade 8 = .ok (.ifCond .ne 6, 3) := by decide +kernel
theorem dX8_worldGrade_11 : decode cX8_worldGrade 11 = .ok (.bipush (-9), 2) := by decide +kernel
theorem dX8_worldGrade_13 : decode cX8_worldGrade 13 = .ok (.ireturn, 1) := by decide +kernel
theorem dX8_worldGrade_14 : decode cX8_worldGrade 14 = .ok (.iconst 0, 1) := by decide +kernel
theorem dX8_worldGrade_15 : decode cX8_worldGrade 15 = .ok (.istore_n 2, 1) := by decide +kernel
theorem dX8_worldGrade_16 : decode cX8_worldGrade 16 = .ok (.iconst 0, 1) := by decide +kernel
theorem dX8_worldGrade_17 : decode cX8_worldGrade 17 = .ok (.istore_n 3, 1) := by decide +kernel
theorem dX8_worldGrade_18 : decode cX8_worldGrade 18 = .ok (.iload_n 3, 1) := by decide +kernel
theorem dX8_worldGrade_19 : decode cX8_worldGrade 19 = .ok (.aload_n 0, 1) := by decide +kernel
theorem dX8_worldGrade_20 : decode cX8_worldGrade 20 = .ok (.getfield 17, 3) := by decide +kernel
theorem dX8_worldGrade_23 : decode cX8_worldGrade 23 = .ok (.iconst 1, 1) := by decide +kernel
theorem dX8_worldGrade_24 : decode cX8_worldGrade 24 = .ok (.iaload, 1) := by decide +kernel
theorem dX8_worldGrade_25 : decode cX8_worldGrade 25 = .ok (.if_icmp .ge 47, 3) := by decide +kernel
theorem dX8_worldGrade_28 : decode cX8_worldGrade 28 = .ok (.aload_n 0, 1) := by decide +kernel
theorem dX8_worldGrade_29 : decode cX8_worldGrade 29 = .ok (.iload_n 3, 1) := by decide +kernel
theorem dX8_worldGrade_30 : decode cX8_worldGrade 30 = .ok (.invokevirtual 164, 3) := by decide +kernel
theorem dX8_worldGrade_33 : decode cX8_worldGrade 33 = .ok (.iload_n 1, 1) := by decide +kernel
theorem dX8_worldGrade_34 : decode cX8_worldGrade 34 = .ok (.invokestatic 179, 3) := by decide +kernel
theorem dX8_worldGrade_37 : decode cX8_worldGrade 37 = .ok (.ifCond .eq 13, 3) := by decide +kernel
theorem dX8_worldGrade_40 : decode cX8_worldGrade 40 = .ok (.aload_n 0, 1) := by decide +kernel
theorem dX8_worldGrade_41 : decode cX8_worldGrade 41 = .ok (.iload_n 3, 1) := by decide +kernel
theorem dX8_worldGrade_42 : decode cX8_worldGrade 42 = .ok (.invokevirtual 183, 3) := by decide +kernel
theorem dX8_worldGrade_45 : decode cX8_worldGrade 45 = .ok (.iconst 1, 1) := by decide +kernel
theorem dX8_worldGrade_46 : decode cX8_worldGrade 46 = .ok (.iadd, 1) := by decide +kernel
theorem dX8_worldGrade_47 : decode cX8_worldGrade 47 = .ok (.goto 4, 3) := by decide +kernel
theorem dX8_worldGrade_50 : decode cX8_worldGrade 50 = .ok (.iconst 0, 1) := by decide +kernel
theorem dX8_worldGrade_51 : decode cX8_worldGrade 51 = .ok (.istore 4, 2) := by decide +kernel
theorem dX8_worldGrade_53 : decode cX8_worldGrade 53 = .ok (.iload 4, 2) := by decide +kernel
theorem dX8_worldGrade_55 : decode cX8_worldGrade 55 = .ok (.iload_n 2, 1) := by decide +kernel
theorem dX8_worldGrade_56 : decode cX8_worldGrade 56 = .ok (.if_icmp .le 8, 3) := by decide +kernel
theorem dX8_worldGrade_59 : decode cX8_worldGrade 59 = .ok (.iload 4, 2) := by decide +kernel
theorem dX8_worldGrade_61 : decode cX8_worldGrade 61 = .ok (.goto 4, 3) := by decide +kernel
theorem dX8_worldGrade_64 : decode cX8_worldGrade 64 = .ok (.iload_n 2, 1) := by decide +kernel
theorem dX8_worldGrade_65 : decode cX8_worldGrade 65 = .ok (.istore_n 2, 1) := by decide +kernel
theorem dX8_worldGrade_66 : decode cX8_worldGrade 66 = .ok (.iinc 3 1, 3) := by decide +kernel
theorem dX8_worldGrade_69 : decode cX8_worldGrade 69 = .ok (.goto (-51), 3) := by decide +kernel
theorem dX8_worldGrade_72 : decode cX8_worldGrade 72 = .ok (.iload_n 2, 1) := by decide +kernel
theorem dX8_worldGrade_73 : decode cX8_worldGrade 73 = .ok (.ireturn, 1) := by decide +kernel
set_option maxRecDepth 20000 in
theorem ggX8_isWorld_X8_in : GoodIn wsX8_isWorld wsX8_in := goodIn_r _ [5] (by decide +kernel) (by decide +kernel)
set_option maxRecDepth 20000 in
theorem gX8_isWorld_X8_in : GoodIn wsX8_isWorld (va_wsS RX8 55 yX8_in wsX8_in) := goodIn_app (goodIn_of _ (by decide +kernel)) ggX8_isWorld_X8_in
theorem dX8_isWorld_0 : decode cX8_isWorld 0 = .ok (.iload_n 0, 1) := by decide +kernel
theorem dX8_isWorld_1 : decode cX8_isWorld 1 = .ok (.i2l, 1) := by decide +kernel
theorem dX8_isWorld_2 : decode cX8_isWorld 2 = .ok (.lconst 0, 1) := by decide +kernel
theorem dX8_isWorld_3 : decode cX8_isWorld 3 = .ok (.ldc2_w 186, 3) := by decide +kernel
theorem dX8_isWorld_6 : decode cX8_isWorld 6 = .ok (.invokestatic 55, 3) := by decide +kernel
theorem dX8_isWorld_9 : decode cX8_isWorld 9 = .ok (.ireturn, 1) := by decide +kernel
set_option maxRecDepth 20000 in
theorem ggX8_gradeOf_X8_isWorld : GoodIn wsX8_gradeOf wsX8_isWorld := goodIn_r _ [4, 5, 6, 7, 3, 8] (by decide +kernel) (by decide +kernel)
set_option maxRecDepth 20000 in
theorem gX8_gradeOf_X8_isWorld : GoodIn wsX8_gradeOf (va_wsS RX8 188 yX8_isWorld wsX8_isWorld) := goodIn_app (goodIn_of _ (by decide +kernel)) ggX8_gradeOf_X8_isWorld
set_option maxRecDepth 20000 in
theorem ggX8_gradeOf_X8_worldGrade : GoodIn wsX8_gradeOf wsX8_worldGrade := goodIn_r _ [12, 13, 14, 15, 16, 3, 17, 18, 19, 20, 21, 22, 23, 24, 25, 26, 27, 28, 29, 30, 31, 32, 33, 34, 35, 36, 37, 38, 39, 40, 41, 42, 43, 44, 45, 46, 47, 48, 49, 50, 51, 52, 53, 54, 55, 56] (by decide +kernel) (by decide +kernel)
set_option maxRecDepth 20000 in
theorem gX8_gradeOf_X8_worldGrade : GoodIn wsX8_gradeOf (wsV RX8 191 RX8 yX8_worldGrade wsX8_worldGrade) := goodIn_app (goodIn_of _ (by decide +kernel)) ggX8_gradeOf_X8_worldGrade
theorem dX8_gradeOf_0 : decode cX8_gradeOf 0 = .ok (.iload_n 1, 1) := by decide +kernel
theorem dX8_gradeOf_1 : decode cX8_gradeOf 1 = .ok (.invokestatic 188, 3) := by decide +kernel
theorem dX8_gradeOf_4 : decode cX8_gradeOf 4 = .ok (.ifCond .eq 11, 3) := by decide +kernel
theorem dX8_gradeOf_7 : decode cX8_gradeOf 7 = .ok (.aload_n 0, 1) := by decide +kernel
theorem dX8_gradeOf_8 : decode cX8_gradeOf 8 = .ok (.iload_n 1, 1) := by decide +kernel
theorem dX8_gradeOf_9 : decode cX8_gradeOf 9 = .ok (.invokevirtual 191, 3) := by decide +kernel
theorem dX8_gradeOf_12 : decode cX8_gradeOf 12 = .ok (.goto 4, 3) := by decide +kernel
theorem dX8_gradeOf_15 : decode cX8_gradeOf 15 = .ok (.iconst (-1), 1) := by decide +kernel
theorem dX8_gradeOf_16 : decode cX8_gradeOf 16 = .ok (.ireturn, 1) := by decide +kernel
set_option maxRecDepth 20000 in
theorem ggX8_breaks_X8_isWorld : GoodIn wsX8_breaks wsX8_isWorld := goodIn_r _ [5, 6, 7, 8, 4, 9] (by decide +kernel) (by decide +kernel)
set_option maxRecDepth 20000 in
theorem gX8_breaks_X8_isWorld : GoodIn wsX8_breaks (va_wsS RX8 188 yX8_isWorld wsX8_isWorld) := goodIn_app (goodIn_of _ (by decide +kernel)) ggX8_breaks_X8_isWorld
set_option maxRecDepth 20000 in
theorem ggX8_breaks_X8_broken : GoodIn wsX8_breaks wsX8_broken := goodIn_r _ [13, 14, 15, 19, 20, 21, 22, 23, 24, 25, 26, 27, 28, 29, 30, 31, 32, 33, 34, 35, 36, 37, 38, 39] (by decide +kernel) (by decide +kernel)
set_option maxRecDepth 20000 in
theorem gX8_breaks_X8_broken : GoodIn wsX8_breaks (wsV RX8 164 RX8 yX8_broken wsX8_broken) := goodIn_app (goodIn_of _ (by decide +kernel)) ggX8_breaks_X8_broken
set_option maxRecDepth 20000 in
theorem ggX8_breaks_X8_has : GoodIn wsX8_breaks wsX8_has := goodIn_r _ [18] (by decide +kernel) (by decide +kernel)
set_option maxRecDepth 20000 in
theorem gX8_breaks_X8_has : GoodIn wsX8_breaks (va_wsS RX8 179 yX8_has wsX8_has) := goodIn_app (goodIn_of _ (by decide +kernel)) ggX8_breaks_X8_has
theorem dX8_breaks_0 : decode cX8_breaks 0 = .ok (.iload_n 1, 1) := by decide +kernel
theorem dX8_breaks_1 : decode cX8_breaks 1 = .ok (.invokestatic 188, 3) := by decide +kernel
theorem dX8_breaks_4 : decode cX8_breaks 4 = .ok (.ifCond .ne 5, 3) := by decide +kernel
theorem dX8_breaks_7 : decode cX8_breaks 7 = .ok (.iconst (-1), 1) := by decide +kernel
theorem dX8_breaks_8 : decode cX8_breaks 8 = .ok (.ireturn, 1) := by decide +kernel
theorem dX8_breaks_9 : decode cX8_breaks 9 = .ok (.iconst 0, 1) := by decide +kernel
theorem dX8_breaks_10 : decode cX8_breaks 10 = .ok (.istore_n 2, 1) := by decide +kernel
theorem dX8_breaks_11 : decode cX8_breaks 11 = .ok (.iconst 0, 1) := by decide +kernel
theorem dX8_breaks_12 : decode cX8_breaks 12 = .ok (.istore_n 3, 1) := by decide +kernel
theorem dX8_breaks_13 : decode cX8_breaks 13 = .ok (.iload_n 3, 1) := by decide +kernel
theorem dX8_breaks_14 : decode cX8_breaks 14 = .ok (.aload_n 0, 1) := by decide +kernel
theorem dX8_breaks_15 : decode cX8_breaks 15 = .ok (.getfield 17, 3) := by decide +kernel
theorem dX8_breaks_18 : decode cX8_breaks 18 = .ok (.iconst 1, 1) := by decide +kernel
theorem dX8_breaks_19 : decode cX8_breaks 19 = .ok (.iaload, 1) := by decide +kernel
theorem dX8_breaks_20 : decode cX8_breaks 20 = .ok (.if_icmp .ge 31, 3) := by decide +kernel
theorem dX8_breaks_23 : decode cX8_breaks 23 = .ok (.iload_n 2, 1) := by decide +kernel
theorem dX8_breaks_24 : decode cX8_breaks 24 = .ok (.aload_n 0, 1) := by decide +kernel
theorem dX8_breaks_25 : decode cX8_breaks 25 = .ok (.iload_n 3, 1) := by decide +kernel
theorem dX8_breaks_26 : decode cX8_breaks 26 = .ok (.invokevirtual 164, 3) := by decide +kernel
theorem dX8_breaks_29 : decode cX8_breaks 29 = .ok (.iload_n 1, 1) := by decide +kernel
theorem dX8_breaks_30 : decode cX8_breaks 30 = .ok (.invokestatic 179, 3) := by decide +kernel
theorem dX8_breaks_33 : decode cX8_breaks 33 = .ok (.ifCond .eq 9, 3) := by decide +kernel
theorem dX8_breaks_36 : decode cX8_breaks 36 = .ok (.iconst 1, 1) := by decide +kernel
theorem dX8_breaks_37 : decode cX8_breaks 37 = .ok (.iload_n 3, 1) := by decide +kernel
theorem dX8_breaks_38 : decode cX8_breaks 38 = .ok (.ishl, 1) := by decide +kernel
theorem dX8_breaks_39 : decode cX8_breaks 39 = .ok (.goto 4, 3) := by decide +kernel
theorem dX8_breaks_42 : decode cX8_breaks 42 = .ok (.iconst 0, 1) := by decide +kernel
theorem dX8_breaks_43 : decode cX8_breaks 43 = .ok (.ior, 1) := by decide +kernel
theorem dX8_breaks_44 : decode cX8_breaks 44 = .ok (.istore_n 2, 1) := by decide +kernel
theorem dX8_breaks_45 : decode cX8_breaks 45 = .ok (.iinc 3 1, 3) := by decide +kernel
theorem dX8_breaks_48 : decode cX8_breaks 48 = .ok (.goto (-35), 3) := by decide +kernel
theorem dX8_breaks_51 : decode cX8_breaks 51 = .ok (.iload_n 2, 1) := by decide +kernel
theorem dX8_breaks_52 : decode cX8_breaks 52 = .ok (.ireturn, 1) := by decide +kernel
set_option maxRecDepth 20000 in
theorem ggX8_counts_X8_gradeOfRule : GoodIn wsX8_counts wsX8_gradeOfRule := goodIn_r _ [7, 8, 18, 19, 20, 21, 22, 23, 24, 25, 26, 27, 28, 29, 30, 31, 32, 33, 34, 35, 36, 37, 38] (by decide +kernel) (by decide +kernel)
set_option maxRecDepth 20000 in
theorem gX8_counts_X8_gradeOfRule : GoodIn wsX8_counts (wsV RX8 183 RX8 yX8_gradeOfRule wsX8_gradeOfRule) := goodIn_app (goodIn_of _ (by decide +kernel)) ggX8_counts_X8_gradeOfRule
set_option maxRecDepth 20000 in
theorem ggX8_counts_X8_broken : GoodIn wsX8_counts wsX8_broken := goodIn_r _ [12, 13, 14, 18, 19, 20, 21, 22, 23, 24, 25, 26, 27, 28, 29, 30, 31, 32, 33, 34, 35, 36, 37, 38] (by decide +kernel) (by decide +kernel)
set_option maxRecDepth 20000 in
theorem gX8_counts_X8_broken : GoodIn wsX8_counts (wsV RX8 164 RX8 yX8_broken wsX8_broken) := goodIn_app (goodIn_of _ (by decide +kernel)) ggX8_counts_X8_broken
set_option maxRecDepth 20000 in
theorem ggX8_counts_X8_has : GoodIn wsX8_counts wsX8_has := goodIn_r _ [17] (by decide +kernel) (by decide +kernel)
set_option maxRecDepth 20000 in
theorem gX8_counts_X8_has : GoodIn wsX8_counts (va_wsS RX8 179 yX8_has wsX8_has) := goodIn_app (goodIn_of _ (by decide +kernel)) ggX8_counts_X8_has
theorem dX8_counts_0 : decode cX8_counts 0 = .ok (.lconst 0, 1) := by decide +kernel
theorem dX8_counts_1 : decode cX8_counts 1 = .ok (.lstore_n 2, 1) := by decide +kernel
theorem dX8_counts_2 : decode cX8_counts 2 = .ok (.iconst 0, 1) := by decide +kernel
theorem dX8_counts_3 : decode cX8_counts 3 = .ok (.istore 4, 2) := by decide +kernel
theorem dX8_counts_5 : decode cX8_counts 5 = .ok (.iload 4, 2) := by decide +kernel
theorem dX8_counts_7 : decode cX8_counts 7 = .ok (.aload_n 0, 1) := by decide +kernel
theorem dX8_counts_8 : decode cX8_counts 8 = .ok (.getfield 17, 3) := by decide +kernel
theorem dX8_counts_11 : decode cX8_counts 11 = .ok (.iconst 1, 1) := by decide +kernel
theorem dX8_counts_12 : decode cX8_counts 12 = .ok (.iaload, 1) := by decide +kernel
theorem dX8_counts_13 : decode cX8_counts 13 = .ok (.if_icmp .ge 62, 3) := by decide +kernel
theorem dX8_counts_16 : decode cX8_counts 16 = .ok (.lconst 1, 1) := by decide +kernel
theorem dX8_counts_17 : decode cX8_counts 17 = .ok (.lstore 5, 2) := by decide +kernel
theorem dX8_counts_19 : decode cX8_counts 19 = .ok (.iconst 0, 1) := by decide +kernel
theorem dX8_counts_20 : decode cX8_counts 20 = .ok (.istore 7, 2) := by decide +kernel
theorem dX8_counts_22 : decode cX8_counts 22 = .ok (.iload 7, 2) := by decide +kernel
theorem dX8_counts_24 : decode cX8_counts 24 = .ok (.aload_n 0, 1) := by decide +kernel
theorem dX8_counts_25 : decode cX8_counts 25 = .ok (.iload 4, 2) := by decide +kernel
theorem dX8_counts_27 : decode cX8_counts 27 = .ok (.invokevirtual 183, 3) := by decide +kernel
theorem dX8_counts_30 : decode cX8_counts 30 = .ok (.if_icmp .ge 17, 3) := by decide +kernel
theorem dX8_counts_33 : decode cX8_counts 33 = .ok (.lload 5, 2) := by decide +kernel
theorem dX8_counts_35 : decode cX8_counts 35 = .ok (.ldc2_w 194, 3) := by decide +kernel
theorem dX8_counts_38 : decode cX8_counts 38 = .ok (.lmul, 1) := by decide +kernel
theorem dX8_counts_39 : decode cX8_counts 39 = .ok (.lstore 5, 2) := by decide +kernel
theorem dX8_counts_41 : decode cX8_counts 41 = .ok (.iinc 7 1, 3) := by decide +kernel
theorem dX8_counts_44 : decode cX8_counts 44 = .ok (.goto (-22), 3) := by decide +kernel
theorem dX8_counts_47 : decode cX8_counts 47 = .ok (.lload_n 2, 1) := by decide +kernel
theorem dX8_counts_48 : decode cX8_counts 48 = .ok (.aload_n 0, 1) := by decide +kernel
theorem dX8_counts_49 : decode cX8_counts 49 = .ok (.iload 4, 2) := by decide +kernel
theorem dX8_counts_51 : decode cX8_counts 51 = .ok (.invokevirtual 164, 3) := by decide +kernel
theorem dX8_counts_54 : decode cX8_counts 54 = .ok (.iload_n 1, 1) := by decide +kernel
theorem dX8_counts_55 : decode cX8_counts 55 = .ok (.invokestatic 179, 3) := by decide +kernel
theorem dX8_counts_58 : decode cX8_counts 58 = .ok (.ifCond .eq 8, 3) := by decide +kernel
theorem dX8_counts_61 : decode cX8_counts 61 = .ok (.lload 5, 2) := by decide +kernel
theorem dX8_counts_63 : decode cX8_counts 63 = .ok (.goto 4, 3) := by decide +kernel
theorem dX8_counts_66 : decode cX8_counts 66 = .ok (.lconst 0, 1) := by decide +kernel
theorem dX8_counts_67 : decode cX8_counts 67 = .ok (.ladd, 1) := by decide +kernel
theorem dX8_counts_68 : decode cX8_counts 68 = .ok (.lstore_n 2, 1) := by decide +kernel
theorem dX8_counts_69 : decode cX8_counts 69 = .ok (.iinc 4 1, 3) := by decide +kernel
theorem dX8_counts_72 : decode cX8_counts 72 = .ok (.goto (-67), 3) := by decide +kernel
theorem dX8_counts_75 : decode cX8_counts 75 = .ok (.lload_n 2, 1) := by decide +kernel
theorem dX8_counts_76 : decode cX8_counts 76 = .ok (.lreturn, 1) := by decide +kernel
set_option maxRecDepth 20000 in
theorem ggX8_best_X8_in : GoodIn wsX8_best wsX8_in := goodIn_r _ [6] (by decide +kernel) (by decide +kernel)
set_option maxRecDepth 20000 in
theorem gX8_best_X8_in : GoodIn wsX8_best (va_wsS RX8 55 yX8_in wsX8_in) := goodIn_app (goodIn_of _ (by decide +kernel)) ggX8_best_X8_in
set_option maxRecDepth 20000 in
theorem ggX8_best_X8_thereNow : GoodIn wsX8_best wsX8_thereNow := goodIn_r _ [10, 11, 12, 13, 5, 14, 2, 15, 16, 38, 39, 40, 41, 42, 43, 44, 45, 46, 47, 48, 49, 50, 51, 52, 53, 54, 55, 56, 57, 58] (by decide +kernel) (by decide +kernel)
set_option maxRecDepth 20000 in
theorem gX8_best_X8_thereNow : GoodIn wsX8_best (wsV RX8 160 RX8 yX8_thereNow wsX8_thereNow) := goodIn_app (goodIn_of _ (by decide +kernel)) ggX8_best_X8_thereNow
set_option maxRecDepth 20000 in
theorem ggX8_best_X8_has : GoodIn wsX8_best wsX8_has := goodIn_r _ [19] (by decide +kernel) (by decide +kernel)
set_option maxRecDepth 20000 in
theorem gX8_best_X8_has : GoodIn wsX8_best (va_wsS RX8 179 yX8_has wsX8_has) := goodIn_app (goodIn_of _ (by decide +kernel)) ggX8_best_X8_has
set_option maxRecDepth 20000 in
theorem ggX8_best_X8_worldGrade : GoodIn wsX8_best wsX8_worldGrade := goodIn_r _ [23, 15, 7, 8, 9, 5, 10, 11, 12, 13, 14, 2, 16, 17, 18, 19, 24, 25, 26, 27, 28, 29, 30, 31, 32, 38, 39, 40, 41, 42, 43, 44, 45, 46, 47, 48, 49, 50, 51, 52, 53, 54, 55, 56, 57, 58] (by decide +kernel) (by decide +kernel)
set_option maxRecDepth 20000 in
theorem gX8_best_X8_worldGrade : GoodIn wsX8_best (wsV RX8 191 RX8 yX8_worldGrade wsX8_worldGrade) := goodIn_app (goodIn_of _ (by decide +kernel)) ggX8_best_X8_worldGrade
set_option maxRecDepth 20000 in
theorem ggX8_best_X8_counts : GoodIn wsX8_best wsX8_counts := goodIn_r _ [36, 15, 37, 28, 29, 30, 5, 31, 32, 24, 25, 26, 27, 16, 2, 17, 18, 19, 38, 39, 40, 41, 42, 43, 44, 45, 46, 47, 48, 49, 50, 51, 52, 53, 54, 55, 56, 57, 58] (by decide +kernel) (by decide +kernel)
set_option maxRecDepth 20000 in
theorem gX8_best_X8_counts : GoodIn wsX8_best (wsV RX8 196 RX8 yX8_counts wsX8_counts) := goodIn_app (goodIn_of _ (by decide +kernel)) ggX8_best_X8_counts
theorem dX8_best_0 : decode cX8_best 0 = .ok (.iload_n 1, 1) := by decide +kernel
theorem dX8_best_1 : decode cX8_best 1 = .ok (.i2l, 1) := by decide +kernel
theorem dX8_best_2 : decode cX8_best 2 = .ok (.lconst 0, 1) := by decide +kernel
theorem dX8_best_3 : decode cX8_best 3 = .ok (.lconst 1, 1) := by decide +kernel
theorem dX8_best_4 : decode cX8_best 4 = .ok (.invokestatic 55, 3) := by decide +kernel
theorem dX8_best_7 : decode cX8_best 7 = .ok (.ifCond .ne 5, 3) := by decide +kernel
theorem dX8_best_10 : decode cX8_best 10 = .ok (.lconst 0, 1) := by decide +kernel
theorem dX8_best_11 : decode cX8_best 11 = .ok (.lreturn, 1) := by decide +kernel
theorem dX8_best_12 : decode cX8_best 12 = .ok (.aload_n 0, 1) := by decide +kernel
theorem dX8_best_13 : decode cX8_best 13 = .ok (.invokevirtual 160, 3) := by decide +kernel
theorem dX8_best_16 : decode cX8_best 16 = .ok (.aload_n 0, 1) := by decide +kernel
theorem dX8_best_17 : decode cX8_best 17 = .ok (.getfield 40, 3) := by decide +kernel
theorem dX8_best_20 : decode cX8_best 20 = .ok (.land, 1) := by decide +kernel
theorem dX8_best_21 : decode cX8_best 21 = .ok (.lstore_n 2, 1) := by decide +kernel
theorem dX8_best_22 : decode cX8_best 22 = .ok (.ldc2_w 38, 3) := by decide +kernel
theorem dX8_best_25 : decode cX8_best 25 = .ok (.lstore 4, 2) := by decide +kernel
theorem dX8_best_27 : decode cX8_best 27 = .ok (.lconst 0, 1) := by decide +kernel
theorem dX8_best_28 : decode cX8_best 28 = .ok (.lstore 6, 2) := by decide +kernel
theorem dX8_best_30 : decode cX8_best 30 = .ok (.iconst 0, 1) := by decide +kernel
theorem dX8_best_31 : decode cX8_best 31 = .ok (.istore 8, 2) := by decide +kernel
theorem dX8_best_33 : decode cX8_best 33 = .ok (.iload 8, 2) := by decide +kernel
theorem dX8_best_35 : decode cX8_best 35 = .ok (.bipush 64, 2) := by decide +kernel
theorem dX8_best_37 : decode cX8_best 37 = .ok (.if_icmp .ge 83, 3) := by decide +kernel
theorem dX8_best_40 : decode cX8_best 40 = .ok (.lload_n 2, 1) := by decide +kernel
theorem dX8_best_41 : decode cX8_best 41 = .ok (.iload 8, 2) := by decide +kernel
theorem dX8_best_43 : decode cX8_best 43 = .ok (.invokestatic 179, 3) := by decide +kernel
theorem dX8_best_46 : decode cX8_best 46 = .ok (.ifCond .eq 68, 3) := by decide +kernel
theorem dX8_best_49 : decode cX8_best 49 = .ok (.iload_n 1, 1) := by decide +kernel
theorem dX8_best_50 : decode cX8_best 50 = .ok (.ifCond .ne 13, 3) := by decide +kernel
theorem dX8_best_53 : decode cX8_best 53 = .ok (.aload_n 0, 1) := by decide +kernel
theorem dX8_best_54 : decode cX8_best 54 = .ok (.iload 8, 2) := by decide +kernel
theorem dX8_best_56 : decode cX8_best 56 = .ok (.invokevirtual 191, 3) := by decide +kernel
theorem dX8_best_59 : decode cX8_best 59 = .ok (.i2l, 1) := by decide +kernel
theorem dX8_best_60 : decode cX8_best 60 = .ok (.goto 9, 3) := by decide +kernel
theorem dX8_best_63 : decode cX8_best 63 = .ok (.aload_n 0, 1) := by decide +kernel
theorem dX8_best_64 : decode cX8_best 64 = .ok (.iload 8, 2) := by decide +kernel
theorem dX8_best_66 : decode cX8_best 66 = .ok (.invokevirtual 196, 3) := by decide +kernel
theorem dX8_best_69 : decode cX8_best 69 = .ok (.lstore 9, 2) := by decide +kernel
theorem dX8_best_71 : decode cX8_best 71 = .ok (.lload 4, 2) := by decide +kernel
theorem dX8_best_73 : decode cX8_best 73 = .ok (.lconst 0, 1) := by decide +kernel
theorem dX8_best_74 : decode cX8_best 74 = .ok (.lcmp, 1) := by decide +kernel
theorem dX8_best_75 : decode cX8_best 75 = .ok (.ifCond .lt 11, 3) := by decide +kernel
theorem dX8_best_78 : decode cX8_best 78 = .ok (.lload 9, 2) := by decide +kernel
theorem dX8_best_80 : decode cX8_best 80 = .ok (.lload 4, 2) := by decide +kernel
theorem dX8_best_82 : decode cX8_best 82 = .ok (.lcmp, 1) := by decide +kernel
theorem dX8_best_83 : decode cX8_best 83 = .ok (.ifCond .ge 10, 3) := by decide +kernel
theorem dX8_best_86 : decode cX8_best 86 = .ok (.lload 9, 2) := by decide +kernel
theorem dX8_best_88 : decode cX8_best 88 = .ok (.lstore 4, 2) := by decide +kernel
theorem dX8_best_90 : decode cX8_best 90 = .ok (.lconst 0, 1) := by decide +kernel
theorem dX8_best_91 : decode cX8_best 91 = .ok (.lstore 6, 2) := by decide +kernel
theorem dX8_best_93 : decode cX8_best 93 = .ok (.lload 6, 2) := by decide +kernel
theorem dX8_best_95 : decode cX8_best 95 = .ok (.lload 9, 2) := by decide +kernel
theorem dX8_best_97 : decode cX8_best 97 = .ok (.lload 4, 2) := by decide +kernel
theorem dX8_best_99 : decode cX8_best 99 = .ok (.lcmp, 1) := by decide +kernel
theorem dX8_best_100 : decode cX8_best 100 = .ok (.ifCond .ne 10, 3) := by decide +kernel
theorem dX8_best_103 : decode cX8_best 103 = .ok (.lconst 1, 1) := by decide +kernel
theorem dX8_best_104 : decode cX8_best 104 = .ok (.iload 8, 2) := by decide +kernel
theorem dX8_best_106 : decode cX8_best 106 = .ok (.lshl, 1) := by decide +kernel
theorem dX8_best_107 : decode cX8_best 107 = .ok (.goto 4, 3) := by decide +kernel
theorem dX8_best_110 : decode cX8_best 110 = .ok (.lconst 0, 1) := by decide +kernel
theorem dX8_best_111 : decode cX8_best 111 = .ok (.lor, 1) := by decide +kernel
theorem dX8_best_112 : decode cX8_best 112 = .ok (.lstore 6, 2) := by decide +kernel
theorem dX8_best_114 : decode cX8_best 114 = .ok (.iinc 8 1, 3) := by decide +kernel
theorem dX8_best_117 : decode cX8_best 117 = .ok (.goto (-84), 3) := by decide +kernel
theorem dX8_best_120 : decode cX8_best 120 = .ok (.lload 6, 2) := by decide +kernel
theorem dX8_best_122 : decode cX8_best 122 = .ok (.lreturn, 1) := by decide +kernel
set_option maxRecDepth 20000 in
theorem ggX8_ever_X8_grades : GoodIn wsX8_ever wsX8_grades := goodIn_r _ [10, 11, 5, 2, 12, 13, 14, 9, 15, 16, 17, 18, 19, 1, 20, 21, 22, 23, 29, 30, 31, 32, 33, 34, 35, 36, 37, 38, 39, 40, 41, 42, 43, 44, 45, 46, 47, 48, 49] (by decide +kernel) (by decide +kernel)
set_option maxRecDepth 20000 in
theorem gX8_ever_X8_grades : GoodIn wsX8_ever (wsV RX8 167 RX8 yX8_grades wsX8_grades) := goodIn_app (goodIn_of _ (by decide +kernel)) ggX8_ever_X8_grades
set_option maxRecDepth 20000 in
theorem ggX8_ever_X8_rates : GoodIn wsX8_ever wsX8_rates := goodIn_r _ [27, 1, 28, 6, 7, 8, 9, 10, 11, 5, 2, 12, 13, 14, 15, 16, 17, 18, 19, 20, 21, 22, 23, 29, 30, 31, 32, 33, 34, 35, 36, 37, 38, 39, 40, 41, 42, 43, 44, 45, 46, 47, 48, 49] (by decide +kernel) (by decide +kernel)
set_option maxRecDepth 20000 in
theorem gX8_ever_X8_rates : GoodIn wsX8_ever (wsV RX8 47 RX8 yX8_rates wsX8_rates) := goodIn_app (goodIn_of _ (by decide +kernel)) ggX8_ever_X8_rates
theorem dX8_ever_0 : decode cX8_ever 0 = .ok (.aload_n 0, 1) := by decide +kernel
theorem dX8_ever_1 : decode cX8_ever 1 = .ok (.getfield 17, 3) := by decide +kernel
theorem dX8_ever_4 : decode cX8_ever 4 = .ok (.iconst 1, 1) := by decide +kernel
theorem dX8_ever_5 : decode cX8_ever 5 = .ok (.iaload, 1) := by decide +kernel
theorem dX8_ever_6 : decode cX8_ever 6 = .ok (.istore_n 1, 1) := by decide +kernel
theorem dX8_ever_7 : decode cX8_ever 7 = .ok (.aload_n 0, 1) := by decide +kernel
theorem dX8_ever_8 : decode cX8_ever 8 = .ok (.getfield 13, 3) := by decide +kernel
theorem dX8_ever_11 : decode cX8_ever 11 = .ok (.bipush 9, 2) := by decide +kernel
theorem dX8_ever_13 : decode cX8_ever 13 = .ok (.iload_n 1, 1) := by decide +kernel
theorem dX8_ever_14 : decode cX8_ever 14 = .ok (.iadd, 1) := by decide +kernel
theorem dX8_ever_15 : decode cX8_ever 15 = .ok (.aload_n 0, 1) := by decide +kernel
theorem dX8_ever_16 : decode cX8_ever 16 = .ok (.getfield 40, 3) := by decide +kernel
theorem dX8_ever_19 : decode cX8_ever 19 = .ok (.lastore, 1) := by decide +kernel
theorem dX8_ever_20 : decode cX8_ever 20 = .ok (.aload_n 0, 1) := by decide +kernel
theorem dX8_ever_21 : decode cX8_ever 21 = .ok (.getfield 13, 3) := by decide +kernel
theorem dX8_ever_24 : decode cX8_ever 24 = .ok (.bipush 18, 2) := by decide +kernel
theorem dX8_ever_26 : decode cX8_ever 26 = .ok (.iload_n 1, 1) := by decide +kernel
theorem dX8_ever_27 : decode cX8_ever 27 = .ok (.iadd, 1) := by decide +kernel
theorem dX8_ever_28 : decode cX8_ever 28 = .ok (.aload_n 0, 1) := by decide +kernel
theorem dX8_ever_29 : decode cX8_ever 29 = .ok (.getfield 44, 3) := by decide +kernel
theorem dX8_ever_32 : decode cX8_ever 32 = .ok (.ldc2_w 38, 3) := by decide +kernel
theorem dX8_ever_35 : decode cX8_ever 35 = .ok (.lxor, 1) := by decide +kernel
theorem dX8_ever_36 : decode cX8_ever 36 = .ok (.lastore, 1) := by decide +kernel
theorem dX8_ever_37 : decode cX8_ever 37 = .ok (.aload_n 0, 1) := by decide +kernel
theorem dX8_ever_38 : decode cX8_ever 38 = .ok (.iload_n 1, 1) := by decide +kernel
theorem dX8_ever_39 : decode cX8_ever 39 = .ok (.iconst 1, 1) := by decide +kernel
theorem dX8_ever_40 : decode cX8_ever 40 = .ok (.iadd, 1) := by decide +kernel
theorem dX8_ever_41 : decode cX8_ever 41 = .ok (.invokevirtual 167, 3) := by decide +kernel
theorem dX8_ever_44 : decode cX8_ever 44 = .ok (.istore_n 2, 1) := by decide +kernel
theorem dX8_ever_45 : decode cX8_ever 45 = .ok (.aload_n 0, 1) := by decide +kernel
theorem dX8_ever_46 : decode cX8_ever 46 = .ok (.invokevirtual 47, 3) := by decide +kernel
theorem dX8_ever_49 : decode cX8_ever 49 = .ok (.iload_n 2, 1) := by decide +kernel
theorem dX8_ever_50 : decode cX8_ever 50 = .ok (.ireturn, 1) := by decide +kernel
set_option maxRecDepth 20000 in
theorem ggX8_so_X8_in : GoodIn wsX8_so wsX8_in := goodIn_r _ [8] (by decide +kernel) (by decide +kernel)
set_option maxRecDepth 20000 in
theorem gX8_so_X8_in : GoodIn wsX8_so (va_wsS RX8 55 yX8_in wsX8_in) := goodIn_app (goodIn_of _ (by decide +kernel)) ggX8_so_X8_in
set_option maxRecDepth 20000 in
theorem ggX8_so_X8_ever : GoodIn wsX8_so wsX8_ever := goodIn_r _ [12, 13, 14, 2, 3, 4, 15, 16, 17, 7, 18, 19, 20, 21, 22, 23, 24, 25, 26, 27, 28, 29, 30, 31, 32, 33, 34, 35, 36, 57, 58, 59, 60, 61, 62, 63, 64, 65, 66, 67, 68, 69, 70, 71, 72, 73, 74, 75, 76, 77] (by decide +kernel) (by decide +kernel)
set_option maxRecDepth 20000 in
theorem gX8_so_X8_ever : GoodIn wsX8_so (wsV RX8 201 RX8 yX8_ever wsX8_ever) := goodIn_app (goodIn_of _ (by decide +kernel)) ggX8_so_X8_ever
set_option maxRecDepth 20000 in
theorem ggX8_so_X8_thereNow : GoodIn wsX8_so wsX8_thereNow := goodIn_r _ [23, 24, 25, 26, 7, 27, 4, 13, 14, 57, 58, 59, 60, 61, 62, 63, 64, 65, 66, 67, 68, 69, 70, 71, 72, 73, 74, 75, 76, 77] (by decide +kernel) (by decide +kernel)
set_option maxRecDepth 20000 in
theorem gX8_so_X8_thereNow : GoodIn wsX8_so (wsV RX8 160 RX8 yX8_thereNow wsX8_thereNow) := goodIn_app (goodIn_of _ (by decide +kernel)) ggX8_so_X8_thereNow
set_option maxRecDepth 20000 in
theorem ggX8_so_X8_best : GoodIn wsX8_so wsX8_best := goodIn_r _ [40, 2, 4, 5, 6, 7, 8, 20, 21, 22, 23, 24, 25, 26, 27, 13, 14, 41, 42, 43, 44, 45, 46, 47, 28, 29, 30, 31, 48, 49, 50, 51, 19, 52, 53, 54, 55, 56, 57, 58, 59, 60, 61, 62, 63, 64, 65, 66, 67, 68, 69, 70, 71, 72, 73, 74, 75, 76, 77] (by decide +kernel) (by decide +kernel)
set_option maxRecDepth 20000 in
theorem gX8_so_X8_best : GoodIn wsX8_so (wsV RX8 204 RX8 yX8_best wsX8_best) := goodIn_app (goodIn_of _ (by decide +kernel)) ggX8_so_X8_best
theorem dX8_so_0 : decode cX8_so 0 = .ok (.iload_n 1, 1) := by decide +kernel
theorem dX8_so_1 : decode cX8_so 1 = .ok (.i2l, 1) := by decide +kernel
theorem dX8_so_2 : decode cX8_so 2 = .ok (.lconst 0, 1) := by decide +kernel
theorem dX8_so_3 : decode cX8_so 3 = .ok (.ldc2_w 199, 3) := by decide +kernel
theorem dX8_so_6 : decode cX8_so 6 = .ok (.invokestatic 55, 3) := by decide +kernel
theorem dX8_so_9 : decode cX8_so 9 = .ok (.ifCond .ne 5, 3) := by decide +kernel
theorem dX8_so_12 : decode cX8_so 12 = .ok (.iconst (-1), 1) := by decide +kernel
theorem dX8_so_13 : decode cX8_so 13 = .ok (.ireturn, 1) := by decide +kernel
theorem dX8_so_14 : decode cX8_so 14 = .ok (.iload_n 1, 1) := by decide +kernel
theorem dX8_so_15 : decode cX8_so 15 = .ok (.iconst 2, 1) := by decide +kernel
theorem dX8_so_16 : decode cX8_so 16 = .ok (.if_icmp .ne 16, 3) := by decide +kernel
theorem dX8_so_19 : decode cX8_so 19 = .ok (.aload_n 0, 1) := by decide +kernel
theorem dX8_so_20 : decode cX8_so 20 = .ok (.invokevirtual 201, 3) := by decide +kernel
theorem dX8_so_23 : decode cX8_so 23 = .ok (.ifCond .eq 7, 3) := by decide +kernel
theorem dX8_so_26 : decode cX8_so 26 = .ok (.iconst 1, 1) := by decide +kernel
theorem dX8_so_27 : decode cX8_so 27 = .ok (.goto 4, 3) := by decide +kernel
theorem dX8_so_30 : decode cX8_so 30 = .ok (.iconst 0, 1) := by decide +kernel
theorem dX8_so_31 : decode cX8_so 31 = .ok (.ireturn, 1) := by decide +kernel
theorem dX8_so_32 : decode cX8_so 32 = .ok (.iload_n 1, 1) := by decide +kernel
theorem dX8_so_33 : decode cX8_so 33 = .ok (.iconst 3, 1) := by decide +kernel
theorem dX8_so_34 : decode cX8_so 34 = .ok (.if_icmp .ne 15, 3) := by decide +kernel
theorem dX8_so_37 : decode cX8_so 37 = .ok (.aload_n 0, 1) := by decide +kernel
theorem dX8_so_38 : decode cX8_so 38 = .ok (.invokevirtual 160, 3) := by decide +kernel
theorem dX8_so_41 : decode cX8_so 41 = .ok (.aload_n 0, 1) := by decide +kernel
theorem dX8_so_42 : decode cX8_so 42 = .ok (.getfield 40, 3) := by decide +kernel
theorem dX8_so_45 : decode cX8_so 45 = .ok (.land, 1) := by decide +kernel
theorem dX8_so_46 : decode cX8_so 46 = .ok (.goto 8, 3) := by decide +kernel
theorem dX8_so_49 : decode cX8_so 49 = .ok (.aload_n 0, 1) := by decide +kernel
theorem dX8_so_50 : decode cX8_so 50 = .ok (.iload_n 1, 1) := by decide +kernel
theorem dX8_so_51 : decode cX8_so 51 = .ok (.invokevirtual 204, 3) := by decide +kernel
theorem dX8_so_54 : decode cX8_so 54 = .ok (.lstore_n 2, 1) := by decide +kernel
theorem dX8_so_55 : decode cX8_so 55 = .ok (.lload_n 2, 1) := by decide +kernel
theorem dX8_so_56 : decode cX8_so 56 = .ok (.aload_n 0, 1) := by decide +kernel
theorem dX8_so_57 : decode cX8_so 57 = .ok (.getfield 44, 3) := by decide +kernel
theorem dX8_so_60 : decode cX8_so 60 = .ok (.ldc2_w 38, 3) := by decide +kernel
theorem dX8_so_63 : decode cX8_so 63 = .ok (.lxor, 1) := by decide +kernel
theorem dX8_so_64 : decode cX8_so 64 = .ok (.land, 1) := by decide +kernel
theorem dX8_so_65 : decode cX8_so 65 = .ok (.lconst 0, 1) := by decide +kernel
theorem dX8_so_66 : decode cX8_so 66 = .ok (.lcmp, 1) := by decide +kernel
theorem dX8_so_67 : decode cX8_so 67 = .ok (.ifCond .ne 7, 3) := by decide +kernel
theorem dX8_so_70 : decode cX8_so 70 = .ok (.iconst 1, 1) := by decide +kernel
theorem dX8_so_71 : decode cX8_so 71 = .ok (.goto 4, 3) := by decide +kernel
theorem dX8_so_74 : decode cX8_so 74 = .ok (.iconst 0, 1) := by decide +kernel
theorem dX8_so_75 : decode cX8_so 75 = .ok (.ireturn, 1) := by decide +kernel
set_option maxRecDepth 20000 in
theorem ggX8_leftBy_X8_groundNow : GoodIn wsX8_leftBy wsX8_groundNow := goodIn_r _ [8, 9, 10, 11, 7, 12, 13, 14, 15, 16, 3, 1, 2, 17, 18, 19, 20, 21, 22, 23, 24, 25, 26, 27, 28, 29, 30, 31, 32, 33, 34, 35, 36, 37] (by decide +kernel) (by decide +kernel)
set_option maxRecDepth 20000 in
theorem gX8_leftBy_X8_groundNow : GoodIn wsX8_leftBy (wsV RX8 173 RX8 yX8_groundNow wsX8_groundNow) := goodIn_app (goodIn_of _ (by decide +kernel)) ggX8_leftBy_X8_groundNow
theorem dX8_leftBy_0 : decode cX8_leftBy 0 = .ok (.aload_n 0, 1) := by decide +kernel
theorem dX8_leftBy_1 : decode cX8_leftBy 1 = .ok (.invokevirtual 173, 3) := by decide +kernel
theorem dX8_leftBy_4 : decode cX8_leftBy 4 = .ok (.lstore_n 2, 1) := by decide +kernel
theorem dX8_leftBy_5 : decode cX8_leftBy 5 = .ok (.iconst 0, 1) := by decide +kernel
theorem dX8_leftBy_6 : decode cX8_leftBy 6 = .ok (.istore 4, 2) := by decide +kernel
theorem dX8_leftBy_8 : decode cX8_leftBy 8 = .ok (.iconst 1, 1) := by decide +kernel
theorem dX8_leftBy_9 : decode cX8_leftBy 9 = .ok (.istore 5, 2) := by decide +kernel
theorem dX8_leftBy_11 : decode cX8_leftBy 11 = .ok (.iload 5, 2) := by decide +kernel
theorem dX8_leftBy_13 : decode cX8_leftBy 13 = .ok (.ifCond .eq 95, 3) := by decide +kernel
theorem dX8_leftBy_16 : decode cX8_leftBy 16 = .ok (.iconst 0, 1) := by decide +kernel
theorem dX8_leftBy_17 : decode cX8_leftBy 17 = .ok (.istore 5, 2) := by decide +kernel
theorem dX8_leftBy_19 : decode cX8_leftBy 19 = .ok (.iconst 0, 1) := by decide +kernel
theorem dX8_leftBy_20 : decode cX8_leftBy 20 = .ok (.istore 6, 2) := by decide +kernel
theorem dX8_leftBy_22 : decode cX8_leftBy 22 = .ok (.iload 6, 2) := by decide +kernel
theorem dX8_leftBy_24 : decode cX8_leftBy 24 = .ok (.aload_n 0, 1) := by decide +kernel
theorem dX8_leftBy_25 : decode cX8_leftBy 25 = .ok (.getfield 17, 3) := by decide +kernel
theorem dX8_leftBy_28 : decode cX8_leftBy 28 = .ok (.iconst 1, 1) := by decide +kernel
theorem dX8_leftBy_29 : decode cX8_leftBy 29 = .ok (.iaload, 1) := by decide +kernel
theorem dX8_leftBy_30 : decode cX8_leftBy 30 = .ok (.if_icmp .ge 75, 3) := by decide +kernel
theorem dX8_leftBy_33 : decode cX8_leftBy 33 = .ok (.iload_n 1, 1) := by decide +kernel
theorem dX8_leftBy_34 : decode cX8_leftBy 34 = .ok (.iload 6, 2) := by decide +kernel
theorem dX8_leftBy_36 : decode cX8_leftBy 36 = .ok (.ishr, 1) := by decide +kernel
theorem dX8_leftBy_37 : decode cX8_leftBy 37 = .ok (.iconst 1, 1) := by decide +kernel
theorem dX8_leftBy_38 : decode cX8_leftBy 38 = .ok (.iand, 1) := by decide +kernel
theorem dX8_leftBy_39 : decode cX8_leftBy 39 = .ok (.iconst 1, 1) := by decide +kernel
theorem dX8_leftBy_40 : decode cX8_leftBy 40 = .ok (.if_icmp .ne 59, 3) := by decide +kernel
theorem dX8_leftBy_43 : decode cX8_leftBy 43 = .ok (.iload 4, 2) := by decide +kernel
theorem dX8_leftBy_45 : decode cX8_leftBy 45 = .ok (.iload 6, 2) := by decide +kernel
theorem dX8_leftBy_47 : decode cX8_leftBy 47 = .ok (.ishr, 1) := by decide +kernel
theorem dX8_leftBy_48 : decode cX8_leftBy 48 = .ok (.iconst 1, 1) := by decide +kernel
theorem dX8_leftBy_49 : decode cX8_leftBy 49 = .ok (.iand, 1) := by decide +kernel
theorem dX8_leftBy_50 : decode cX8_leftBy 50 = .ok (.ifCond .ne 49, 3) := by decide +kernel
theorem dX8_leftBy_53 : decode cX8_leftBy 53 = .ok (.lload_n 2, 1) := by decide +kernel
theorem dX8_leftBy_54 : decode cX8_leftBy 54 = .ok (.aload_n 0, 1) := by decide +kernel
theorem dX8_leftBy_55 : decode cX8_leftBy 55 = .ok (.getfield 13, 3) := by decide +kernel
theorem dX8_leftBy_58 : decode cX8_leftBy 58 = .ok (.bipush 9, 2) := by decide +kernel
theorem dX8_leftBy_60 : decode cX8_leftBy 60 = .ok (.iload 6, 2) := by decide +kernel
theorem dX8_leftBy_62 : decode cX8_leftBy 62 = .ok (.iadd, 1) := by decide +kernel
theorem dX8_leftBy_63 : decode cX8_leftBy 63 = .ok (.laload, 1) := by decide +kernel
theorem dX8_leftBy_64 : decode cX8_leftBy 64 = .ok (.ldc2_w 38, 3) := by decide +kernel
theorem dX8_leftBy_67 : decode cX8_leftBy 67 = .ok (.lxor, 1) := by decide +kernel
theorem dX8_leftBy_68 : decode cX8_leftBy 68 = .ok (.land, 1) := by decide +kernel
theorem dX8_leftBy_69 : decode cX8_leftBy 69 = .ok (.lconst 0, 1) := by decide +kernel
theorem dX8_leftBy_70 : decode cX8_leftBy 70 = .ok (.lcmp, 1) := by decide +kernel
theorem dX8_leftBy_71 : decode cX8_leftBy 71 = .ok (.ifCond .ne 28, 3) := by decide +kernel
theorem dX8_leftBy_74 : decode cX8_leftBy 74 = .ok (.iload 4, 2) := by decide +kernel
theorem dX8_leftBy_76 : decode cX8_leftBy 76 = .ok (.iconst 1, 1) := by decide +kernel
theorem dX8_leftBy_77 : decode cX8_leftBy 77 = .ok (.iload 6, 2) := by decide +kernel
theorem dX8_leftBy_79 : decode cX8_leftBy 79 = .ok (.ishl, 1) := by decide +kernel
theorem dX8_leftBy_80 : decode cX8_leftBy 80 = .ok (.ior, 1) := by decide +kernel
theorem dX8_leftBy_81 : decode cX8_leftBy 81 = .ok (.istore 4, 2) := by decide +kernel
theorem dX8_leftBy_83 : decode cX8_leftBy 83 = .ok (.lload_n 2, 1) := by decide +kernel
theorem dX8_leftBy_84 : decode cX8_leftBy 84 = .ok (.aload_n 0, 1) := by decide +kernel
theorem dX8_leftBy_85 : decode cX8_leftBy 85 = .ok (.getfield 13, 3) := by decide +kernel
theorem dX8_leftBy_88 : decode cX8_leftBy 88 = .ok (.bipush 18, 2) := by decide +kernel
theorem dX8_leftBy_90 : decode cX8_leftBy 90 = .ok (.iload 6, 2) := by decide +kernel
theorem dX8_leftBy_92 : decode cX8_leftBy 92 = .ok (.iadd, 1) := by decide +kernel
theorem dX8_leftBy_93 : decode cX8_leftBy 93 = .ok (.laload, 1) := by decide +kernel
theorem dX8_leftBy_94 : decode cX8_leftBy 94 = .ok (.land, 1) := by decide +kernel
theorem dX8_leftBy_95 : decode cX8_leftBy 95 = .ok (.lstore_n 2, 1) := by decide +kernel
theorem dX8_leftBy_96 : decode cX8_leftBy 96 = .ok (.iconst 1, 1) := by decide +kernel
theorem dX8_leftBy_97 : decode cX8_leftBy 97 = .ok (.istore 5, 2) := by decide +kernel
theorem dX8_leftBy_99 : decode cX8_leftBy 99 = .ok (.iinc 6 1, 3) := by decide +kernel
theorem dX8_leftBy_102 : decode cX8_leftBy 102 = .ok (.goto (-80), 3) := by decide +kernel
theorem dX8_leftBy_105 : decode cX8_leftBy 105 = .ok (.goto (-94), 3) := by decide +kernel
theorem dX8_leftBy_108 : decode cX8_leftBy 108 = .ok (.iload 4, 2) := by decide +kernel
theorem dX8_leftBy_110 : decode cX8_leftBy 110 = .ok (.iload_n 1, 1) := by decide +kernel
theorem dX8_leftBy_111 : decode cX8_leftBy 111 = .ok (.if_icmp .ne 7, 3) := by decide +kernel
theorem dX8_leftBy_114 : decode cX8_leftBy 114 = .ok (.lload_n 2, 1) := by decide +kernel
theorem dX8_leftBy_115 : decode cX8_leftBy 115 = .ok (.goto 4, 3) := by decide +kernel
theorem dX8_leftBy_118 : decode cX8_leftBy 118 = .ok (.lconst 0, 1) := by decide +kernel
theorem dX8_leftBy_119 : decode cX8_leftBy 119 = .ok (.lreturn, 1) := by decide +kernel
set_option maxRecDepth 20000 in
theorem ggX8_isEnd_X8_leftBy : GoodIn wsX8_isEnd wsX8_leftBy := goodIn_r _ [8, 1, 2, 3, 9, 10, 11, 7, 12, 13, 14, 15, 16, 17, 18, 19, 20, 21, 22, 23, 24, 25, 26, 27, 28, 29, 30, 31, 32, 33, 34, 35, 36, 37, 38, 39, 40, 41] (by decide +kernel) (by decide +kernel)
set_option maxRecDepth 20000 in
theorem gX8_isEnd_X8_leftBy : GoodIn wsX8_isEnd (wsV RX8 207 RX8 yX8_leftBy wsX8_leftBy) := goodIn_app (goodIn_of _ (by decide +kernel)) ggX8_isEnd_X8_leftBy
theorem dX8_isEnd_0 : decode cX8_isEnd 0 = .ok (.aload_n 0, 1) := by decide +kernel
theorem dX8_isEnd_1 : decode cX8_isEnd 1 = .ok (.iload_n 1, 1) := by decide +kernel
theorem dX8_isEnd_2 : decode cX8_isEnd 2 = .ok (.invokevirtual 207, 3) := by decide +kernel
theorem dX8_isEnd_5 : decode cX8_isEnd 5 = .ok (.lstore_n 2, 1) := by decide +kernel
theorem dX8_isEnd_6 : decode cX8_isEnd 6 = .ok (.lload_n 2, 1) := by decide +kernel
theorem dX8_isEnd_7 : decode cX8_isEnd 7 = .ok (.lconst 0, 1) := by decide +kernel
theorem dX8_isEnd_8 : decode cX8_isEnd 8 = .ok (.lcmp, 1) := by decide +kernel
theorem dX8_isEnd_9 : decode cX8_isEnd 9 = .ok (.ifCond .eq 7, 3) := by decide +kernel
theorem dX8_isEnd_12 : decode cX8_isEnd 12 = .ok (.iconst 1, 1) := by decide +kernel
theorem dX8_isEnd_13 : decode cX8_isEnd 13 = .ok (.goto 4, 3) := by decide +kernel
theorem dX8_isEnd_16 : decode cX8_isEnd 16 = .ok (.iconst 0, 1) := by decide +kernel
theorem dX8_isEnd_17 : decode cX8_isEnd 17 = .ok (.istore 4, 2) := by decide +kernel
theorem dX8_isEnd_19 : decode cX8_isEnd 19 = .ok (.iconst 0, 1) := by decide +kernel
theorem dX8_isEnd_20 : decode cX8_isEnd 20 = .ok (.istore 5, 2) := by decide +kernel
theorem dX8_isEnd_22 : decode cX8_isEnd 22 = .ok (.iload 5, 2) := by decide +kernel
theorem dX8_isEnd_24 : decode cX8_isEnd 24 = .ok (.aload_n 0, 1) := by decide +kernel
theorem dX8_isEnd_25 : decode cX8_isEnd 25 = .ok (.getfield 17, 3) := by decide +kernel
theorem dX8_isEnd_28 : decode cX8_isEnd 28 = .ok (.iconst 1, 1) := by decide +kernel
theorem dX8_isEnd_29 : decode cX8_isEnd 29 = .ok (.iaload, 1) := by decide +kernel
theorem dX8_isEnd_30 : decode cX8_isEnd 30 = .ok (.if_icmp .ge 69, 3) := by decide +kernel
theorem dX8_isEnd_33 : decode cX8_isEnd 33 = .ok (.iload 4, 2) := by decide +kernel
theorem dX8_isEnd_35 : decode cX8_isEnd 35 = .ok (.ifCond .eq 64, 3) := by decide +kernel
theorem dX8_isEnd_38 : decode cX8_isEnd 38 = .ok (.iload_n 1, 1) := by decide +kernel
theorem dX8_isEnd_39 : decode cX8_isEnd 39 = .ok (.iload 5, 2) := by decide +kernel
theorem dX8_isEnd_41 : decode cX8_isEnd 41 = .ok (.ishr, 1) := by decide +kernel
theorem dX8_isEnd_42 : decode cX8_isEnd 42 = .ok (.iconst 1, 1) := by decide +kernel
theorem dX8_isEnd_43 : decode cX8_isEnd 43 = .ok (.iand, 1) := by decide +kernel
theorem dX8_isEnd_44 : decode cX8_isEnd 44 = .ok (.iconst 1, 1) := by decide +kernel
theorem dX8_isEnd_45 : decode cX8_isEnd 45 = .ok (.if_icmp .eq 41, 3) := by decide +kernel
theorem dX8_isEnd_48 : decode cX8_isEnd 48 = .ok (.lload_n 2, 1) := by decide +kernel
theorem dX8_isEnd_49 : decode cX8_isEnd 49 = .ok (.aload_n 0, 1) := by decide +kernel
theorem dX8_isEnd_50 : decode cX8_isEnd 50 = .ok (.getfield 13, 3) := by decide +kernel
theorem dX8_isEnd_53 : decode cX8_isEnd 53 = .ok (.bipush 9, 2) := by decide +kernel
theorem dX8_isEnd_55 : decode cX8_isEnd 55 = .ok (.iload 5, 2) := by decide +kernel
theorem dX8_isEnd_57 : decode cX8_isEnd 57 = .ok (.iadd, 1) := by decide +kernel
theorem dX8_isEnd_58 : decode cX8_isEnd 58 = .ok (.laload, 1) := by decide +kernel
theorem dX8_isEnd_59 : decode cX8_isEnd 59 = .ok (.ldc2_w 38, 3) := by decide +kernel
theorem dX8_isEnd_62 : decode cX8_isEnd 62 = .ok (.lxor, 1) := by decide +kernel
theorem dX8_isEnd_63 : decode cX8_isEnd 63 = .ok (.land, 1) := by decide +kernel
theorem dX8_isEnd_64 : decode cX8_isEnd 64 = .ok (.lconst 0, 1) := by decide +kernel
theorem dX8_isEnd_65 : decode cX8_isEnd 65 = .ok (.lcmp, 1) := by decide +kernel
theorem dX8_isEnd_66 : decode cX8_isEnd 66 = .ok (.ifCond .ne 20, 3) := by decide +kernel
theorem dX8_isEnd_69 : decode cX8_isEnd 69 = .ok (.lload_n 2, 1) := by decide +kernel
theorem dX8_isEnd_70 : decode cX8_isEnd 70 = .ok (.aload_n 0, 1) := by decide +kernel
theorem dX8_isEnd_71 : decode cX8_isEnd 71 = .ok (.getfield 13, 3) := by decide +kernel
theorem dX8_isEnd_74 : decode cX8_isEnd 74 = .ok (.bipush 18, 2) := by decide +kernel
theorem dX8_isEnd_76 : decode cX8_isEnd 76 = .ok (.iload 5, 2) := by decide +kernel
theorem dX8_isEnd_78 : decode cX8_isEnd 78 = .ok (.iadd, 1) := by decide +kernel
theorem dX8_isEnd_79 : decode cX8_isEnd 79 = .ok (.laload, 1) := by decide +kernel
theorem dX8_isEnd_80 : decode cX8_isEnd 80 = .ok (.land, 1) := by decide +kernel
theorem dX8_isEnd_81 : decode cX8_isEnd 81 = .ok (.lconst 0, 1) := by decide +kernel
theorem dX8_isEnd_82 : decode cX8_isEnd 82 = .ok (.lcmp, 1) := by decide +kernel
theorem dX8_isEnd_83 : decode cX8_isEnd 83 = .ok (.ifCond .ne 7, 3) := by decide +kernel
theorem dX8_isEnd_86 : decode cX8_isEnd 86 = .ok (.iconst 1, 1) := by decide +kernel
theorem dX8_isEnd_87 : decode cX8_isEnd 87 = .ok (.goto 4, 3) := by decide +kernel
theorem dX8_isEnd_90 : decode cX8_isEnd 90 = .ok (.iconst 0, 1) := by decide +kernel
theorem dX8_isEnd_91 : decode cX8_isEnd 91 = .ok (.istore 4, 2) := by decide +kernel
theorem dX8_isEnd_93 : decode cX8_isEnd 93 = .ok (.iinc 5 1, 3) := by decide +kernel
theorem dX8_isEnd_96 : decode cX8_isEnd 96 = .ok (.goto (-74), 3) := by decide +kernel
theorem dX8_isEnd_99 : decode cX8_isEnd 99 = .ok (.iload 4, 2) := by decide +kernel
theorem dX8_isEnd_101 : decode cX8_isEnd 101 = .ok (.ireturn, 1) := by decide +kernel
set_option maxRecDepth 20000 in
theorem ggX8_findEnd_X8_isEnd : GoodIn wsX8_findEnd wsX8_isEnd := goodIn_r _ [6, 1, 7, 8, 9, 10, 11, 5, 12, 13, 14, 15, 16, 17, 18, 19, 20, 21, 22, 23, 24, 25, 26, 27, 28, 29, 30, 31, 32, 33, 34, 35, 36, 37, 38, 39, 40, 41, 42, 43, 44, 45] (by decide +kernel) (by decide +kernel)
set_option maxRecDepth 20000 in
theorem gX8_findEnd_X8_isEnd : GoodIn wsX8_findEnd (wsV RX8 210 RX8 yX8_isEnd wsX8_isEnd) := goodIn_app (goodIn_of _ (by decide +kernel)) ggX8_findEnd_X8_isEnd
theorem dX8_findEnd_0 : decode cX8_findEnd 0 = .ok (.iconst 0, 1) := by decide +kernel
theorem dX8_findEnd_1 : decode cX8_findEnd 1 = .ok (.istore_n 2, 1) := by decide +kernel
theorem dX8_findEnd_2 : decode cX8_findEnd 2 = .ok (.iconst 0, 1) := by decide +kernel
theorem dX8_findEnd_3 : decode cX8_findEnd 3 = .ok (.istore_n 3, 1) := by decide +kernel
theorem dX8_findEnd_4 : decode cX8_findEnd 4 = .ok (.iload_n 3, 1) := by decide +kernel
theorem dX8_findEnd_5 : decode cX8_findEnd 5 = .ok (.iconst 1, 1) := by decide +kernel
theorem dX8_findEnd_6 : decode cX8_findEnd 6 = .ok (.aload_n 0, 1) := by decide +kernel
theorem dX8_findEnd_7 : decode cX8_findEnd 7 = .ok (.getfield 17, 3) := by decide +kernel
theorem dX8_findEnd_10 : decode cX8_findEnd 10 = .ok (.iconst 1, 1) := by decide +kernel
theorem dX8_findEnd_11 : decode cX8_findEnd 11 = .ok (.iaload, 1) := by decide +kernel
theorem dX8_findEnd_12 : decode cX8_findEnd 12 = .ok (.ishl, 1) := by decide +kernel
theorem dX8_findEnd_13 : decode cX8_findEnd 13 = .ok (.if_icmp .ge 27, 3) := by decide +kernel
theorem dX8_findEnd_16 : decode cX8_findEnd 16 = .ok (.aload_n 0, 1) := by decide +kernel
theorem dX8_findEnd_17 : decode cX8_findEnd 17 = .ok (.iload_n 3, 1) := by decide +kernel
theorem dX8_findEnd_18 : decode cX8_findEnd 18 = .ok (.invokevirtual 210, 3) := by decide +kernel
theorem dX8_findEnd_21 : decode cX8_findEnd 21 = .ok (.ifCond .eq 13, 3) := by decide +kernel
theorem dX8_findEnd_24 : decode cX8_findEnd 24 = .ok (.iload_n 2, 1) := by decide +kernel
theorem dX8_findEnd_25 : decode cX8_findEnd 25 = .ok (.iload_n 1, 1) := by decide +kernel
theorem dX8_findEnd_26 : decode cX8_findEnd 26 = .ok (.if_icmp .ne 5, 3) := by decide +kernel
theorem dX8_findEnd_29 : decode cX8_findEnd 29 = .ok (.iload_n 3, 1) := by decide +kernel
theorem dX8_findEnd_30 : decode cX8_findEnd 30 = .ok (.ireturn, 1) := by decide +kernel
theorem dX8_findEnd_31 : decode cX8_findEnd 31 = .ok (.iinc 2 1, 3) := by decide +kernel
theorem dX8_findEnd_34 : decode cX8_findEnd 34 = .ok (.iinc 3 1, 3) := by decide +kernel
theorem dX8_findEnd_37 : decode cX8_findEnd 37 = .ok (.goto (-33), 3) := by decide +kernel
theorem dX8_findEnd_40 : decode cX8_findEnd 40 = .ok (.iload_n 1, 1) := by decide +kernel
theorem dX8_findEnd_41 : decode cX8_findEnd 41 = .ok (.ifCond .ge 7, 3) := by decide +kernel
theorem dX8_findEnd_44 : decode cX8_findEnd 44 = .ok (.iload_n 2, 1) := by decide +kernel
theorem dX8_findEnd_45 : decode cX8_findEnd 45 = .ok (.goto 4, 3) := by decide +kernel
theorem dX8_findEnd_48 : decode cX8_findEnd 48 = .ok (.iconst (-1), 1) := by decide +kernel
theorem dX8_findEnd_49 : decode cX8_findEnd 49 = .ok (.ireturn, 1) := by decide +kernel
set_option maxRecDepth 20000 in
theorem ggX8_ends_X8_findEnd : GoodIn wsX8_ends wsX8_findEnd := goodIn_r _ [5, 6, 7, 8, 9, 4, 10, 11, 12, 13, 14, 15, 16, 17, 18, 19, 20, 21, 22, 23, 24, 25, 26, 27, 28, 29, 30, 31, 32, 33, 34, 35, 36, 37, 38, 39, 40, 41, 42, 43, 44, 45, 46, 47, 48, 49] (by decide +kernel) (by decide +kernel)
set_option maxRecDepth 20000 in
theorem gX8_ends_X8_findEnd : GoodIn wsX8_ends (wsV RX8 213 RX8 yX8_findEnd wsX8_findEnd) := goodIn_app (goodIn_of _ (by decide +kernel)) ggX8_ends_X8_findEnd
theorem dX8_ends_0 : decode cX8_ends 0 = .ok (.iload_n 1, 1) := by decide +kernel
theorem dX8_ends_1 : decode cX8_ends 1 = .ok (.iconst (-1), 1) := by decide +kernel
theorem dX8_ends_2 : decode cX8_ends 2 = .ok (.if_icmp .ge 7, 3) := by decide +kernel
theorem dX8_ends_5 : decode cX8_ends 5 = .ok (.iconst (-1), 1) := by decide +kernel
theorem dX8_ends_6 : decode cX8_ends 6 = .ok (.goto 8, 3) := by decide +kernel
theorem dX8_ends_9 : decode cX8_ends 9 = .ok (.aload_n 0, 1) := by decide +kernel
theorem dX8_ends_10 : decode cX8_ends 10 = .ok (.iload_n 1, 1) := by decide +kernel
theorem dX8_ends_11 : decode cX8_ends 11 = .ok (.invokevirtual 213, 3) := by decide +kernel
theorem dX8_ends_14 : decode cX8_ends 14 = .ok (.ireturn, 1) := by decide +kernel
set_option maxRecDepth 20000 in
theorem ggX8_leaves_X8_findEnd : GoodIn wsX8_leaves wsX8_findEnd := goodIn_r _ [5, 6, 7, 8, 9, 4, 10, 11, 12, 13, 14, 15, 16, 17, 18, 19, 20, 21, 22, 23, 24, 25, 26, 27, 28, 29, 30, 31, 32, 33, 34, 35, 36, 37, 38, 39, 40, 41, 42, 43, 44, 45, 46, 47, 48, 49] (by decide +kernel) (by decide +kernel)
set_option maxRecDepth 20000 in
theorem gX8_leaves_X8_findEnd : GoodIn wsX8_leaves (wsV RX8 213 RX8 yX8_findEnd wsX8_findEnd) := goodIn_app (goodIn_of _ (by decide +kernel)) ggX8_leaves_X8_findEnd
set_option maxRecDepth 20000 in
theorem ggX8_leaves_X8_leftBy : GoodIn wsX8_leaves wsX8_leftBy := goodIn_r _ [16, 6, 11, 12, 17, 18, 19, 4, 20, 21, 22, 23, 24, 25, 26, 27, 28, 29, 30, 31, 32, 33, 34, 35, 36, 37, 38, 39, 40, 41, 42, 43, 44, 45, 46, 47, 48, 49] (by decide +kernel) (by decide +kernel)
set_option maxRecDepth 20000 in
theorem gX8_leaves_X8_leftBy : GoodIn wsX8_leaves (wsV RX8 207 RX8 yX8_leftBy wsX8_leftBy) := goodIn_app (goodIn_of _ (by decide +kernel)) ggX8_leaves_X8_leftBy
theorem dX8_leaves_0 : decode cX8_leaves 0 = .ok (.iload_n 1, 1) := by decide +kernel
theorem dX8_leaves_1 : decode cX8_leaves 1 = .ok (.ifCond .ge 7, 3) := by decide +kernel
theorem dX8_leaves_4 : decode cX8_leaves 4 = .ok (.iconst (-1), 1) := by decide +kernel
theorem dX8_leaves_5 : decode cX8_leaves 5 = .ok (.goto 8, 3) := by decide +kernel
theorem dX8_leaves_8 : decode cX8_leaves 8 = .ok (.aload_n 0, 1) := by decide +kernel
theorem dX8_leaves_9 : decode cX8_leaves 9 = .ok (.iload_n 1, 1) := by decide +kernel
theorem dX8_leaves_10 : decode cX8_leaves 10 = .ok (.invokevirtual 213, 3) := by decide +kernel
theorem dX8_leaves_13 : decode cX8_leaves 13 = .ok (.istore_n 2, 1) := by decide +kernel
theorem dX8_leaves_14 : decode cX8_leaves 14 = .ok (.iload_n 2, 1) := by decide +kernel
theorem dX8_leaves_15 : decode cX8_leaves 15 = .ok (.ifCond .ge 7, 3) := by decide +kernel
theorem dX8_leaves_18 : decode cX8_leaves 18 = .ok (.lconst 0, 1) := by decide +kernel
theorem dX8_leaves_19 : decode cX8_leaves 19 = .ok (.goto 8, 3) := by decide +kernel
theorem dX8_leaves_22 : decode cX8_leaves 22 = .ok (.aload_n 0, 1) := by decide +kernel
theorem dX8_leaves_23 : decode cX8_leaves 23 = .ok (.iload_n 2, 1) := by decide +kernel
theorem dX8_leaves_24 : decode cX8_leaves 24 = .ok (.invokevirtual 207, 3) := by decide +kernel
theorem dX8_leaves_27 : decode cX8_leaves 27 = .ok (.lreturn, 1) := by decide +kernel
set_option maxRecDepth 20000 in
theorem ggX8_held_X8_isEnd : GoodIn wsX8_held wsX8_isEnd := goodIn_r _ [8, 1, 9, 3, 10, 11, 12, 7, 13, 14, 15, 16, 17, 18, 19, 20, 21, 22, 23, 24, 25, 26, 27, 28, 29, 30, 31, 32, 33, 34, 35, 36, 37, 38, 39, 40, 41, 42, 43, 44, 45, 46] (by decide +kernel) (by decide +kernel)
set_option maxRecDepth 20000 in
theorem gX8_held_X8_isEnd : GoodIn wsX8_held (wsV RX8 210 RX8 yX8_isEnd wsX8_isEnd) := goodIn_app (goodIn_of _ (by decide +kernel)) ggX8_held_X8_isEnd
set_option maxRecDepth 20000 in
theorem ggX8_held_X8_leftBy : GoodIn wsX8_held wsX8_leftBy := goodIn_r _ [13, 1, 9, 3, 14, 15, 16, 7, 17, 18, 19, 20, 21, 22, 23, 24, 25, 26, 27, 28, 29, 30, 31, 32, 33, 34, 35, 36, 37, 38, 39, 40, 41, 42, 43, 44, 45, 46] (by decide +kernel) (by decide +kernel)
set_option maxRecDepth 20000 in
theorem gX8_held_X8_leftBy : GoodIn wsX8_held (wsV RX8 207 RX8 yX8_leftBy wsX8_leftBy) := goodIn_app (goodIn_of _ (by decide +kernel)) ggX8_held_X8_leftBy
theorem dX8_held_0 : decode cX8_held 0 = .ok (.iconst 0, 1) := by decide +kernel
theorem dX8_held_1 : decode cX8_held 1 = .ok (.istore_n 1, 1) := by decide +kernel
theorem dX8_held_2 : decode cX8_held 2 = .ok (.iconst 0, 1) := by decide +kernel
theorem dX8_held_3 : decode cX8_held 3 = .ok (.istore_n 2, 1) := by decide +kernel
theorem dX8_held_4 : decode cX8_held 4 = .ok (.iload_n 2, 1) := by decide +kernel
theorem dX8_held_5 : decode cX8_held 5 = .ok (.iconst 1, 1) := by decide +kernel
theorem dX8_held_6 : decode cX8_held 6 = .ok (.aload_n 0, 1) := by decide +kernel
theorem dX8_held_7 : decode cX8_held 7 = .ok (.getfield 17, 3) := by decide +kernel
theorem dX8_held_10 : decode cX8_held 10 = .ok (.iconst 1, 1) := by decide +kernel
theorem dX8_held_11 : decode cX8_held 11 = .ok (.iaload, 1) := by decide +kernel
theorem dX8_held_12 : decode cX8_held 12 = .ok (.ishl, 1) := by decide +kernel
theorem dX8_held_13 : decode cX8_held 13 = .ok (.if_icmp .ge 44, 3) := by decide +kernel
theorem dX8_held_16 : decode cX8_held 16 = .ok (.iload_n 1, 1) := by decide +kernel
theorem dX8_held_17 : decode cX8_held 17 = .ok (.aload_n 0, 1) := by decide +kernel
theorem dX8_held_18 : decode cX8_held 18 = .ok (.iload_n 2, 1) := by decide +kernel
theorem dX8_held_19 : decode cX8_held 19 = .ok (.invokevirtual 210, 3) := by decide +kernel
theorem dX8_held_22 : decode cX8_held 22 = .ok (.ifCond .eq 26, 3) := by decide +kernel
theorem dX8_held_25 : decode cX8_held 25 = .ok (.aload_n 0, 1) := by decide +kernel
theorem dX8_held_26 : decode cX8_held 26 = .ok (.iload_n 2, 1) := by decide +kernel
theorem dX8_held_27 : decode cX8_held 27 = .ok (.invokevirtual 207, 3) := by decide +kernel
theorem dX8_held_30 : decode cX8_held 30 = .ok (.aload_n 0, 1) := by decide +kernel
theorem dX8_held_31 : decode cX8_held 31 = .ok (.getfield 44, 3) := by decide +kernel
theorem dX8_held_34 : decode cX8_held 34 = .ok (.ldc2_w 38, 3) := by decide +kernel
theorem dX8_held_37 : decode cX8_held 37 = .ok (.lxor, 1) := by decide +kernel
theorem dX8_held_38 : decode cX8_held 38 = .ok (.land, 1) := by decide +kernel
theorem dX8_held_39 : decode cX8_held 39 = .ok (.lconst 0, 1) := by decide +kernel
theorem dX8_held_40 : decode cX8_held 40 = .ok (.lcmp, 1) := by decide +kernel
theorem dX8_held_41 : decode cX8_held 41 = .ok (.ifCond .ne 7, 3) := by decide +kernel
theorem dX8_held_44 : decode cX8_held 44 = .ok (.iconst 1, 1) := by decide +kernel
theorem dX8_held_45 : decode cX8_held 45 = .ok (.goto 4, 3) := by decide +kernel
theorem dX8_held_48 : decode cX8_held 48 = .ok (.iconst 0, 1) := by decide +kernel
theorem dX8_held_49 : decode cX8_held 49 = .ok (.iadd, 1) := by decide +kernel
theorem dX8_held_50 : decode cX8_held 50 = .ok (.istore_n 1, 1) := by decide +kernel
theorem dX8_held_51 : decode cX8_held 51 = .ok (.iinc 2 1, 3) := by decide +kernel
theorem dX8_held_54 : decode cX8_held 54 = .ok (.goto (-50), 3) := by decide +kernel
theorem dX8_held_57 : decode cX8_held 57 = .ok (.iload_n 1, 1) := by decide +kernel
theorem dX8_held_58 : decode cX8_held 58 = .ok (.ireturn, 1) := by decide +kernel
set_option maxRecDepth 20000 in
theorem ggX8_tells_X8_groundNow : GoodIn wsX8_tells wsX8_groundNow := goodIn_r _ [9, 10, 11, 12, 8, 13, 14, 15, 16, 17, 3, 1, 2, 18, 19, 20, 21, 22, 23, 24, 25, 26, 27, 28, 29, 30, 31, 32, 33, 34, 35, 36, 37, 38] (by decide +kernel) (by decide +kernel)
set_option maxRecDepth 20000 in
theorem gX8_tells_X8_groundNow : GoodIn wsX8_tells (wsV RX8 173 RX8 yX8_groundNow wsX8_groundNow) := goodIn_app (goodIn_of _ (by decide +kernel)) ggX8_tells_X8_groundNow
theorem dX8_tells_0 : decode cX8_tells 0 = .ok (.aload_n 0, 1) := by decide +kernel
theorem dX8_tells_1 : decode cX8_tells 1 = .ok (.invokevirtual 173, 3) := by decide +kernel
theorem dX8_tells_4 : decode cX8_tells 4 = .ok (.lstore_n 2, 1) := by decide +kernel
theorem dX8_tells_5 : decode cX8_tells 5 = .ok (.iconst 0, 1) := by decide +kernel
theorem dX8_tells_6 : decode cX8_tells 6 = .ok (.istore 4, 2) := by decide +kernel
theorem dX8_tells_8 : decode cX8_tells 8 = .ok (.iload 4, 2) := by decide +kernel
theorem dX8_tells_10 : decode cX8_tells 10 = .ok (.aload_n 0, 1) := by decide +kernel
theorem dX8_tells_11 : decode cX8_tells 11 = .ok (.getfield 17, 3) := by decide +kernel
theorem dX8_tells_14 : decode cX8_tells 14 = .ok (.iconst 4, 1) := by decide +kernel
theorem dX8_tells_15 : decode cX8_tells 15 = .ok (.iaload, 1) := by decide +kernel
theorem dX8_tells_16 : decode cX8_tells 16 = .ok (.if_icmp .ge 38, 3) := by decide +kernel
theorem dX8_tells_19 : decode cX8_tells 19 = .ok (.lload_n 2, 1) := by decide +kernel
theorem dX8_tells_20 : decode cX8_tells 20 = .ok (.iload_n 1, 1) := by decide +kernel
theorem dX8_tells_21 : decode cX8_tells 21 = .ok (.iload 4, 2) := by decide +kernel
theorem dX8_tells_23 : decode cX8_tells 23 = .ok (.ishr, 1) := by decide +kernel
theorem dX8_tells_24 : decode cX8_tells 24 = .ok (.iconst 1, 1) := by decide +kernel
theorem dX8_tells_25 : decode cX8_tells 25 = .ok (.iand, 1) := by decide +kernel
theorem dX8_tells_26 : decode cX8_tells 26 = .ok (.iconst 1, 1) := by decide +kernel
theorem dX8_tells_27 : decode cX8_tells 27 = .ok (.if_icmp .ne 16, 3) := by decide +kernel
theorem dX8_tells_30 : decode cX8_tells 30 = .ok (.aload_n 0, 1) := by decide +kernel
theorem dX8_tells_31 : decode cX8_tells 31 = .ok (.getfield 13, 3) := by decide +kernel
theorem dX8_tells_34 : decode cX8_tells 34 = .ok (.bipush 36, 2) := by decide +kernel
theorem dX8_tells_36 : decode cX8_tells 36 = .ok (.iload 4, 2) := by decide +kernel
theorem dX8_tells_38 : decode cX8_tells 38 = .ok (.iadd, 1) := by decide +kernel
theorem dX8_tells_39 : decode cX8_tells 39 = .ok (.laload, 1) := by decide +kernel
theorem dX8_tells_40 : decode cX8_tells 40 = .ok (.goto 6, 3) := by decide +kernel
theorem dX8_tells_43 : decode cX8_tells 43 = .ok (.ldc2_w 38, 3) := by decide +kernel
theorem dX8_tells_46 : decode cX8_tells 46 = .ok (.land, 1) := by decide +kernel
theorem dX8_tells_47 : decode cX8_tells 47 = .ok (.lstore_n 2, 1) := by decide +kernel
theorem dX8_tells_48 : decode cX8_tells 48 = .ok (.iinc 4 1, 3) := by decide +kernel
theorem dX8_tells_51 : decode cX8_tells 51 = .ok (.goto (-43), 3) := by decide +kernel
theorem dX8_tells_54 : decode cX8_tells 54 = .ok (.lload_n 2, 1) := by decide +kernel
theorem dX8_tells_55 : decode cX8_tells 55 = .ok (.lconst 0, 1) := by decide +kernel
theorem dX8_tells_56 : decode cX8_tells 56 = .ok (.lcmp, 1) := by decide +kernel
theorem dX8_tells_57 : decode cX8_tells 57 = .ok (.ifCond .eq 22, 3) := by decide +kernel
theorem dX8_tells_60 : decode cX8_tells 60 = .ok (.lload_n 2, 1) := by decide +kernel
theorem dX8_tells_61 : decode cX8_tells 61 = .ok (.aload_n 0, 1) := by decide +kernel
theorem dX8_tells_62 : decode cX8_tells 62 = .ok (.getfield 44, 3) := by decide +kernel
theorem dX8_tells_65 : decode cX8_tells 65 = .ok (.ldc2_w 38, 3) := by decide +kernel
theorem dX8_tells_68 : decode cX8_tells 68 = .ok (.lxor, 1) := by decide +kernel
theorem dX8_tells_69 : decode cX8_tells 69 = .ok (.land, 1) := by decide +kernel
theorem dX8_tells_70 : decode cX8_tells 70 = .ok (.lconst 0, 1) := by decide +kernel
theorem dX8_tells_71 : decode cX8_tells 71 = .ok (.lcmp, 1) := by decide +kernel
theorem dX8_tells_72 : decode cX8_tells 72 = .ok (.ifCond .ne 7, 3) := by decide +kernel
theorem dX8_tells_75 : decode cX8_tells 75 = .ok (.iconst 1, 1) := by decide +kernel
theorem dX8_tells_76 : decode cX8_tells 76 = .ok (.goto 4, 3) := by decide +kernel
theorem dX8_tells_79 : decode cX8_tells 79 = .ok (.iconst 0, 1) := by decide +kernel
theorem dX8_tells_80 : decode cX8_tells 80 = .ok (.ireturn, 1) := by decide +kernel
set_option maxRecDepth 20000 in
theorem ggX8_isWhy_X8_tells : GoodIn wsX8_isWhy wsX8_tells := goodIn_r _ [6, 1, 7, 8, 9, 10, 11, 12, 5, 13, 14, 15, 16, 17, 18, 19, 20, 21, 22, 23, 24, 25, 26, 27, 28, 29, 30, 31, 32, 33, 34, 35, 36, 37, 38, 39, 40, 41, 42] (by decide +kernel) (by decide +kernel)
set_option maxRecDepth 20000 in
theorem gX8_isWhy_X8_tells : GoodIn wsX8_isWhy (wsV RX8 216 RX8 yX8_tells wsX8_tells) := goodIn_app (goodIn_of _ (by decide +kernel)) ggX8_isWhy_X8_tells
theorem dX8_isWhy_0 : decode cX8_isWhy 0 = .ok (.aload_n 0, 1) := by decide +kernel
theorem dX8_isWhy_1 : decode cX8_isWhy 1 = .ok (.iload_n 1, 1) := by decide +kernel
theorem dX8_isWhy_2 : decode cX8_isWhy 2 = .ok (.invokevirtual 216, 3) := by decide +kernel
theorem dX8_isWhy_5 : decode cX8_isWhy 5 = .ok (.istore_n 2, 1) := by decide +kernel
theorem dX8_isWhy_6 : decode cX8_isWhy 6 = .ok (.iconst 0, 1) := by decide +kernel
theorem dX8_isWhy_7 : decode cX8_isWhy 7 = .ok (.istore_n 3, 1) := by decide +kernel
theorem dX8_isWhy_8 : decode cX8_isWhy 8 = .ok (.iload_n 3, 1) := by decide +kernel
theorem dX8_isWhy_9 : decode cX8_isWhy 9 = .ok (.aload_n 0, 1) := by decide +kernel
theorem dX8_isWhy_10 : decode cX8_isWhy 10 = .ok (.getfield 17, 3) := by decide +kernel
theorem dX8_isWhy_13 : decode cX8_isWhy 13 = .ok (.iconst 4, 1) := by decide +kernel
theorem dX8_isWhy_14 : decode cX8_isWhy 14 = .ok (.iaload, 1) := by decide +kernel
theorem dX8_isWhy_15 : decode cX8_isWhy 15 = .ok (.if_icmp .ge 39, 3) := by decide +kernel
theorem dX8_isWhy_18 : decode cX8_isWhy 18 = .ok (.iload_n 2, 1) := by decide +kernel
theorem dX8_isWhy_19 : decode cX8_isWhy 19 = .ok (.ifCond .eq 35, 3) := by decide +kernel
theorem dX8_isWhy_22 : decode cX8_isWhy 22 = .ok (.iload_n 1, 1) := by decide +kernel
theorem dX8_isWhy_23 : decode cX8_isWhy 23 = .ok (.iload_n 3, 1) := by decide +kernel
theorem dX8_isWhy_24 : decode cX8_isWhy 24 = .ok (.ishr, 1) := by decide +kernel
theorem dX8_isWhy_25 : decode cX8_isWhy 25 = .ok (.iconst 1, 1) := by decide +kernel
theorem dX8_isWhy_26 : decode cX8_isWhy 26 = .ok (.iand, 1) := by decide +kernel
theorem dX8_isWhy_27 : decode cX8_isWhy 27 = .ok (.ifCond .eq 15, 3) := by decide +kernel
theorem dX8_isWhy_30 : decode cX8_isWhy 30 = .ok (.aload_n 0, 1) := by decide +kernel
theorem dX8_isWhy_31 : decode cX8_isWhy 31 = .ok (.iload_n 1, 1) := by decide +kernel
theorem dX8_isWhy_32 : decode cX8_isWhy 32 = .ok (.iconst 1, 1) := by decide +kernel
theorem dX8_isWhy_33 : decode cX8_isWhy 33 = .ok (.iload_n 3, 1) := by decide +kernel
theorem dX8_isWhy_34 : decode cX8_isWhy 34 = .ok (.ishl, 1) := by decide +kernel
theorem dX8_isWhy_35 : decode cX8_isWhy 35 = .ok (.ixor, 1) := by decide +kernel
theorem dX8_isWhy_36 : decode cX8_isWhy 36 = .ok (.invokevirtual 216, 3) := by decide +kernel
theorem dX8_isWhy_39 : decode cX8_isWhy 39 = .ok (.ifCond .ne 7, 3) := by decide +kernel
theorem dX8_isWhy_42 : decode cX8_isWhy 42 = .ok (.iconst 1, 1) := by decide +kernel
theorem dX8_isWhy_43 : decode cX8_isWhy 43 = .ok (.goto 4, 3) := by decide +kernel
theorem dX8_isWhy_46 : decode cX8_isWhy 46 = .ok (.iconst 0, 1) := by decide +kernel
theorem dX8_isWhy_47 : decode cX8_isWhy 47 = .ok (.istore_n 2, 1) := by decide +kernel
theorem dX8_isWhy_48 : decode cX8_isWhy 48 = .ok (.iinc 3 1, 3) := by decide +kernel
theorem dX8_isWhy_51 : decode cX8_isWhy 51 = .ok (.goto (-43), 3) := by decide +kernel
theorem dX8_isWhy_54 : decode cX8_isWhy 54 = .ok (.iload_n 2, 1) := by decide +kernel
theorem dX8_isWhy_55 : decode cX8_isWhy 55 = .ok (.ireturn, 1) := by decide +kernel
set_option maxRecDepth 20000 in
theorem ggX8_sizeOf_X8_has : GoodIn wsX8_sizeOf wsX8_has := goodIn_r _ [4] (by decide +kernel) (by decide +kernel)
set_option maxRecDepth 20000 in
theorem gX8_sizeOf_X8_has : GoodIn wsX8_sizeOf (va_wsS RX8 179 yX8_has wsX8_has) := goodIn_app (goodIn_of _ (by decide +kernel)) ggX8_sizeOf_X8_has
theorem dX8_sizeOf_0 : decode cX8_sizeOf 0 = .ok (.iconst 0, 1) := by decide +kernel
theorem dX8_sizeOf_1 : decode cX8_sizeOf 1 = .ok (.istore_n 2, 1) := by decide +kernel
theorem dX8_sizeOf_2 : decode cX8_sizeOf 2 = .ok (.iconst 0, 1) := by decide +kernel
theorem dX8_sizeOf_3 : decode cX8_sizeOf 3 = .ok (.istore_n 3, 1) := by decide +kernel
theorem dX8_sizeOf_4 : decode cX8_sizeOf 4 = .ok (.iload_n 3, 1) := by decide +kernel
theorem dX8_sizeOf_5 : decode cX8_sizeOf 5 = .ok (.bipush 64, 2) := by decide +kernel
theorem dX8_sizeOf_7 : decode cX8_sizeOf 7 = .ok (.if_icmp .ge 25, 3) := by decide +kernel
theorem dX8_sizeOf_10 : decode cX8_sizeOf 10 = .ok (.iload_n 2, 1) := by decide +kernel
theorem dX8_sizeOf_11 : decode cX8_sizeOf 11 = .ok (.lload_n 0, 1) := by decide +kernel
theorem dX8_sizeOf_12 : decode cX8_sizeOf 12 = .ok (.iload_n 3, 1) := by decide +kernel
theorem dX8_sizeOf_13 : decode cX8_sizeOf 13 = .ok (.invokestatic 179, 3) := by decide +kernel
theorem dX8_sizeOf_16 : decode cX8_sizeOf 16 = .ok (.ifCond .eq 7, 3) := by decide +kernel
theorem dX8_sizeOf_19 : decode cX8_sizeOf 19 = .ok (.iconst 1, 1) := by decide +kernel
theorem dX8_sizeOf_20 : decode cX8_sizeOf 20 = .ok (.goto 4, 3) := by decide +kernel
theorem dX8_sizeOf_23 : decode cX8_sizeOf 23 = .ok (.iconst 0, 1) := by decide +kernel
theorem dX8_sizeOf_24 : decode cX8_sizeOf 24 = .ok (.iadd, 1) := by decide +kernel
theorem dX8_sizeOf_25 : decode cX8_sizeOf 25 = .ok (.istore_n 2, 1) := by decide +kernel
theorem dX8_sizeOf_26 : decode cX8_sizeOf 26 = .ok (.iinc 3 1, 3) := by decide +kernel
theorem dX8_sizeOf_29 : decode cX8_sizeOf 29 = .ok (.goto (-25), 3) := by decide +kernel
theorem dX8_sizeOf_32 : decode cX8_sizeOf 32 = .ok (.iload_n 2, 1) := by decide +kernel
theorem dX8_sizeOf_33 : decode cX8_sizeOf 33 = .ok (.ireturn, 1) := by decide +kernel
set_option maxRecDepth 20000 in
theorem ggX8_why_X8_sizeOf : GoodIn wsX8_why wsX8_sizeOf := goodIn_r _ [5, 6, 7, 4, 8] (by decide +kernel) (by decide +kernel)
set_option maxRecDepth 20000 in
theorem gX8_why_X8_sizeOf : GoodIn wsX8_why (va_wsS RX8 219 yX8_sizeOf wsX8_sizeOf) := goodIn_app (goodIn_of _ (by decide +kernel)) ggX8_why_X8_sizeOf
set_option maxRecDepth 20000 in
theorem ggX8_why_X8_isWhy : GoodIn wsX8_why wsX8_isWhy := goodIn_r _ [12, 1, 13, 14, 15, 4, 16, 17, 18, 19, 20, 21, 22, 23, 24, 25, 26, 27, 28, 29, 30, 31, 32, 33, 34, 35, 36, 37, 38, 39, 40, 41, 42, 43, 44, 45, 46, 47, 48, 49, 50, 51, 52] (by decide +kernel) (by decide +kernel)
set_option maxRecDepth 20000 in
theorem gX8_why_X8_isWhy : GoodIn wsX8_why (wsV RX8 223 RX8 yX8_isWhy wsX8_isWhy) := goodIn_app (goodIn_of _ (by decide +kernel)) ggX8_why_X8_isWhy
theorem dX8_why_0 : decode cX8_why 0 = .ok (.iload_n 1, 1) := by decide +kernel
theorem dX8_why_1 : decode cX8_why 1 = .ok (.iconst (-1), 1) := by decide +kernel
theorem dX8_why_2 : decode cX8_why 2 = .ok (.if_icmp .ge 5, 3) := by decide +kernel
theorem dX8_why_5 : decode cX8_why 5 = .ok (.iconst (-1), 1) := by decide +kernel
theorem dX8_why_6 : decode cX8_why 6 = .ok (.ireturn, 1) := by decide +kernel
theorem dX8_why_7 : decode cX8_why 7 = .ok (.iconst 0, 1) := by decide +kernel
theorem dX8_why_8 : decode cX8_why 8 = .ok (.istore_n 2, 1) := by decide +kernel
theorem dX8_why_9 : decode cX8_why 9 = .ok (.iconst 0, 1) := by decide +kernel
theorem dX8_why_10 : decode cX8_why 10 = .ok (.istore_n 3, 1) := by decide +kernel
theorem dX8_why_11 : decode cX8_why 11 = .ok (.iload_n 3, 1) := by decide +kernel
theorem dX8_why_12 : decode cX8_why 12 = .ok (.aload_n 0, 1) := by decide +kernel
theorem dX8_why_13 : decode cX8_why 13 = .ok (.getfield 17, 3) := by decide +kernel
theorem dX8_why_16 : decode cX8_why 16 = .ok (.iconst 4, 1) := by decide +kernel
theorem dX8_why_17 : decode cX8_why 17 = .ok (.iaload, 1) := by decide +kernel
theorem dX8_why_18 : decode cX8_why 18 = .ok (.if_icmp .gt 61, 3) := by decide +kernel
theorem dX8_why_21 : decode cX8_why 21 = .ok (.iconst 0, 1) := by decide +kernel
theorem dX8_why_22 : decode cX8_why 22 = .ok (.istore 4, 2) := by decide +kernel
theorem dX8_why_24 : decode cX8_why 24 = .ok (.iload 4, 2) := by decide +kernel
theorem dX8_why_26 : decode cX8_why 26 = .ok (.iconst 1, 1) := by decide +kernel
theorem dX8_why_27 : decode cX8_why 27 = .ok (.aload_n 0, 1) := by decide +kernel
theorem dX8_why_28 : decode cX8_why 28 = .ok (.getfield 17, 3) := by decide +kernel
theorem dX8_why_31 : decode cX8_why 31 = .ok (.iconst 4, 1) := by decide +kernel
theorem dX8_why_32 : decode cX8_why 32 = .ok (.iaload, 1) := by decide +kernel
theorem dX8_why_33 : decode cX8_why 33 = .ok (.ishl, 1) := by decide +kernel
theorem dX8_why_34 : decode cX8_why 34 = .ok (.if_icmp .ge 39, 3) := by decide +kernel
theorem dX8_why_37 : decode cX8_why 37 = .ok (.iload 4, 2) := by decide +kernel
theorem dX8_why_39 : decode cX8_why 39 = .ok (.i2l, 1) := by decide +kernel
theorem dX8_why_40 : decode cX8_why 40 = .ok (.invokestatic 219, 3) := by decide +kernel
theorem dX8_why_43 : decode cX8_why 43 = .ok (.iload_n 3, 1) := by decide +kernel
theorem dX8_why_44 : decode cX8_why 44 = .ok (.if_icmp .ne 23, 3) := by decide +kernel
theorem dX8_why_47 : decode cX8_why 47 = .ok (.aload_n 0, 1) := by decide +kernel
theorem dX8_why_48 : decode cX8_why 48 = .ok (.iload 4, 2) := by decide +kernel
theorem dX8_why_50 : decode cX8_why 50 = .ok (.invokevirtual 223, 3) := by decide +kernel
theorem dX8_why_53 : decode cX8_why 53 = .ok (.ifCond .eq 14, 3) := by decide +kernel
theorem dX8_why_56 : decode cX8_why 56 = .ok (.iload_n 2, 1) := by decide +kernel
theorem dX8_why_57 : decode cX8_why 57 = .ok (.iload_n 1, 1) := by decide +kernel
theorem dX8_why_58 : decode cX8_why 58 = .ok (.if_icmp .ne 6, 3) := by decide +kernel
theorem dX8_why_61 : decode cX8_why 61 = .ok (.iload 4, 2) := by decide +kernel
theorem dX8_why_63 : decode cX8_why 63 = .ok (.ireturn, 1) := by decide +kernel
theorem dX8_why_64 : decode cX8_why 64 = .ok (.iinc 2 1, 3) := by decide +kernel
theorem dX8_why_67 : decode cX8_why 67 = .ok (.iinc 4 1, 3) := by decide +kernel
theorem dX8_why_70 : decode cX8_why 70 = .ok (.goto (-46), 3) := by decide +kernel
theorem dX8_why_73 : decode cX8_why 73 = .ok (.iinc 3 1, 3) := by decide +kernel
theorem dX8_why_76 : decode cX8_why 76 = .ok (.goto (-65), 3) := by decide +kernel
theorem dX8_why_79 : decode cX8_why 79 = .ok (.iload_n 1, 1) := by decide +kernel
theorem dX8_why_80 : decode cX8_why 80 = .ok (.iconst (-1), 1) := by decide +kernel
theorem dX8_why_81 : decode cX8_why 81 = .ok (.if_icmp .ne 7, 3) := by decide +kernel
theorem dX8_why_84 : decode cX8_why 84 = .ok (.iload_n 2, 1) := by decide +kernel
theorem dX8_why_85 : decode cX8_why 85 = .ok (.goto 4, 3) := by decide +kernel
theorem dX8_why_88 : decode cX8_why 88 = .ok (.iconst (-1), 1) := by decide +kernel
theorem dX8_why_89 : decode cX8_why 89 = .ok (.ireturn, 1) := by decide +kernel
set_option maxRecDepth 20000 in
theorem ggX8_forgets_X8_worldGrade : GoodIn wsX8_forgets wsX8_worldGrade := goodIn_r _ [6, 7, 8, 9, 10, 5, 11, 12, 13, 14, 15, 16, 17, 18, 19, 20, 21, 22, 23, 24, 25, 26, 27, 28, 29, 30, 31, 32, 33, 34, 35, 36, 37, 38, 39, 40, 41, 42, 43, 44, 45, 46, 47, 48, 49, 50] (by decide +kernel) (by decide +kernel)
set_option maxRecDepth 20000 in
theorem gX8_forgets_X8_worldGrade : GoodIn wsX8_forgets (wsV RX8 191 RX8 yX8_worldGrade wsX8_worldGrade) := goodIn_app (goodIn_of _ (by decide +kernel)) ggX8_forgets_X8_worldGrade
theorem dX8_forgets_0 : decode cX8_forgets 0 = .ok (.iconst 0, 1) := by decide +kernel
theorem dX8_forgets_1 : decode cX8_forgets 1 = .ok (.istore_n 1, 1) := by decide +kernel
theorem dX8_forgets_2 : decode cX8_forgets 2 = .ok (.iload_n 1, 1) := by decide +kernel
theorem dX8_forgets_3 : decode cX8_forgets 3 = .ok (.bipush 64, 2) := by decide +kernel
theorem dX8_forgets_5 : decode cX8_forgets 5 = .ok (.if_icmp .ge 20, 3) := by decide +kernel
theorem dX8_forgets_8 : decode cX8_forgets 8 = .ok (.aload_n 0, 1) := by decide +kernel
theorem dX8_forgets_9 : decode cX8_forgets 9 = .ok (.getfield 23, 3) := by decide +kernel
theorem dX8_forgets_12 : decode cX8_forgets 12 = .ok (.iload_n 1, 1) := by decide +kernel
theorem dX8_forgets_13 : decode cX8_forgets 13 = .ok (.aload_n 0, 1) := by decide +kernel
theorem dX8_forgets_14 : decode cX8_forgets 14 = .ok (.iload_n 1, 1) := by decide +kernel
theorem dX8_forgets_15 : decode cX8_forgets 15 = .ok (.invokevirtual 191, 3) := by decide +kernel
theorem dX8_forgets_18 : decode cX8_forgets 18 = .ok (.iastore, 1) := by decide +kernel
theorem dX8_forgets_19 : decode cX8_forgets 19 = .ok (.iinc 1 1, 3) := by decide +kernel
theorem dX8_forgets_22 : decode cX8_forgets 22 = .ok (.goto (-20), 3) := by decide +kernel
theorem dX8_forgets_25 : decode cX8_forgets 25 = .ok (.return_, 1) := by decide +kernel
theorem dX8_plain_0 : decode cX8_plain 0 = .ok (.iconst 0, 1) := by decide +kernel
theorem dX8_plain_1 : decode cX8_plain 1 = .ok (.istore_n 1, 1) := by decide +kernel
theorem dX8_plain_2 : decode cX8_plain 2 = .ok (.iconst 0, 1) := by decide +kernel
theorem dX8_plain_3 : decode cX8_plain 3 = .ok (.istore_n 2, 1) := by decide +kernel
theorem dX8_plain_4 : decode cX8_plain 4 = .ok (.iload_n 2, 1) := by decide +kernel
theorem dX8_plain_5 : decode cX8_plain 5 = .ok (.bipush 64, 2) := by decide +kernel
theorem dX8_plain_7 : decode cX8_plain 7 = .ok (.if_icmp .ge 26, 3) := by decide +kernel
theorem dX8_plain_10 : decode cX8_plain 10 = .ok (.iload_n 1, 1) := by decide +kernel
theorem dX8_plain_11 : decode cX8_plain 11 = .ok (.aload_n 0, 1) := by decide +kernel
theorem dX8_plain_12 : decode cX8_plain 12 = .ok (.getfield 23, 3) := by decide +kernel
theorem dX8_plain_15 : decode cX8_plain 15 = .ok (.iload_n 2, 1) := by decide +kernel
theorem dX8_plain_16 : decode cX8_plain 16 = .ok (.iaload, 1) := by decide +kernel
theorem dX8_plain_17 : decode cX8_plain 17 = .ok (.ifCond .ne 7, 3) := by decide +kernel
theorem dX8_plain_20 : decode cX8_plain 20 = .ok (.iconst 1, 1) := by decide +kernel
theorem dX8_plain_21 : decode cX8_plain 21 = .ok (.goto 4, 3) := by decide +kernel
theorem dX8_plain_24 : decode cX8_plain 24 = .ok (.iconst 0, 1) := by decide +kernel
theorem dX8_plain_25 : decode cX8_plain 25 = .ok (.iadd, 1) := by decide +kernel
theorem dX8_plain_26 : decode cX8_plain 26 = .ok (.istore_n 1, 1) := by decide +kernel
theorem dX8_plain_27 : decode cX8_plain 27 = .ok (.iinc 2 1, 3) := by decide +kernel
theorem dX8_plain_30 : decode cX8_plain 30 = .ok (.goto (-26), 3) := by decide +kernel
theorem dX8_plain_33 : decode cX8_plain 33 = .ok (.iload_n 1, 1) := by decide +kernel
theorem dX8_plain_34 : decode cX8_plain 34 = .ok (.ireturn, 1) := by decide +kernel
set_option maxRecDepth 20000 in
theorem ggX8_leastOf_X8_has : GoodIn wsX8_leastOf wsX8_has := goodIn_r _ [5] (by decide +kernel) (by decide +kernel)
set_option maxRecDepth 20000 in
theorem gX8_leastOf_X8_has : GoodIn wsX8_leastOf (va_wsS RX8 179 yX8_has wsX8_has) := goodIn_app (goodIn_of _ (by decide +kernel)) ggX8_leastOf_X8_has
theorem dX8_leastOf_0 : decode cX8_leastOf 0 = .ok (.sipush 1000, 3) := by decide +kernel
theorem dX8_leastOf_3 : decode cX8_leastOf 3 = .ok (.istore_n 3, 1) := by decide +kernel
theorem dX8_leastOf_4 : decode cX8_leastOf 4 = .ok (.iconst 0, 1) := by decide +kernel
theorem dX8_leastOf_5 : decode cX8_leastOf 5 = .ok (.istore 4, 2) := by decide +kernel
theorem dX8_leastOf_7 : decode cX8_leastOf 7 = .ok (.iload 4, 2) := by decide +kernel
theorem dX8_leastOf_9 : decode cX8_leastOf 9 = .ok (.bipush 64, 2) := by decide +kernel
theorem dX8_leastOf_11 : decode cX8_leastOf 11 = .ok (.if_icmp .ge 51, 3) := by decide +kernel
theorem dX8_leastOf_14 : decode cX8_leastOf 14 = .ok (.aload_n 0, 1) := by decide +kernel
theorem dX8_leastOf_15 : decode cX8_leastOf 15 = .ok (.getfield 23, 3) := by decide +kernel
theorem dX8_leastOf_18 : decode cX8_leastOf 18 = .ok (.iload 4, 2) := by decide +kernel
theorem dX8_leastOf_20 : decode cX8_leastOf 20 = .ok (.iaload, 1) := by decide +kernel
theorem dX8_leastOf_21 : decode cX8_leastOf 21 = .ok (.ifCond .lt 33, 3) := by decide +kernel
theorem dX8_leastOf_24 : decode cX8_leastOf 24 = .ok (.lload_n 1, 1) := by decide +kernel
theorem dX8_leastOf_25 : decode cX8_leastOf 25 = .ok (.iload 4, 2) := by decide +kernel
theorem dX8_leastOf_27 : decode cX8_leastOf 27 = .ok (.invokestatic 179, 3) := by decide +kernel
theorem dX8_leastOf_30 : decode cX8_leastOf 30 = .ok (.ifCond .eq 24, 3) := by decide +kernel
theorem dX8_leastOf_33 : decode cX8_leastOf 33 = .ok (.aload_n 0, 1) := by decide +kernel
theorem dX8_leastOf_34 : decode cX8_leastOf 34 = .ok (.getfield 23, 3) := by decide +kernel
theorem dX8_leastOf_37 : decode cX8_leastOf 37 = .ok (.iload 4, 2) := by decide +kernel
theorem dX8_leastOf_39 : decode cX8_leastOf 39 = .ok (.iaload, 1) := by decide +kernel
theorem dX8_leastOf_40 : decode cX8_leastOf 40 = .ok (.iload_n 3, 1) := by decide +kernel
theorem dX8_leastOf_41 : decode cX8_leastOf 41 = .ok (.if_icmp .ge 13, 3) := by decide +kernel
theorem dX8_leastOf_44 : decode cX8_leastOf 44 = .ok (.aload_n 0, 1) := by decide +kernel
theorem dX8_leastOf_45 : decode cX8_leastOf 45 = .ok (.getfield 23, 3) := by decide +kernel
theorem dX8_leastOf_48 : decode cX8_leastOf 48 = .ok (.iload 4, 2) := by decide +kernel
theorem dX8_leastOf_50 : decode cX8_leastOf 50 = .ok (.iaload, 1) := by decide +kernel
theorem dX8_leastOf_51 : decode cX8_leastOf 51 = .ok (.goto 4, 3) := by decide +kernel
theorem dX8_leastOf_54 : decode cX8_leastOf 54 = .ok (.iload_n 3, 1) := by decide +kernel
theorem dX8_leastOf_55 : decode cX8_leastOf 55 = .ok (.istore_n 3, 1) := by decide +kernel
theorem dX8_leastOf_56 : decode cX8_leastOf 56 = .ok (.iinc 4 1, 3) := by decide +kernel
theorem dX8_leastOf_59 : decode cX8_leastOf 59 = .ok (.goto (-52), 3) := by decide +kernel
theorem dX8_leastOf_62 : decode cX8_leastOf 62 = .ok (.iload_n 3, 1) := by decide +kernel
theorem dX8_leastOf_63 : decode cX8_leastOf 63 = .ok (.ireturn, 1) := by decide +kernel
set_option maxRecDepth 20000 in
theorem ggX8_doubt_X8_isWorld : GoodIn wsX8_doubt wsX8_isWorld := goodIn_r _ [5, 6, 7, 8, 4, 9] (by decide +kernel) (by decide +kernel)
set_option maxRecDepth 20000 in
theorem gX8_doubt_X8_isWorld : GoodIn wsX8_doubt (va_wsS RX8 188 yX8_isWorld wsX8_isWorld) := goodIn_app (goodIn_of _ (by decide +kernel)) ggX8_doubt_X8_isWorld
theorem dX8_doubt_0 : decode cX8_doubt 0 = .ok (.iload_n 1, 1) := by decide +kernel
theorem dX8_doubt_1 : decode cX8_doubt 1 = .ok (.invokestatic 188, 3) := by decide +kernel
theorem dX8_doubt_4 : decode cX8_doubt 4 = .ok (.ifCond .eq 12, 3) := by decide +kernel
theorem dX8_doubt_7 : decode cX8_doubt 7 = .ok (.aload_n 0, 1) := by decide +kernel
theorem dX8_doubt_8 : decode cX8_doubt 8 = .ok (.getfield 23, 3) := by decide +kernel
theorem dX8_doubt_11 : decode cX8_doubt 11 = .ok (.iload_n 1, 1) := by decide +kernel
theorem dX8_doubt_12 : decode cX8_doubt 12 = .ok (.iaload, 1) := by decide +kernel
theorem dX8_doubt_13 : decode cX8_doubt 13 = .ok (.goto 4, 3) := by decide +kernel
theorem dX8_doubt_16 : decode cX8_doubt 16 = .ok (.iconst (-1), 1) := by decide +kernel
theorem dX8_doubt_17 : decode cX8_doubt 17 = .ok (.ireturn, 1) := by decide +kernel
set_option maxRecDepth 20000 in
theorem ggX8_learn_X8_in : GoodIn wsX8_learn wsX8_in := goodIn_r _ [8] (by decide +kernel) (by decide +kernel)
set_option maxRecDepth 20000 in
theorem gX8_learn_X8_in : GoodIn wsX8_learn (va_wsS RX8 55 yX8_in wsX8_in) := goodIn_app (goodIn_of _ (by decide +kernel)) ggX8_learn_X8_in
set_option maxRecDepth 20000 in
theorem ggX8_learn_X8_leastOf : GoodIn wsX8_learn wsX8_leastOf := goodIn_r _ [12, 4, 13, 14, 7, 15, 20, 21, 22, 23, 24, 25, 26, 27, 28, 29, 30, 31, 32, 33, 34, 35, 36, 37, 38, 39, 40] (by decide +kernel) (by decide +kernel)
set_option maxRecDepth 20000 in
theorem gX8_learn_X8_leastOf : GoodIn wsX8_learn (wsV RX8 228 RX8 yX8_leastOf wsX8_leastOf) := goodIn_app (goodIn_of _ (by decide +kernel)) ggX8_learn_X8_leastOf
set_option maxRecDepth 20000 in
theorem ggX8_learn_X8_has : GoodIn wsX8_learn wsX8_has := goodIn_r _ [15] (by decide +kernel) (by decide +kernel)
set_option maxRecDepth 20000 in
theorem gX8_learn_X8_has : GoodIn wsX8_learn (va_wsS RX8 179 yX8_has wsX8_has) := goodIn_app (goodIn_of _ (by decide +kernel)) ggX8_learn_X8_has
set_option maxRecDepth 20000 in
theorem ggX8_learn_X8_plain : GoodIn wsX8_learn wsX8_plain := goodIn_r _ [19, 4, 20, 21, 22, 23, 24, 25, 26, 27, 28, 29, 30, 31, 32, 33, 34, 35, 36, 37, 38, 39, 40] (by decide +kernel) (by decide +kernel)
set_option maxRecDepth 20000 in
theorem gX8_learn_X8_plain : GoodIn wsX8_learn (wsV RX8 231 RX8 yX8_plain wsX8_plain) := goodIn_app (goodIn_of _ (by decide +kernel)) ggX8_learn_X8_plain
theorem dX8_learn_0 : decode cX8_learn 0 = .ok (.iload_n 1, 1) := by decide +kernel
theorem dX8_learn_1 : decode cX8_learn 1 = .ok (.i2l, 1) := by decide +kernel
theorem dX8_learn_2 : decode cX8_learn 2 = .ok (.lconst 1, 1) := by decide +kernel
theorem dX8_learn_3 : decode cX8_learn 3 = .ok (.ldc2_w 226, 3) := by decide +kernel
theorem dX8_learn_6 : decode cX8_learn 6 = .ok (.invokestatic 55, 3) := by decide +kernel
theorem dX8_learn_9 : decode cX8_learn 9 = .ok (.ifCond .ne 5, 3) := by decide +kernel
theorem dX8_learn_12 : decode cX8_learn 12 = .ok (.iconst (-1), 1) := by decide +kernel
theorem dX8_learn_13 : decode cX8_learn 13 = .ok (.ireturn, 1) := by decide +kernel
theorem dX8_learn_14 : decode cX8_learn 14 = .ok (.aload_n 0, 1) := by decide +kernel
theorem dX8_learn_15 : decode cX8_learn 15 = .ok (.aload_n 0, 1) := by decide +kernel
theorem dX8_learn_16 : decode cX8_learn 16 = .ok (.getfield 44, 3) := by decide +kernel
theorem dX8_learn_19 : decode cX8_learn 19 = .ok (.invokevirtual 228, 3) := by decide +kernel
theorem dX8_learn_22 : decode cX8_learn 22 = .ok (.istore_n 2, 1) := by decide +kernel
theorem dX8_learn_23 : decode cX8_learn 23 = .ok (.aload_n 0, 1) := by decide +kernel
theorem dX8_learn_24 : decode cX8_learn 24 = .ok (.aload_n 0, 1) := by decide +kernel
theorem dX8_learn_25 : decode cX8_learn 25 = .ok (.getfield 44, 3) := by decide +kernel
theorem dX8_learn_28 : decode cX8_learn 28 = .ok (.ldc2_w 38, 3) := by decide +kernel
theorem dX8_learn_31 : decode cX8_learn 31 = .ok (.lxor, 1) := by decide +kernel
theorem dX8_learn_32 : decode cX8_learn 32 = .ok (.invokevirtual 228, 3) := by decide +kernel
theorem dX8_learn_35 : decode cX8_learn 35 = .ok (.istore_n 3, 1) := by decide +kernel
theorem dX8_learn_36 : decode cX8_learn 36 = .ok (.iload_n 2, 1) := by decide +kernel
theorem dX8_learn_37 : decode cX8_learn 37 = .ok (.sipush 1000, 3) := by decide +kernel
theorem dX8_learn_40 : decode cX8_learn 40 = .ok (.if_icmp .eq 10, 3) := by decide +kernel
theorem dX8_learn_43 : decode cX8_learn 43 = .ok (.iload_n 3, 1) := by decide +kernel
theorem dX8_learn_44 : decode cX8_learn 44 = .ok (.sipush 1000, 3) := by decide +kernel
theorem dX8_learn_47 : decode cX8_learn 47 = .ok (.if_icmp .ne 6, 3) := by decide +kernel
theorem dX8_learn_50 : decode cX8_learn 50 = .ok (.bipush (-2), 2) := by decide +kernel
theorem dX8_learn_52 : decode cX8_learn 52 = .ok (.ireturn, 1) := by decide +kernel
theorem dX8_learn_53 : decode cX8_learn 53 = .ok (.iconst 0, 1) := by decide +kernel
theorem dX8_learn_54 : decode cX8_learn 54 = .ok (.istore 4, 2) := by decide +kernel
theorem dX8_learn_56 : decode cX8_learn 56 = .ok (.iload 4, 2) := by decide +kernel
theorem dX8_learn_58 : decode cX8_learn 58 = .ok (.bipush 64, 2) := by decide +kernel
theorem dX8_learn_60 : decode cX8_learn 60 = .ok (.if_icmp .ge 77, 3) := by decide +kernel
theorem dX8_learn_63 : decode cX8_learn 63 = .ok (.aload_n 0, 1) := by decide +kernel
theorem dX8_learn_64 : decode cX8_learn 64 = .ok (.getfield 23, 3) := by decide +kernel
theorem dX8_learn_67 : decode cX8_learn 67 = .ok (.iload 4, 2) := by decide +kernel
theorem dX8_learn_69 : decode cX8_learn 69 = .ok (.iaload, 1) := by decide +kernel
theorem dX8_learn_70 : decode cX8_learn 70 = .ok (.ifCond .lt 61, 3) := by decide +kernel
theorem dX8_learn_73 : decode cX8_learn 73 = .ok (.aload_n 0, 1) := by decide +kernel
theorem dX8_learn_74 : decode cX8_learn 74 = .ok (.getfield 44, 3) := by decide +kernel
theorem dX8_learn_77 : decode cX8_learn 77 = .ok (.iload 4, 2) := by decide +kernel
theorem dX8_learn_79 : decode cX8_learn 79 = .ok (.invokestatic 179, 3) := by decide +kernel
theorem dX8_learn_82 : decode cX8_learn 82 = .ok (.ifCond .eq 15, 3) := by decide +kernel
theorem dX8_learn_85 : decode cX8_learn 85 = .ok (.aload_n 0, 1) := by decide +kernel
theorem dX8_learn_86 : decode cX8_learn 86 = .ok (.getfield 23, 3) := by decide +kernel
theorem dX8_learn_89 : decode cX8_learn 89 = .ok (.iload 4, 2) := by decide +kernel
theorem dX8_learn_91 : decode cX8_learn 91 = .ok (.iaload, 1) := by decide +kernel
theorem dX8_learn_92 : decode cX8_learn 92 = .ok (.iload_n 2, 1) := by decide +kernel
theorem dX8_learn_93 : decode cX8_learn 93 = .ok (.isub, 1) := by decide +kernel
theorem dX8_learn_94 : decode cX8_learn 94 = .ok (.goto 14, 3) := by decide +kernel
theorem dX8_learn_97 : decode cX8_learn 97 = .ok (.aload_n 0, 1) := by decide +kernel
theorem dX8_learn_98 : decode cX8_learn 98 = .ok (.getfield 23, 3) := by decide +kernel
theorem dX8_learn_101 : decode cX8_learn 101 = .ok (.iload 4, 2) := by decide +kernel
theorem dX8_learn_103 : decode cX8_learn 103 = .ok (.iaload, 1) := by decide +kernel
theorem dX8_learn_104 : decode cX8_learn 104 = .ok (.iload_n 3, 1) := by decide +kernel
theorem dX8_learn_105 : decode cX8_learn 105 = .ok (.isub, 1) := by decide +kernel
theorem dX8_learn_106 : decode cX8_learn 106 = .ok (.iload_n 1, 1) := by decide +kernel
theorem dX8_learn_107 : decode cX8_learn 107 = .ok (.iadd, 1) := by decide +kernel
theorem dX8_learn_108 : decode cX8_learn 108 = .ok (.istore 5, 2) := by decide +kernel
theorem dX8_learn_110 : decode cX8_learn 110 = .ok (.aload_n 0, 1) := by decide +kernel
theorem dX8_learn_111 : decode cX8_learn 111 = .ok (.getfield 23, 3) := by decide +kernel
theorem dX8_learn_114 : decode cX8_learn 114 = .ok (.iload 4, 2) := by decide +kernel
theorem dX8_learn_116 : decode cX8_learn 116 = .ok (.iload 5, 2) := by decide +kernel
theorem dX8_learn_118 : decode cX8_learn 118 = .ok (.bipush 99, 2) := by decide +kernel
theorem dX8_learn_120 : decode cX8_learn 120 = .ok (.if_icmp .le 8, 3) := by decide +kernel
theorem dX8_learn_123 : decode cX8_learn 123 = .ok (.bipush 99, 2) := by decide +kernel
theorem dX8_learn_125 : decode cX8_learn 125 = .ok (.goto 5, 3) := by decide +kernel
theorem dX8_learn_128 : decode cX8_learn 128 = .ok (.iload 5, 2) := by decide +kernel
theorem dX8_learn_130 : decode cX8_learn 130 = .ok (.iastore, 1) := by decide +kernel
theorem dX8_learn_131 : decode cX8_learn 131 = .ok (.iinc 4 1, 3) := by decide +kernel
theorem dX8_learn_134 : decode cX8_learn 134 = .ok (.goto (-78), 3) := by decide +kernel
theorem dX8_learn_137 : decode cX8_learn 137 = .ok (.aload_n 0, 1) := by decide +kernel
theorem dX8_learn_138 : decode cX8_learn 138 = .ok (.invokevirtual 231, 3) := by decide +kernel
theorem dX8_learn_141 : decode cX8_learn 141 = .ok (.ireturn, 1) := by decide +kernel
set_option maxRecDepth 20000 in
theorem ggX8_believed_X8_leastOf : GoodIn wsX8_believed wsX8_leastOf := goodIn_r _ [7, 8, 9, 10, 6, 11, 12, 13, 14, 15, 16, 17, 18, 19, 20, 21, 22, 23, 24, 25, 26, 27, 28, 29, 30, 31, 32] (by decide +kernel) (by decide +kernel)
set_option maxRecDepth 20000 in
theorem gX8_believed_X8_leastOf : GoodIn wsX8_believed (wsV RX8 228 RX8 yX8_leastOf wsX8_leastOf) := goodIn_app (goodIn_of _ (by decide +kernel)) ggX8_believed_X8_leastOf
theorem dX8_believed_0 : decode cX8_believed 0 = .ok (.aload_n 0, 1) := by decide +kernel
theorem dX8_believed_1 : decode cX8_believed 1 = .ok (.aload_n 0, 1) := by decide +kernel
theorem dX8_believed_2 : decode cX8_believed 2 = .ok (.getfield 44, 3) := by decide +kernel
theorem dX8_believed_5 : decode cX8_believed 5 = .ok (.invokevirtual 228, 3) := by decide +kernel
theorem dX8_believed_8 : decode cX8_believed 8 = .ok (.istore_n 1, 1) := by decide +kernel
theorem dX8_believed_9 : decode cX8_believed 9 = .ok (.aload_n 0, 1) := by decide +kernel
theorem dX8_believed_10 : decode cX8_believed 10 = .ok (.aload_n 0, 1) := by decide +kernel
theorem dX8_believed_11 : decode cX8_believed 11 = .ok (.getfield 44, 3) := by decide +kernel
theorem dX8_believed_14 : decode cX8_believed 14 = .ok (.ldc2_w 38, 3) := by decide +kernel
theorem dX8_believed_17 : decode cX8_believed 17 = .ok (.lxor, 1) := by decide +kernel
theorem dX8_believed_18 : decode cX8_believed 18 = .ok (.invokevirtual 228, 3) := by decide +kernel
theorem dX8_believed_21 : decode cX8_believed 21 = .ok (.istore_n 2, 1) := by decide +kernel
theorem dX8_believed_22 : decode cX8_believed 22 = .ok (.iload_n 2, 1) := by decide +kernel
theorem dX8_believed_23 : decode cX8_believed 23 = .ok (.sipush 1000, 3) := by decide +kernel
theorem dX8_believed_26 : decode cX8_believed 26 = .ok (.if_icmp .ne 8, 3) := by decide +kernel
theorem dX8_believed_29 : decode cX8_believed 29 = .ok (.bipush 99, 2) := by decide +kernel
theorem dX8_believed_31 : decode cX8_believed 31 = .ok (.goto 18, 3) := by decide +kernel
theorem dX8_believed_34 : decode cX8_believed 34 = .ok (.iload_n 1, 1) := by decide +kernel
theorem dX8_believed_35 : decode cX8_believed 35 = .ok (.sipush 1000, 3) := by decide +kernel
theorem dX8_believed_38 : decode cX8_believed 38 = .ok (.if_icmp .ne 8, 3) := by decide +kernel
theorem dX8_believed_41 : decode cX8_believed 41 = .ok (.bipush (-99), 2) := by decide +kernel
theorem dX8_believed_43 : decode cX8_believed 43 = .ok (.goto 6, 3) := by decide +kernel
theorem dX8_believed_46 : decode cX8_believed 46 = .ok (.iload_n 2, 1) := by decide +kernel
theorem dX8_believed_47 : decode cX8_believed 47 = .ok (.iload_n 1, 1) := by decide +kernel
theorem dX8_believed_48 : decode cX8_believed 48 = .ok (.isub, 1) := by decide +kernel
theorem dX8_believed_49 : decode cX8_believed 49 = .ok (.ireturn, 1) := by decide +kernel
set_option maxRecDepth 20000 in
theorem ggX8_forget_X8_forgets : GoodIn wsX8_forget wsX8_forgets := goodIn_r _ [5, 6, 7, 8, 9, 4, 10, 11, 12, 13, 14, 15, 16, 17, 18, 19, 20, 21, 22, 23, 24, 25, 26, 27, 28, 29, 30, 31, 32, 33, 38, 39, 40, 41, 42, 43, 44, 45, 46, 47, 48, 49, 50, 51, 52, 53, 54, 55, 56, 57, 58] (by decide +kernel) (by decide +kernel)
set_option maxRecDepth 20000 in
theorem gX8_forget_X8_forgets : GoodIn wsX8_forget (wsV RX8 50 RX8 yX8_forgets wsX8_forgets) := goodIn_app (goodIn_of _ (by decide +kernel)) ggX8_forget_X8_forgets
set_option maxRecDepth 20000 in
theorem ggX8_forget_X8_plain : GoodIn wsX8_forget wsX8_plain := goodIn_r _ [37, 6, 38, 39, 40, 41, 42, 43, 44, 45, 46, 47, 48, 49, 50, 51, 52, 53, 54, 55, 56, 57, 58] (by decide +kernel) (by decide +kernel)
set_option maxRecDepth 20000 in
theorem gX8_forget_X8_plain : GoodIn wsX8_forget (wsV RX8 231 RX8 yX8_plain wsX8_plain) := goodIn_app (goodIn_of _ (by decide +kernel)) ggX8_forget_X8_plain
theorem dX8_forget_0 : decode cX8_forget 0 = .ok (.aload_n 0, 1) := by decide +kernel
theorem dX8_forget_1 : decode cX8_forget 1 = .ok (.invokevirtual 50, 3) := by decide +kernel
theorem dX8_forget_4 : decode cX8_forget 4 = .ok (.aload_n 0, 1) := by decide +kernel
theorem dX8_forget_5 : decode cX8_forget 5 = .ok (.invokevirtual 231, 3) := by decide +kernel
theorem dX8_forget_8 : decode cX8_forget 8 = .ok (.ireturn, 1) := by decide +kernel
theorem dX8_adds_0 : decode cX8_adds 0 = .ok (.aload_n 0, 1) := by decide +kernel
theorem dX8_adds_1 : decode cX8_adds 1 = .ok (.dup, 1) := by decide +kernel
theorem dX8_adds_2 : decode cX8_adds 2 = .ok (.getfield 235, 3) := by decide +kernel
theorem dX8_adds_5 : decode cX8_adds 5 = .ok (.iload_n 1, 1) := by decide +kernel
theorem dX8_adds_6 : decode cX8_adds 6 = .ok (.i2l, 1) := by decide +kernel
theorem dX8_adds_7 : decode cX8_adds 7 = .ok (.ladd, 1) := by decide +kernel
theorem dX8_adds_8 : decode cX8_adds 8 = .ok (.putfield 235, 3) := by decide +kernel
theorem dX8_adds_11 : decode cX8_adds 11 = .ok (.iconst 0, 1) := by decide +kernel
theorem dX8_adds_12 : decode cX8_adds 12 = .ok (.ireturn, 1) := by decide +kernel
set_option maxRecDepth 20000 in
theorem ggX8_saying_X8_adds : GoodIn wsX8_saying wsX8_adds := goodIn_r _ [6, 7, 24, 25, 26, 27, 28, 29, 30, 31, 32, 33, 34, 35, 36, 37, 38, 39, 40, 41, 42, 43, 44] (by decide +kernel) (by decide +kernel)
set_option maxRecDepth 20000 in
theorem gX8_saying_X8_adds : GoodIn wsX8_saying (wsV RX8 238 RX8 yX8_adds wsX8_adds) := goodIn_app (goodIn_of _ (by decide +kernel)) ggX8_saying_X8_adds
set_option maxRecDepth 20000 in
theorem ggX8_saying_X8_thereNow : GoodIn wsX8_saying wsX8_thereNow := goodIn_r _ [11, 12, 13, 14, 5, 15, 16, 17, 1, 24, 25, 26, 27, 28, 29, 30, 31, 32, 33, 34, 35, 36, 37, 38, 39, 40, 41, 42, 43, 44] (by decide +kernel) (by decide +kernel)
set_option maxRecDepth 20000 in
theorem gX8_saying_X8_thereNow : GoodIn wsX8_saying (wsV RX8 160 RX8 yX8_thereNow wsX8_thereNow) := goodIn_app (goodIn_of _ (by decide +kernel)) ggX8_saying_X8_thereNow
set_option maxRecDepth 20000 in
theorem ggX8_saying_X8_sizeOf : GoodIn wsX8_saying wsX8_sizeOf := goodIn_r _ [20, 21, 22, 5, 23] (by decide +kernel) (by decide +kernel)
set_option maxRecDepth 20000 in
theorem gX8_saying_X8_sizeOf : GoodIn wsX8_saying (va_wsS RX8 219 yX8_sizeOf wsX8_sizeOf) := goodIn_app (goodIn_of _ (by decide +kernel)) ggX8_saying_X8_sizeOf
theorem dX8_saying_0 : decode cX8_saying 0 = .ok (.aload_n 0, 1) := by decide +kernel
theorem dX8_saying_1 : decode cX8_saying 1 = .ok (.iconst 1, 1) := by decide +kernel
theorem dX8_saying_2 : decode cX8_saying 2 = .ok (.invokevirtual 238, 3) := by decide +kernel
theorem dX8_saying_5 : decode cX8_saying 5 = .ok (.aload_n 0, 1) := by decide +kernel
theorem dX8_saying_6 : decode cX8_saying 6 = .ok (.invokevirtual 160, 3) := by decide +kernel
theorem dX8_saying_9 : decode cX8_saying 9 = .ok (.aload_n 0, 1) := by decide +kernel
theorem dX8_saying_10 : decode cX8_saying 10 = .ok (.getfield 13, 3) := by decide +kernel
theorem dX8_saying_13 : decode cX8_saying 13 = .ok (.bipush 9, 2) := by decide +kernel
theorem dX8_saying_15 : decode cX8_saying 15 = .ok (.iload_n 1, 1) := by decide +kernel
theorem dX8_saying_16 : decode cX8_saying 16 = .ok (.iadd, 1) := by decide +kernel
theorem dX8_saying_17 : decode cX8_saying 17 = .ok (.laload, 1) := by decide +kernel
theorem dX8_saying_18 : decode cX8_saying 18 = .ok (.land, 1) := by decide +kernel
theorem dX8_saying_19 : decode cX8_saying 19 = .ok (.invokestatic 219, 3) := by decide +kernel
theorem dX8_saying_22 : decode cX8_saying 22 = .ok (.iadd, 1) := by decide +kernel
theorem dX8_saying_23 : decode cX8_saying 23 = .ok (.ireturn, 1) := by decide +kernel
set_option maxRecDepth 20000 in
theorem ggX8_ruled_X8_adds : GoodIn wsX8_ruled wsX8_adds := goodIn_r _ [5, 6, 33, 34, 35, 36, 37, 38, 39, 40, 41, 42, 43, 44, 45, 46, 47, 48, 49, 50, 51, 52, 53] (by decide +kernel) (by decide +kernel)
set_option maxRecDepth 20000 in
theorem gX8_ruled_X8_adds : GoodIn wsX8_ruled (wsV RX8 238 RX8 yX8_adds wsX8_adds) := goodIn_app (goodIn_of _ (by decide +kernel)) ggX8_ruled_X8_adds
set_option maxRecDepth 20000 in
theorem ggX8_ruled_X8_saying : GoodIn wsX8_ruled wsX8_saying := goodIn_r _ [10, 11, 1, 2, 3, 4, 5, 6, 12, 13, 14, 15, 16, 17, 18, 19, 20, 21, 22, 23, 24, 25, 26, 27, 33, 34, 35, 36, 37, 38, 39, 40, 41, 42, 43, 44, 45, 46, 47, 48, 49, 50, 51, 52, 53] (by decide +kernel) (by decide +kernel)
set_option maxRecDepth 20000 in
theorem gX8_ruled_X8_saying : GoodIn wsX8_ruled (wsV RX8 241 RX8 yX8_saying wsX8_saying) := goodIn_app (goodIn_of _ (by decide +kernel)) ggX8_ruled_X8_saying
set_option maxRecDepth 20000 in
theorem ggX8_ruled_X8_gradeOfRule : GoodIn wsX8_ruled wsX8_gradeOfRule := goodIn_r _ [31, 32, 33, 34, 35, 36, 37, 38, 39, 40, 41, 42, 43, 44, 45, 46, 47, 48, 49, 50, 51, 52, 53] (by decide +kernel) (by decide +kernel)
set_option maxRecDepth 20000 in
theorem gX8_ruled_X8_gradeOfRule : GoodIn wsX8_ruled (wsV RX8 183 RX8 yX8_gradeOfRule wsX8_gradeOfRule) := goodIn_app (goodIn_of _ (by decide +kernel)) ggX8_ruled_X8_gradeOfRule
theorem dX8_ruled_0 : decode cX8_ruled 0 = .ok (.aload_n 0, 1) := by decide +kernel
theorem dX8_ruled_1 : decode cX8_ruled 1 = .ok (.bipush 10, 2) := by decide +kernel
theorem dX8_ruled_3 : decode cX8_ruled 3 = .ok (.invokevirtual 238, 3) := by decide +kernel
theorem dX8_ruled_6 : decode cX8_ruled 6 = .ok (.aload_n 0, 1) := by decide +kernel
theorem dX8_ruled_7 : decode cX8_ruled 7 = .ok (.iload_n 1, 1) := by decide +kernel
theorem dX8_ruled_8 : decode cX8_ruled 8 = .ok (.invokevirtual 241, 3) := by decide +kernel
theorem dX8_ruled_11 : decode cX8_ruled 11 = .ok (.iadd, 1) := by decide +kernel
theorem dX8_ruled_12 : decode cX8_ruled 12 = .ok (.aload_n 0, 1) := by decide +kernel
theorem dX8_ruled_13 : decode cX8_ruled 13 = .ok (.iload_n 1, 1) := by decide +kernel
theorem dX8_ruled_14 : decode cX8_ruled 14 = .ok (.invokevirtual 183, 3) := by decide +kernel
theorem dX8_ruled_17 : decode cX8_ruled 17 = .ok (.iadd, 1) := by decide +kernel
theorem dX8_ruled_18 : decode cX8_ruled 18 = .ok (.ireturn, 1) := by decide +kernel
set_option maxRecDepth 20000 in
theorem ggX8_weight_X8_in : GoodIn wsX8_weight wsX8_in := goodIn_r _ [5] (by decide +kernel) (by decide +kernel)
set_option maxRecDepth 20000 in
theorem gX8_weight_X8_in : GoodIn wsX8_weight (va_wsS RX8 55 yX8_in wsX8_in) := goodIn_app (goodIn_of _ (by decide +kernel)) ggX8_weight_X8_in
set_option maxRecDepth 20000 in
theorem ggX8_weight_X8_isRule : GoodIn wsX8_weight wsX8_isRule := goodIn_r _ [9, 10, 2, 3, 4, 5, 49, 50, 51, 52, 53, 54, 55, 56, 57, 58, 59, 60, 61, 62, 63, 64, 65, 66, 67, 68, 69] (by decide +kernel) (by decide +kernel)
set_option maxRecDepth 20000 in
theorem gX8_weight_X8_isRule : GoodIn wsX8_weight (wsV RX8 176 RX8 yX8_isRule wsX8_isRule) := goodIn_app (goodIn_of _ (by decide +kernel)) ggX8_weight_X8_isRule
set_option maxRecDepth 20000 in
theorem ggX8_weight_X8_saying : GoodIn wsX8_weight wsX8_saying := goodIn_r _ [14, 15, 16, 17, 18, 4, 19, 20, 21, 22, 23, 24, 25, 26, 27, 28, 29, 10, 30, 31, 32, 33, 34, 35, 49, 50, 51, 52, 53, 54, 55, 56, 57, 58, 59, 60, 61, 62, 63, 64, 65, 66, 67, 68, 69] (by decide +kernel) (by decide +kernel)
set_option maxRecDepth 20000 in
theorem gX8_weight_X8_saying : GoodIn wsX8_weight (wsV RX8 241 RX8 yX8_saying wsX8_saying) := goodIn_app (goodIn_of _ (by decide +kernel)) ggX8_weight_X8_saying
set_option maxRecDepth 20000 in
theorem ggX8_weight_X8_ruled : GoodIn wsX8_weight wsX8_ruled := goodIn_r _ [39, 16, 17, 18, 4, 19, 20, 11, 12, 13, 14, 15, 21, 22, 23, 24, 25, 26, 27, 28, 29, 10, 30, 31, 32, 33, 34, 35, 40, 41, 42, 43, 44, 49, 50, 51, 52, 53, 54, 55, 56, 57, 58, 59, 60, 61, 62, 63, 64, 65, 66, 67, 68, 69] (by decide +kernel) (by decide +kernel)
set_option maxRecDepth 20000 in
theorem gX8_weight_X8_ruled : GoodIn wsX8_weight (wsV RX8 243 RX8 yX8_ruled wsX8_ruled) := goodIn_app (goodIn_of _ (by decide +kernel)) ggX8_weight_X8_ruled
set_option maxRecDepth 20000 in
theorem ggX8_weight_X8_adds : GoodIn wsX8_weight wsX8_adds := goodIn_r _ [19, 20, 49, 50, 51, 52, 53, 54, 55, 56, 57, 58, 59, 60, 61, 62, 63, 64, 65, 66, 67, 68, 69] (by decide +kernel) (by decide +kernel)
set_option maxRecDepth 20000 in
theorem gX8_weight_X8_adds : GoodIn wsX8_weight (wsV RX8 238 RX8 yX8_adds wsX8_adds) := goodIn_app (goodIn_of _ (by decide +kernel)) ggX8_weight_X8_adds
set_option maxRecDepth 20000 in
theorem ggX8_weight_X8_thereNow : GoodIn wsX8_weight wsX8_thereNow := goodIn_r _ [24, 25, 26, 27, 4, 28, 29, 10, 15, 49, 50, 51, 52, 53, 54, 55, 56, 57, 58, 59, 60, 61, 62, 63, 64, 65, 66, 67, 68, 69] (by decide +kernel) (by decide +kernel)
set_option maxRecDepth 20000 in
theorem gX8_weight_X8_thereNow : GoodIn wsX8_weight (wsV RX8 160 RX8 yX8_thereNow wsX8_thereNow) := goodIn_app (goodIn_of _ (by decide +kernel)) ggX8_weight_X8_thereNow
set_option maxRecDepth 20000 in
theorem ggX8_weight_X8_broken : GoodIn wsX8_weight wsX8_broken := goodIn_r _ [48, 15, 29, 49, 50, 51, 52, 53, 54, 55, 56, 57, 58, 59, 60, 61, 62, 63, 64, 65, 66, 67, 68, 69] (by decide +kernel) (by decide +kernel)
set_option maxRecDepth 20000 in
theorem gX8_weight_X8_broken : GoodIn wsX8_weight (wsV RX8 164 RX8 yX8_broken wsX8_broken) := goodIn_app (goodIn_of _ (by decide +kernel)) ggX8_weight_X8_broken
set_option maxRecDepth 20000 in
theorem ggX8_weight_X8_sizeOf : GoodIn wsX8_weight wsX8_sizeOf := goodIn_r _ [32, 33, 34, 4, 35] (by decide +kernel) (by decide +kernel)
set_option maxRecDepth 20000 in
theorem gX8_weight_X8_sizeOf : GoodIn wsX8_weight (va_wsS RX8 219 yX8_sizeOf wsX8_sizeOf) := goodIn_app (goodIn_of _ (by decide +kernel)) ggX8_weight_X8_sizeOf
theorem dX8_weight_0 : decode cX8_weight 0 = .ok (.iload_n 1, 1) := by decide +kernel
theorem dX8_weight_1 : decode cX8_weight 1 = .ok (.i2l, 1) := by decide +kernel
theorem dX8_weight_2 : decode cX8_weight 2 = .ok (.lconst 0, 1) := by decide +kernel
theorem dX8_weight_3 : decode cX8_weight 3 = .ok (.ldc2_w 199, 3) := by decide +kernel
theorem dX8_weight_6 : decode cX8_weight 6 = .ok (.invokestatic 55, 3) := by decide +kernel
theorem dX8_weight_9 : decode cX8_weight 9 = .ok (.ifCond .eq 11, 3) := by decide +kernel
theorem dX8_weight_12 : decode cX8_weight 12 = .ok (.aload_n 0, 1) := by decide +kernel
theorem dX8_weight_13 : decode cX8_weight 13 = .ok (.iload_n 2, 1) := by decide +kernel
theorem dX8_weight_14 : decode cX8_weight 14 = .ok (.invokevirtual 176, 3) := by decide +kernel
theorem dX8_weight_17 : decode cX8_weight 17 = .ok (.ifCond .ne 7, 3) := by decide +kernel
theorem dX8_weight_20 : decode cX8_weight 20 = .ok (.sipush (-1000), 3) := by decide +kernel
theorem dX8_weight_23 : decode cX8_weight 23 = .ok (.ireturn, 1) := by decide +kernel
theorem dX8_weight_24 : decode cX8_weight 24 = .ok (.iload_n 1, 1) := by decide +kernel
theorem dX8_weight_25 : decode cX8_weight 25 = .ok (.tableswitch 54 0 2 #[27, 33, 39], 27) := by decide +kernel
theorem dX8_weight_52 : decode cX8_weight 52 = .ok (.aload_n 0, 1) := by decide +kernel
theorem dX8_weight_53 : decode cX8_weight 53 = .ok (.iload_n 2, 1) := by decide +kernel
theorem dX8_weight_54 : decode cX8_weight 54 = .ok (.invokevirtual 241, 3) := by decide +kernel
theorem dX8_weight_57 : decode cX8_weight 57 = .ok (.ireturn, 1) := by decide +kernel
theorem dX8_weight_58 : decode cX8_weight 58 = .ok (.aload_n 0, 1) := by decide +kernel
theorem dX8_weight_59 : decode cX8_weight 59 = .ok (.iload_n 2, 1) := by decide +kernel
theorem dX8_weight_60 : decode cX8_weight 60 = .ok (.invokevirtual 243, 3) := by decide +kernel
theorem dX8_weight_63 : decode cX8_weight 63 = .ok (.ireturn, 1) := by decide +kernel
theorem dX8_weight_64 : decode cX8_weight 64 = .ok (.aload_n 0, 1) := by decide +kernel
theorem dX8_weight_65 : decode cX8_weight 65 = .ok (.bipush 100, 2) := by decide +kernel
theorem dX8_weight_67 : decode cX8_weight 67 = .ok (.invokevirtual 238, 3) := by decide +kernel
theorem dX8_weight_70 : decode cX8_weight 70 = .ok (.aload_n 0, 1) := by decide +kernel
theorem dX8_weight_71 : decode cX8_weight 71 = .ok (.iload_n 2, 1) := by decide +kernel
theorem dX8_weight_72 : decode cX8_weight 72 = .ok (.invokevirtual 241, 3) := by decide +kernel
theorem dX8_weight_75 : decode cX8_weight 75 = .ok (.iconst 2, 1) := by decide +kernel
theorem dX8_weight_76 : decode cX8_weight 76 = .ok (.idiv, 1) := by decide +kernel
theorem dX8_weight_77 : decode cX8_weight 77 = .ok (.iadd, 1) := by decide +kernel
theorem dX8_weight_78 : decode cX8_weight 78 = .ok (.ireturn, 1) := by decide +kernel
theorem dX8_weight_79 : decode cX8_weight 79 = .ok (.aload_n 0, 1) := by decide +kernel
theorem dX8_weight_80 : decode cX8_weight 80 = .ok (.sipush 1000, 3) := by decide +kernel
theorem dX8_weight_83 : decode cX8_weight 83 = .ok (.invokevirtual 238, 3) := by decide +kernel
theorem dX8_weight_86 : decode cX8_weight 86 = .ok (.iconst 2, 1) := by decide +kernel
theorem dX8_weight_87 : decode cX8_weight 87 = .ok (.aload_n 0, 1) := by decide +kernel
theorem dX8_weight_88 : decode cX8_weight 88 = .ok (.iload_n 2, 1) := by decide +kernel
theorem dX8_weight_89 : decode cX8_weight 89 = .ok (.invokevirtual 243, 3) := by decide +kernel
theorem dX8_weight_92 : decode cX8_weight 92 = .ok (.imul, 1) := by decide +kernel
theorem dX8_weight_93 : decode cX8_weight 93 = .ok (.iadd, 1) := by decide +kernel
theorem dX8_weight_94 : decode cX8_weight 94 = .ok (.aload_n 0, 1) := by decide +kernel
theorem dX8_weight_95 : decode cX8_weight 95 = .ok (.invokevirtual 160, 3) := by decide +kernel
theorem dX8_weight_98 : decode cX8_weight 98 = .ok (.aload_n 0, 1) := by decide +kernel
theorem dX8_weight_99 : decode cX8_weight 99 = .ok (.iload_n 2, 1) := by decide +kernel
theorem dX8_weight_100 : decode cX8_weight 100 = .ok (.invokevirtual 164, 3) := by decide +kernel
theorem dX8_weight_103 : decode cX8_weight 103 = .ok (.land, 1) := by decide +kernel
theorem dX8_weight_104 : decode cX8_weight 104 = .ok (.invokestatic 219, 3) := by decide +kernel
theorem dX8_weight_107 : decode cX8_weight 107 = .ok (.isub, 1) := by decide +kernel
theorem dX8_weight_108 : decode cX8_weight 108 = .ok (.ireturn, 1) := by decide +kernel
set_option maxRecDepth 20000 in
theorem ggX8_count_X8_thereNow : GoodIn wsX8_count wsX8_thereNow := goodIn_r _ [8, 9, 10, 11, 7, 12, 13, 1, 14, 21, 22, 23, 24, 25, 26, 27, 28, 29, 30, 31, 32, 33, 34, 35, 36, 37, 38, 39, 40, 41] (by decide +kernel) (by decide +kernel)
set_option maxRecDepth 20000 in
theorem gX8_count_X8_thereNow : GoodIn wsX8_count (wsV RX8 160 RX8 yX8_thereNow wsX8_thereNow) := goodIn_app (goodIn_of _ (by decide +kernel)) ggX8_count_X8_thereNow
set_option maxRecDepth 20000 in
theorem ggX8_count_X8_sizeOf : GoodIn wsX8_count wsX8_sizeOf := goodIn_r _ [17, 18, 19, 7, 20] (by decide +kernel) (by decide +kernel)
set_option maxRecDepth 20000 in
theorem gX8_count_X8_sizeOf : GoodIn wsX8_count (va_wsS RX8 219 yX8_sizeOf wsX8_sizeOf) := goodIn_app (goodIn_of _ (by decide +kernel)) ggX8_count_X8_sizeOf
theorem dX8_count_0 : decode cX8_count 0 = .ok (.iload_n 1, 1) := by decide +kernel
theorem dX8_count_1 : decode cX8_count 1 = .ok (.tableswitch 97 0 6 #[43, 50, 57, 64, 71, 84, 89], 43) := by decide +kernel
theorem dX8_count_44 : decode cX8_count 44 = .ok (.aload_n 0, 1) := by decide +kernel
theorem dX8_count_45 : decode cX8_count 45 = .ok (.getfield 17, 3) := by decide +kernel
theorem dX8_count_48 : decode cX8_count 48 = .ok (.iconst 0, 1) := by decide +kernel
theorem dX8_count_49 : decode cX8_count 49 = .ok (.iaload, 1) := by decide +kernel
theorem dX8_count_50 : decode cX8_count 50 = .ok (.ireturn, 1) := by decide +kernel
theorem dX8_count_51 : decode cX8_count 51 = .ok (.aload_n 0, 1) := by decide +kernel
theorem dX8_count_52 : decode cX8_count 52 = .ok (.getfield 17, 3) := by decide +kernel
theorem dX8_count_55 : decode cX8_count 55 = .ok (.iconst 1, 1) := by decide +kernel
theorem dX8_count_56 : decode cX8_count 56 = .ok (.iaload, 1) := by decide +kernel
theorem dX8_count_57 : decode cX8_count 57 = .ok (.ireturn, 1) := by decide +kernel
theorem dX8_count_58 : decode cX8_count 58 = .ok (.aload_n 0, 1) := by decide +kernel
theorem dX8_count_59 : decode cX8_count 59 = .ok (.getfield 17, 3) := by decide +kernel
theorem dX8_count_62 : decode cX8_count 62 = .ok (.iconst 3, 1) := by decide +kernel
theorem dX8_count_63 : decode cX8_count 63 = .ok (.iaload, 1) := by decide +kernel
theorem dX8_count_64 : decode cX8_count 64 = .ok (.ireturn, 1) := by decide +kernel
theorem dX8_count_65 : decode cX8_count 65 = .ok (.aload_n 0, 1) := by decide +kernel
theorem dX8_count_66 : decode cX8_count 66 = .ok (.getfield 17, 3) := by decide +kernel
theorem dX8_count_69 : decode cX8_count 69 = .ok (.iconst 4, 1) := by decide +kernel
theorem dX8_count_70 : decode cX8_count 70 = .ok (.iaload, 1) := by decide +kernel
theorem dX8_count_71 : decode cX8_count 71 = .ok (.ireturn, 1) := by decide +kernel
theorem dX8_count_72 : decode cX8_count 72 = .ok (.aload_n 0, 1) := by decide +kernel
theorem dX8_count_73 : decode cX8_count 73 = .ok (.getfield 169, 3) := by decide +kernel
theorem dX8_count_76 : decode cX8_count 76 = .ok (.ifCond .eq 7, 3) := by decide +kernel
theorem dX8_count_79 : decode cX8_count 79 = .ok (.iconst 1, 1) := by decide +kernel
theorem dX8_count_80 : decode cX8_count 80 = .ok (.goto 4, 3) := by decide +kernel
theorem dX8_count_83 : decode cX8_count 83 = .ok (.iconst 0, 1) := by decide +kernel
theorem dX8_count_84 : decode cX8_count 84 = .ok (.ireturn, 1) := by decide +kernel
theorem dX8_count_85 : decode cX8_count 85 = .ok (.aload_n 0, 1) := by decide +kernel
theorem dX8_count_86 : decode cX8_count 86 = .ok (.getfield 59, 3) := by decide +kernel
theorem dX8_count_89 : decode cX8_count 89 = .ok (.ireturn, 1) := by decide +kernel
theorem dX8_count_90 : decode cX8_count 90 = .ok (.aload_n 0, 1) := by decide +kernel
theorem dX8_count_91 : decode cX8_count 91 = .ok (.invokevirtual 160, 3) := by decide +kernel
theorem dX8_count_94 : decode cX8_count 94 = .ok (.invokestatic 219, 3) := by decide +kernel
theorem dX8_count_97 : decode cX8_count 97 = .ok (.ireturn, 1) := by decide +kernel
theorem dX8_count_98 : decode cX8_count 98 = .ok (.iconst (-1), 1) := by decide +kernel
theorem dX8_count_99 : decode cX8_count 99 = .ok (.ireturn, 1) := by decide +kernel
theorem dX8_trace_0 : decode cX8_trace 0 = .ok (.aload_n 0, 1) := by decide +kernel
theorem dX8_trace_1 : decode cX8_trace 1 = .ok (.getfield 235, 3) := by decide +kernel
theorem dX8_trace_4 : decode cX8_trace 4 = .ok (.lreturn, 1) := by decide +kernel
