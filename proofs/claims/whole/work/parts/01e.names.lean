theorem dX7_init_0 : decode cX7_init 0 = .ok (.aload_n 0, 1) := by decide +kernel
theorem dX7_init_1 : decode cX7_init 1 = .ok (.invokespecial 1, 3) := by decide +kernel
theorem dX7_init_4 : decode cX7_init 4 = .ok (.aload_n 0, 1) := by decide +kernel
theorem dX7_init_5 : decode cX7_init 5 = .ok (.new 7, 3) := by decide +kernel
theorem dX7_init_8 : decode cX7_init 8 = .ok (.dup, 1) := by decide +kernel
theorem dX7_init_9 : decode cX7_init 9 = .ok (.invokespecial 9, 3) := by decide +kernel
theorem dX7_init_12 : decode cX7_init 12 = .ok (.putfield 10, 3) := by decide +kernel
theorem dX7_init_15 : decode cX7_init 15 = .ok (.aload_n 0, 1) := by decide +kernel
theorem dX7_init_16 : decode cX7_init 16 = .ok (.new 16, 3) := by decide +kernel
theorem dX7_init_19 : decode cX7_init 19 = .ok (.dup, 1) := by decide +kernel
theorem dX7_init_20 : decode cX7_init 20 = .ok (.invokespecial 18, 3) := by decide +kernel
theorem dX7_init_23 : decode cX7_init 23 = .ok (.putfield 19, 3) := by decide +kernel
theorem dX7_init_26 : decode cX7_init 26 = .ok (.aload_n 0, 1) := by decide +kernel
theorem dX7_init_27 : decode cX7_init 27 = .ok (.new 23, 3) := by decide +kernel
theorem dX7_init_30 : decode cX7_init 30 = .ok (.dup, 1) := by decide +kernel
theorem dX7_init_31 : decode cX7_init 31 = .ok (.invokespecial 25, 3) := by decide +kernel
theorem dX7_init_34 : decode cX7_init 34 = .ok (.putfield 26, 3) := by decide +kernel
theorem dX7_init_37 : decode cX7_init 37 = .ok (.aload_n 0, 1) := by decide +kernel
theorem dX7_init_38 : decode cX7_init 38 = .ok (.new 23, 3) := by decide +kernel
theorem dX7_init_41 : decode cX7_init 41 = .ok (.dup, 1) := by decide +kernel
theorem dX7_init_42 : decode cX7_init 42 = .ok (.invokespecial 25, 3) := by decide +kernel
theorem dX7_init_45 : decode cX7_init 45 = .ok (.putfield 30, 3) := by decide +kernel
theorem dX7_init_48 : decode cX7_init 48 = .ok (.aload_n 0, 1) := by decide +kernel
theorem dX7_init_49 : decode cX7_init 49 = .ok (.new 33, 3) := by decide +kernel
theorem dX7_init_52 : decode cX7_init 52 = .ok (.dup, 1) := by decide +kernel
theorem dX7_init_53 : decode cX7_init 53 = .ok (.bipush 9, 2) := by decide +kernel
theorem dX7_init_55 : decode cX7_init 55 = .ok (.invokespecial 35, 3) := by decide +kernel
theorem dX7_init_58 : decode cX7_init 58 = .ok (.putfield 38, 3) := by decide +kernel
theorem dX7_init_61 : decode cX7_init 61 = .ok (.aload_n 0, 1) := by decide +kernel
theorem dX7_init_62 : decode cX7_init 62 = .ok (.new 42, 3) := by decide +kernel
theorem dX7_init_65 : decode cX7_init 65 = .ok (.dup, 1) := by decide +kernel
theorem dX7_init_66 : decode cX7_init 66 = .ok (.invokespecial 44, 3) := by decide +kernel
theorem dX7_init_69 : decode cX7_init 69 = .ok (.putfield 45, 3) := by decide +kernel
theorem dX7_init_72 : decode cX7_init 72 = .ok (.aload_n 0, 1) := by decide +kernel
theorem dX7_init_73 : decode cX7_init 73 = .ok (.new 49, 3) := by decide +kernel
theorem dX7_init_76 : decode cX7_init 76 = .ok (.dup, 1) := by decide +kernel
theorem dX7_init_77 : decode cX7_init 77 = .ok (.invokespecial 51, 3) := by decide +kernel
theorem dX7_init_80 : decode cX7_init 80 = .ok (.putfield 52, 3) := by decide +kernel
theorem dX7_init_83 : decode cX7_init 83 = .ok (.aload_n 0, 1) := by decide +kernel
theorem dX7_init_84 : decode cX7_init 84 = .ok (.ldc2_w 56, 3) := by decide +kernel
theorem dX7_init_87 : decode cX7_init 87 = .ok (.putfield 58, 3) := by decide +kernel
theorem dX7_init_90 : decode cX7_init 90 = .ok (.aload_n 0, 1) := by decide +kernel
theorem dX7_init_91 : decode cX7_init 91 = .ok (.ldc2_w 56, 3) := by decide +kernel
theorem dX7_init_94 : decode cX7_init 94 = .ok (.putfield 62, 3) := by decide +kernel
theorem dX7_init_97 : decode cX7_init 97 = .ok (.aload_n 0, 1) := by decide +kernel
theorem dX7_init_98 : decode cX7_init 98 = .ok (.lconst 0, 1) := by decide +kernel
theorem dX7_init_99 : decode cX7_init 99 = .ok (.putfield 65, 3) := by decide +kernel
theorem dX7_init_102 : decode cX7_init 102 = .ok (.aload_n 0, 1) := by decide +kernel
theorem dX7_init_103 : decode cX7_init 103 = .ok (.invokevirtual 68, 3) := by decide +kernel
theorem dX7_init_106 : decode cX7_init 106 = .ok (.return_, 1) := by decide +kernel
set_option maxRecDepth 20000 in
theorem ggX7_type_X6_put : GoodIn wsX7_type wsX6_put := goodIn_r _ [6, 7, 8, 23, 24] (by decide +kernel) (by decide +kernel)
set_option maxRecDepth 20000 in
theorem gX7_type_X6_put : GoodIn wsX7_type (wsV RX7 71 RX6 yX6_put wsX6_put) := goodIn_app (goodIn_of _ (by decide +kernel)) ggX7_type_X6_put
set_option maxRecDepth 20000 in
theorem ggX7_type_X6_size : GoodIn wsX7_type wsX6_size := goodIn_r _ [12, 7, 23, 24] (by decide +kernel) (by decide +kernel)
set_option maxRecDepth 20000 in
theorem gX7_type_X6_size : GoodIn wsX7_type (wsV RX7 75 RX6 yX6_size wsX6_size) := goodIn_app (goodIn_of _ (by decide +kernel)) ggX7_type_X6_size
theorem dX7_type_0 : decode cX7_type 0 = .ok (.iload_n 3, 1) := by decide +kernel
theorem dX7_type_1 : decode cX7_type 1 = .ok (.iconst 1, 1) := by decide +kernel
theorem dX7_type_2 : decode cX7_type 2 = .ok (.if_icmp .lt 9, 3) := by decide +kernel
theorem dX7_type_5 : decode cX7_type 5 = .ok (.iload_n 3, 1) := by decide +kernel
theorem dX7_type_6 : decode cX7_type 6 = .ok (.bipush 8, 2) := by decide +kernel
theorem dX7_type_8 : decode cX7_type 8 = .ok (.if_icmp .le 5, 3) := by decide +kernel
theorem dX7_type_11 : decode cX7_type 11 = .ok (.iconst (-1), 1) := by decide +kernel
theorem dX7_type_12 : decode cX7_type 12 = .ok (.ireturn, 1) := by decide +kernel
theorem dX7_type_13 : decode cX7_type 13 = .ok (.aload_n 0, 1) := by decide +kernel
theorem dX7_type_14 : decode cX7_type 14 = .ok (.getfield 10, 3) := by decide +kernel
theorem dX7_type_17 : decode cX7_type 17 = .ok (.lload_n 1, 1) := by decide +kernel
theorem dX7_type_18 : decode cX7_type 18 = .ok (.iload_n 3, 1) := by decide +kernel
theorem dX7_type_19 : decode cX7_type 19 = .ok (.invokevirtual 71, 3) := by decide +kernel
theorem dX7_type_22 : decode cX7_type 22 = .ok (.ifCond .eq 13, 3) := by decide +kernel
theorem dX7_type_25 : decode cX7_type 25 = .ok (.aload_n 0, 1) := by decide +kernel
theorem dX7_type_26 : decode cX7_type 26 = .ok (.getfield 10, 3) := by decide +kernel
theorem dX7_type_29 : decode cX7_type 29 = .ok (.invokevirtual 75, 3) := by decide +kernel
theorem dX7_type_32 : decode cX7_type 32 = .ok (.goto 5, 3) := by decide +kernel
theorem dX7_type_35 : decode cX7_type 35 = .ok (.bipush (-3), 2) := by decide +kernel
theorem dX7_type_37 : decode cX7_type 37 = .ok (.ireturn, 1) := by decide +kernel
set_option maxRecDepth 20000 in
theorem ggX7_clear_X6_wipe : GoodIn wsX7_clear wsX6_wipe := goodIn_r _ [6, 7, 18, 19] (by decide +kernel) (by decide +kernel)
set_option maxRecDepth 20000 in
theorem gX7_clear_X6_wipe : GoodIn wsX7_clear (wsV RX7 79 RX6 yX6_wipe wsX6_wipe) := goodIn_app (goodIn_of _ (by decide +kernel)) ggX7_clear_X6_wipe
theorem dX7_clear_0 : decode cX7_clear 0 = .ok (.aload_n 0, 1) := by decide +kernel
theorem dX7_clear_1 : decode cX7_clear 1 = .ok (.getfield 10, 3) := by decide +kernel
theorem dX7_clear_4 : decode cX7_clear 4 = .ok (.invokevirtual 79, 3) := by decide +kernel
theorem dX7_clear_7 : decode cX7_clear 7 = .ok (.ireturn, 1) := by decide +kernel
set_option maxRecDepth 20000 in
theorem ggX7_tell_X3_start : GoodIn wsX7_tell wsX3_start := goodIn_r _ [9, 10, 11, 12, 13, 14, 15, 16, 17, 18, 19, 20, 21, 22, 23, 24, 8, 25, 26, 27, 28, 29, 30, 31, 32, 33, 34, 35, 36, 37, 38, 39, 40, 41, 42, 43, 44, 45, 46, 47, 48, 49, 50, 51, 52, 53, 54, 55, 56, 57, 58, 59, 60, 61, 62, 63, 64, 65, 66, 67, 68, 69, 70, 71, 72, 73, 74, 75, 76, 77, 78, 79, 80, 81, 82, 83, 84, 85, 86, 87, 88, 89, 90, 91, 92, 93, 94, 95, 96, 97, 325, 326, 327, 328, 329, 330, 331, 332, 333] (by decide +kernel) (by decide +kernel)
set_option maxRecDepth 20000 in
theorem gX7_tell_X3_start : GoodIn wsX7_tell (wsV RX7 82 RX3 yX3_start wsX3_start) := goodIn_app (goodIn_of _ (by decide +kernel)) ggX7_tell_X3_start
set_option maxRecDepth 20000 in
theorem ggX7_tell_X3_readItems : GoodIn wsX7_tell wsX3_readItems := goodIn_r _ [101, 97, 102, 103, 104, 105, 106, 107, 108, 109, 110, 111, 112, 113, 114, 115, 116, 117, 118, 119, 120, 121, 122, 123, 124, 125, 126, 127, 128, 129, 130, 131, 8, 132, 133, 134, 135, 136, 137, 138, 139, 140, 141, 93, 94, 95, 96, 11, 10, 88, 142, 143, 144, 145, 146, 147, 148, 149, 150, 151, 152, 153, 154, 155, 156, 157, 158, 159, 160, 161, 162, 163, 164, 165, 166, 167, 168, 169, 170, 171, 172, 173, 174, 175, 176, 177, 178, 325, 326, 327, 328, 329, 330, 331, 334, 335, 336, 337, 338, 339, 340, 341, 342, 343, 344, 345, 346] (by decide +kernel) (by decide +kernel)
set_option maxRecDepth 20000 in
theorem gX7_tell_X3_readItems : GoodIn wsX7_tell (wsV RX7 86 RX3 yX3_readItems wsX3_readItems) := goodIn_app (goodIn_of _ (by decide +kernel)) ggX7_tell_X3_readItems
set_option maxRecDepth 20000 in
theorem ggX7_tell_X3_isWrong : GoodIn wsX7_tell wsX3_isWrong := goodIn_r _ [182, 97, 325, 326, 327, 328, 329, 330, 331] (by decide +kernel) (by decide +kernel)
set_option maxRecDepth 20000 in
theorem gX7_tell_X3_isWrong : GoodIn wsX7_tell (wsV RX7 90 RX3 yX3_isWrong wsX3_isWrong) := goodIn_app (goodIn_of _ (by decide +kernel)) ggX7_tell_X3_isWrong
set_option maxRecDepth 20000 in
theorem ggX7_tell_X7_faultAnswer : GoodIn wsX7_tell wsX7_faultAnswer := goodIn_r _ [187, 1, 188, 189, 190, 8, 191, 11, 89, 315, 316, 317, 318, 319, 320, 321, 322, 323, 324, 325, 326, 327, 328, 329, 330, 331] (by decide +kernel) (by decide +kernel)
set_option maxRecDepth 20000 in
theorem gX7_tell_X7_faultAnswer : GoodIn wsX7_tell (wsV RX7 94 RX7 yX7_faultAnswer wsX7_faultAnswer) := goodIn_app (goodIn_of _ (by decide +kernel)) ggX7_tell_X7_faultAnswer
set_option maxRecDepth 20000 in
theorem ggX7_tell_X7_settle : GoodIn wsX7_tell wsX7_settle := goodIn_r _ [195, 4, 196, 197, 198, 199, 200, 201, 109, 202, 111, 203, 113, 204, 112, 205, 206, 207, 118, 208, 209, 120, 210, 211, 212, 213, 164, 214, 215, 216, 124, 217, 218, 219, 220, 221, 222, 223, 126, 224, 225, 226, 227, 228, 229, 230, 231, 232, 127, 233, 186, 234, 235, 236, 237, 238, 239, 240, 241, 242, 243, 244, 245, 246, 247, 248, 249, 250, 251, 252, 253, 254, 255, 256, 257, 258, 259, 260, 261, 262, 263, 264, 265, 266, 267, 268, 269, 270, 271, 272, 273, 274, 275, 276, 277, 278, 279, 280, 281, 282, 283, 284, 285, 286, 287, 288, 289, 290, 291, 292, 293, 294, 295, 296, 297, 298, 299, 300, 301, 302, 303, 304, 315, 316, 317, 318, 319, 320, 321, 322, 323, 324, 334, 335, 336, 337, 338, 339, 340, 341, 342, 343, 344, 345, 346, 347, 348, 349, 350] (by decide +kernel) (by decide +kernel)
set_option maxRecDepth 20000 in
theorem gX7_tell_X7_settle : GoodIn wsX7_tell (wsV RX7 68 RX7 yX7_settle wsX7_settle) := goodIn_app (goodIn_of _ (by decide +kernel)) ggX7_tell_X7_settle
set_option maxRecDepth 20000 in
theorem ggX7_tell_X6_wipe : GoodIn wsX7_tell wsX6_wipe := goodIn_r _ [308, 17, 332, 333] (by decide +kernel) (by decide +kernel)
set_option maxRecDepth 20000 in
theorem gX7_tell_X6_wipe : GoodIn wsX7_tell (wsV RX7 79 RX6 yX6_wipe wsX6_wipe) := goodIn_app (goodIn_of _ (by decide +kernel)) ggX7_tell_X6_wipe
set_option maxRecDepth 20000 in
theorem ggX7_tell_X2_size : GoodIn wsX7_tell wsX2_size := goodIn_r _ [312, 111, 112, 113, 114, 313, 225, 226, 118, 227, 120, 314, 221, 222, 124, 223, 126, 224, 334, 335, 336, 337, 338, 339, 340, 341, 342, 343, 344, 345, 346] (by decide +kernel) (by decide +kernel)
set_option maxRecDepth 20000 in
theorem gX7_tell_X2_size : GoodIn wsX7_tell (wsV RX7 97 RX2 yX2_size wsX2_size) := goodIn_app (goodIn_of _ (by decide +kernel)) ggX7_tell_X2_size
theorem dX7_tell_0 : decode cX7_tell 0 = .ok (.aload_n 0, 1) := by decide +kernel
theorem dX7_tell_1 : decode cX7_tell 1 = .ok (.getfield 19, 3) := by decide +kernel
theorem dX7_tell_4 : decode cX7_tell 4 = .ok (.aload_n 0, 1) := by decide +kernel
theorem dX7_tell_5 : decode cX7_tell 5 = .ok (.getfield 10, 3) := by decide +kernel
theorem dX7_tell_8 : decode cX7_tell 8 = .ok (.invokevirtual 82, 3) := by decide +kernel
theorem dX7_tell_11 : decode cX7_tell 11 = .ok (.aload_n 0, 1) := by decide +kernel
theorem dX7_tell_12 : decode cX7_tell 12 = .ok (.getfield 19, 3) := by decide +kernel
theorem dX7_tell_15 : decode cX7_tell 15 = .ok (.aload_n 0, 1) := by decide +kernel
theorem dX7_tell_16 : decode cX7_tell 16 = .ok (.getfield 30, 3) := by decide +kernel
theorem dX7_tell_19 : decode cX7_tell 19 = .ok (.invokevirtual 86, 3) := by decide +kernel
theorem dX7_tell_22 : decode cX7_tell 22 = .ok (.aload_n 0, 1) := by decide +kernel
theorem dX7_tell_23 : decode cX7_tell 23 = .ok (.getfield 19, 3) := by decide +kernel
theorem dX7_tell_26 : decode cX7_tell 26 = .ok (.invokevirtual 90, 3) := by decide +kernel
theorem dX7_tell_29 : decode cX7_tell 29 = .ok (.ifCond .eq 8, 3) := by decide +kernel
theorem dX7_tell_32 : decode cX7_tell 32 = .ok (.aload_n 0, 1) := by decide +kernel
theorem dX7_tell_33 : decode cX7_tell 33 = .ok (.invokevirtual 94, 3) := by decide +kernel
theorem dX7_tell_36 : decode cX7_tell 36 = .ok (.ireturn, 1) := by decide +kernel
theorem dX7_tell_37 : decode cX7_tell 37 = .ok (.aload_n 0, 1) := by decide +kernel
theorem dX7_tell_38 : decode cX7_tell 38 = .ok (.getfield 30, 3) := by decide +kernel
theorem dX7_tell_41 : decode cX7_tell 41 = .ok (.astore_n 1, 1) := by decide +kernel
theorem dX7_tell_42 : decode cX7_tell 42 = .ok (.aload_n 0, 1) := by decide +kernel
theorem dX7_tell_43 : decode cX7_tell 43 = .ok (.aload_n 0, 1) := by decide +kernel
theorem dX7_tell_44 : decode cX7_tell 44 = .ok (.getfield 26, 3) := by decide +kernel
theorem dX7_tell_47 : decode cX7_tell 47 = .ok (.putfield 30, 3) := by decide +kernel
theorem dX7_tell_50 : decode cX7_tell 50 = .ok (.aload_n 0, 1) := by decide +kernel
theorem dX7_tell_51 : decode cX7_tell 51 = .ok (.aload_n 1, 1) := by decide +kernel
theorem dX7_tell_52 : decode cX7_tell 52 = .ok (.putfield 26, 3) := by decide +kernel
theorem dX7_tell_55 : decode cX7_tell 55 = .ok (.aload_n 0, 1) := by decide +kernel
theorem dX7_tell_56 : decode cX7_tell 56 = .ok (.invokevirtual 68, 3) := by decide +kernel
theorem dX7_tell_59 : decode cX7_tell 59 = .ok (.aload_n 0, 1) := by decide +kernel
theorem dX7_tell_60 : decode cX7_tell 60 = .ok (.getfield 10, 3) := by decide +kernel
theorem dX7_tell_63 : decode cX7_tell 63 = .ok (.invokevirtual 79, 3) := by decide +kernel
theorem dX7_tell_66 : decode cX7_tell 66 = .ok (.pop, 1) := by decide +kernel
theorem dX7_tell_67 : decode cX7_tell 67 = .ok (.aload_n 0, 1) := by decide +kernel
theorem dX7_tell_68 : decode cX7_tell 68 = .ok (.getfield 26, 3) := by decide +kernel
theorem dX7_tell_71 : decode cX7_tell 71 = .ok (.invokevirtual 97, 3) := by decide +kernel
theorem dX7_tell_74 : decode cX7_tell 74 = .ok (.ireturn, 1) := by decide +kernel
set_option maxRecDepth 20000 in
theorem ggX7_question_X3_start : GoodIn wsX7_question wsX3_start := goodIn_r _ [9, 10, 11, 12, 13, 14, 15, 16, 17, 18, 19, 20, 21, 22, 23, 24, 8, 25, 26, 27, 28, 29, 30, 31, 32, 33, 34, 35, 36, 37, 38, 39, 40, 41, 42, 43, 44, 45, 46, 47, 48, 49, 50, 51, 52, 53, 54, 55, 56, 57, 58, 59, 60, 61, 62, 63, 64, 65, 66, 67, 68, 69, 70, 71, 72, 73, 74, 75, 76, 77, 78, 79, 80, 81, 82, 83, 84, 85, 86, 87, 88, 89, 90, 91, 92, 93, 94, 95, 96, 97, 161, 162, 163, 164, 165, 166, 167, 168, 169] (by decide +kernel) (by decide +kernel)
set_option maxRecDepth 20000 in
theorem gX7_question_X3_start : GoodIn wsX7_question (wsV RX7 82 RX3 yX3_start wsX3_start) := goodIn_app (goodIn_of _ (by decide +kernel)) ggX7_question_X3_start
set_option maxRecDepth 20000 in
theorem ggX7_question_X3_readQuestion : GoodIn wsX7_question wsX3_readQuestion := goodIn_r _ [101, 102, 103, 97, 104, 93, 94, 95, 8, 96, 11, 10, 88, 105, 106, 107, 108, 109, 110, 111, 112, 113, 114, 115, 116, 117, 118, 119, 120, 121, 122, 123, 124, 125, 161, 162, 163, 164, 165, 166, 167] (by decide +kernel) (by decide +kernel)
set_option maxRecDepth 20000 in
theorem gX7_question_X3_readQuestion : GoodIn wsX7_question (wsV RX7 98 RX3 yX3_readQuestion wsX3_readQuestion) := goodIn_app (goodIn_of _ (by decide +kernel)) ggX7_question_X3_readQuestion
set_option maxRecDepth 20000 in
theorem ggX7_question_X3_isWrong : GoodIn wsX7_question wsX3_isWrong := goodIn_r _ [129, 97, 161, 162, 163, 164, 165, 166, 167] (by decide +kernel) (by decide +kernel)
set_option maxRecDepth 20000 in
theorem gX7_question_X3_isWrong : GoodIn wsX7_question (wsV RX7 90 RX3 yX3_isWrong wsX3_isWrong) := goodIn_app (goodIn_of _ (by decide +kernel)) ggX7_question_X3_isWrong
set_option maxRecDepth 20000 in
theorem ggX7_question_X7_faultAnswer : GoodIn wsX7_question wsX7_faultAnswer := goodIn_r _ [134, 1, 135, 136, 137, 8, 138, 11, 89, 151, 152, 153, 154, 155, 156, 157, 158, 159, 160, 161, 162, 163, 164, 165, 166, 167] (by decide +kernel) (by decide +kernel)
set_option maxRecDepth 20000 in
theorem gX7_question_X7_faultAnswer : GoodIn wsX7_question (wsV RX7 94 RX7 yX7_faultAnswer wsX7_faultAnswer) := goodIn_app (goodIn_of _ (by decide +kernel)) ggX7_question_X7_faultAnswer
set_option maxRecDepth 20000 in
theorem ggX7_question_X3_when : GoodIn wsX7_question wsX3_when := goodIn_r _ [142, 103, 161, 162, 163, 164, 165, 166, 167] (by decide +kernel) (by decide +kernel)
set_option maxRecDepth 20000 in
theorem gX7_question_X3_when : GoodIn wsX7_question (wsV RX7 101 RX3 yX3_when wsX3_when) := goodIn_app (goodIn_of _ (by decide +kernel)) ggX7_question_X3_when
set_option maxRecDepth 20000 in
theorem ggX7_question_X3_then : GoodIn wsX7_question wsX3_then := goodIn_r _ [146, 104, 161, 162, 163, 164, 165, 166, 167] (by decide +kernel) (by decide +kernel)
set_option maxRecDepth 20000 in
theorem gX7_question_X3_then : GoodIn wsX7_question (wsV RX7 104 RX3 yX3_then wsX3_then) := goodIn_app (goodIn_of _ (by decide +kernel)) ggX7_question_X3_then
set_option maxRecDepth 20000 in
theorem ggX7_question_X6_wipe : GoodIn wsX7_question wsX6_wipe := goodIn_r _ [150, 17, 168, 169] (by decide +kernel) (by decide +kernel)
set_option maxRecDepth 20000 in
theorem gX7_question_X6_wipe : GoodIn wsX7_question (wsV RX7 79 RX6 yX6_wipe wsX6_wipe) := goodIn_app (goodIn_of _ (by decide +kernel)) ggX7_question_X6_wipe
theorem dX7_question_0 : decode cX7_question 0 = .ok (.aload_n 0, 1) := by decide +kernel
theorem dX7_question_1 : decode cX7_question 1 = .ok (.getfield 19, 3) := by decide +kernel
theorem dX7_question_4 : decode cX7_question 4 = .ok (.aload_n 0, 1) := by decide +kernel
theorem dX7_question_5 : decode cX7_question 5 = .ok (.getfield 10, 3) := by decide +kernel
theorem dX7_question_8 : decode cX7_question 8 = .ok (.invokevirtual 82, 3) := by decide +kernel
theorem dX7_question_11 : decode cX7_question 11 = .ok (.aload_n 0, 1) := by decide +kernel
theorem dX7_question_12 : decode cX7_question 12 = .ok (.getfield 19, 3) := by decide +kernel
theorem dX7_question_15 : decode cX7_question 15 = .ok (.invokevirtual 98, 3) := by decide +kernel
theorem dX7_question_18 : decode cX7_question 18 = .ok (.aload_n 0, 1) := by decide +kernel
theorem dX7_question_19 : decode cX7_question 19 = .ok (.getfield 19, 3) := by decide +kernel
theorem dX7_question_22 : decode cX7_question 22 = .ok (.invokevirtual 90, 3) := by decide +kernel
theorem dX7_question_25 : decode cX7_question 25 = .ok (.ifCond .eq 8, 3) := by decide +kernel
theorem dX7_question_28 : decode cX7_question 28 = .ok (.aload_n 0, 1) := by decide +kernel
theorem dX7_question_29 : decode cX7_question 29 = .ok (.invokevirtual 94, 3) := by decide +kernel
theorem dX7_question_32 : decode cX7_question 32 = .ok (.ireturn, 1) := by decide +kernel
theorem dX7_question_33 : decode cX7_question 33 = .ok (.aload_n 0, 1) := by decide +kernel
theorem dX7_question_34 : decode cX7_question 34 = .ok (.aload_n 0, 1) := by decide +kernel
theorem dX7_question_35 : decode cX7_question 35 = .ok (.getfield 19, 3) := by decide +kernel
theorem dX7_question_38 : decode cX7_question 38 = .ok (.invokevirtual 101, 3) := by decide +kernel
theorem dX7_question_41 : decode cX7_question 41 = .ok (.putfield 58, 3) := by decide +kernel
theorem dX7_question_44 : decode cX7_question 44 = .ok (.aload_n 0, 1) := by decide +kernel
theorem dX7_question_45 : decode cX7_question 45 = .ok (.aload_n 0, 1) := by decide +kernel
theorem dX7_question_46 : decode cX7_question 46 = .ok (.getfield 19, 3) := by decide +kernel
theorem dX7_question_49 : decode cX7_question 49 = .ok (.invokevirtual 104, 3) := by decide +kernel
theorem dX7_question_52 : decode cX7_question 52 = .ok (.putfield 62, 3) := by decide +kernel
theorem dX7_question_55 : decode cX7_question 55 = .ok (.aload_n 0, 1) := by decide +kernel
theorem dX7_question_56 : decode cX7_question 56 = .ok (.getfield 10, 3) := by decide +kernel
theorem dX7_question_59 : decode cX7_question 59 = .ok (.invokevirtual 79, 3) := by decide +kernel
theorem dX7_question_62 : decode cX7_question 62 = .ok (.pop, 1) := by decide +kernel
theorem dX7_question_63 : decode cX7_question 63 = .ok (.iconst 1, 1) := by decide +kernel
theorem dX7_question_64 : decode cX7_question 64 = .ok (.ireturn, 1) := by decide +kernel
set_option maxRecDepth 20000 in
theorem ggX7_worlds_X5_get : GoodIn wsX7_worlds wsX5_get := goodIn_r _ [14, 15, 16, 37, 38, 39] (by decide +kernel) (by decide +kernel)
set_option maxRecDepth 20000 in
theorem gX7_worlds_X5_get : GoodIn wsX7_worlds (wsV RX7 110 RX5 yX5_get wsX5_get) := goodIn_app (goodIn_of _ (by decide +kernel)) ggX7_worlds_X5_get
theorem dX7_worlds_0 : decode cX7_worlds 0 = .ok (.iload_n 1, 1) := by decide +kernel
theorem dX7_worlds_1 : decode cX7_worlds 1 = .ok (.tableswitch 130 0 5 #[39, 51, 66, 81, 93, 105], 39) := by decide +kernel
theorem dX7_worlds_40 : decode cX7_worlds 40 = .ok (.aload_n 0, 1) := by decide +kernel
theorem dX7_worlds_41 : decode cX7_worlds 41 = .ok (.getfield 26, 3) := by decide +kernel
theorem dX7_worlds_44 : decode cX7_worlds 44 = .ok (.getfield 106, 3) := by decide +kernel
theorem dX7_worlds_47 : decode cX7_worlds 47 = .ok (.iload_n 2, 1) := by decide +kernel
theorem dX7_worlds_48 : decode cX7_worlds 48 = .ok (.invokevirtual 110, 3) := by decide +kernel
theorem dX7_worlds_51 : decode cX7_worlds 51 = .ok (.lreturn, 1) := by decide +kernel
theorem dX7_worlds_52 : decode cX7_worlds 52 = .ok (.aload_n 0, 1) := by decide +kernel
theorem dX7_worlds_53 : decode cX7_worlds 53 = .ok (.getfield 26, 3) := by decide +kernel
theorem dX7_worlds_56 : decode cX7_worlds 56 = .ok (.getfield 116, 3) := by decide +kernel
theorem dX7_worlds_59 : decode cX7_worlds 59 = .ok (.getfield 119, 3) := by decide +kernel
theorem dX7_worlds_62 : decode cX7_worlds 62 = .ok (.iload_n 2, 1) := by decide +kernel
theorem dX7_worlds_63 : decode cX7_worlds 63 = .ok (.invokevirtual 110, 3) := by decide +kernel
theorem dX7_worlds_66 : decode cX7_worlds 66 = .ok (.lreturn, 1) := by decide +kernel
theorem dX7_worlds_67 : decode cX7_worlds 67 = .ok (.aload_n 0, 1) := by decide +kernel
theorem dX7_worlds_68 : decode cX7_worlds 68 = .ok (.getfield 26, 3) := by decide +kernel
theorem dX7_worlds_71 : decode cX7_worlds 71 = .ok (.getfield 116, 3) := by decide +kernel
theorem dX7_worlds_74 : decode cX7_worlds 74 = .ok (.getfield 122, 3) := by decide +kernel
theorem dX7_worlds_77 : decode cX7_worlds 77 = .ok (.iload_n 2, 1) := by decide +kernel
theorem dX7_worlds_78 : decode cX7_worlds 78 = .ok (.invokevirtual 110, 3) := by decide +kernel
theorem dX7_worlds_81 : decode cX7_worlds 81 = .ok (.lreturn, 1) := by decide +kernel
theorem dX7_worlds_82 : decode cX7_worlds 82 = .ok (.aload_n 0, 1) := by decide +kernel
theorem dX7_worlds_83 : decode cX7_worlds 83 = .ok (.getfield 26, 3) := by decide +kernel
theorem dX7_worlds_86 : decode cX7_worlds 86 = .ok (.getfield 125, 3) := by decide +kernel
theorem dX7_worlds_89 : decode cX7_worlds 89 = .ok (.iload_n 2, 1) := by decide +kernel
theorem dX7_worlds_90 : decode cX7_worlds 90 = .ok (.invokevirtual 110, 3) := by decide +kernel
theorem dX7_worlds_93 : decode cX7_worlds 93 = .ok (.lreturn, 1) := by decide +kernel
theorem dX7_worlds_94 : decode cX7_worlds 94 = .ok (.aload_n 0, 1) := by decide +kernel
theorem dX7_worlds_95 : decode cX7_worlds 95 = .ok (.getfield 26, 3) := by decide +kernel
theorem dX7_worlds_98 : decode cX7_worlds 98 = .ok (.getfield 128, 3) := by decide +kernel
theorem dX7_worlds_101 : decode cX7_worlds 101 = .ok (.iload_n 2, 1) := by decide +kernel
theorem dX7_worlds_102 : decode cX7_worlds 102 = .ok (.invokevirtual 110, 3) := by decide +kernel
theorem dX7_worlds_105 : decode cX7_worlds 105 = .ok (.lreturn, 1) := by decide +kernel
theorem dX7_worlds_106 : decode cX7_worlds 106 = .ok (.iload_n 2, 1) := by decide +kernel
theorem dX7_worlds_107 : decode cX7_worlds 107 = .ok (.ifCond .ne 10, 3) := by decide +kernel
theorem dX7_worlds_110 : decode cX7_worlds 110 = .ok (.aload_n 0, 1) := by decide +kernel
theorem dX7_worlds_111 : decode cX7_worlds 111 = .ok (.getfield 58, 3) := by decide +kernel
theorem dX7_worlds_114 : decode cX7_worlds 114 = .ok (.goto 16, 3) := by decide +kernel
theorem dX7_worlds_117 : decode cX7_worlds 117 = .ok (.iload_n 2, 1) := by decide +kernel
theorem dX7_worlds_118 : decode cX7_worlds 118 = .ok (.iconst 1, 1) := by decide +kernel
theorem dX7_worlds_119 : decode cX7_worlds 119 = .ok (.if_icmp .ne 10, 3) := by decide +kernel
theorem dX7_worlds_122 : decode cX7_worlds 122 = .ok (.aload_n 0, 1) := by decide +kernel
theorem dX7_worlds_123 : decode cX7_worlds 123 = .ok (.getfield 62, 3) := by decide +kernel
theorem dX7_worlds_126 : decode cX7_worlds 126 = .ok (.goto 4, 3) := by decide +kernel
theorem dX7_worlds_129 : decode cX7_worlds 129 = .ok (.lconst 0, 1) := by decide +kernel
theorem dX7_worlds_130 : decode cX7_worlds 130 = .ok (.lreturn, 1) := by decide +kernel
theorem dX7_worlds_131 : decode cX7_worlds 131 = .ok (.lconst 0, 1) := by decide +kernel
theorem dX7_worlds_132 : decode cX7_worlds 132 = .ok (.lreturn, 1) := by decide +kernel
set_option maxRecDepth 20000 in
theorem ggX7_there_X2_worldsThere : GoodIn wsX7_there wsX2_worldsThere := goodIn_r _ [6, 7, 52, 53, 54, 55, 56, 57] (by decide +kernel) (by decide +kernel)
set_option maxRecDepth 20000 in
theorem gX7_there_X2_worldsThere : GoodIn wsX7_there (wsV RX7 131 RX2 yX2_worldsThere wsX2_worldsThere) := goodIn_app (goodIn_of _ (by decide +kernel)) ggX7_there_X2_worldsThere
set_option maxRecDepth 20000 in
theorem ggX7_there_X2_worldsOfGround : GoodIn wsX7_there wsX2_worldsOfGround := goodIn_r _ [11, 12, 52, 53, 54, 55, 56, 57] (by decide +kernel) (by decide +kernel)
set_option maxRecDepth 20000 in
theorem gX7_there_X2_worldsOfGround : GoodIn wsX7_there (wsV RX7 134 RX2 yX2_worldsOfGround wsX2_worldsOfGround) := goodIn_app (goodIn_of _ (by decide +kernel)) ggX7_there_X2_worldsOfGround
set_option maxRecDepth 20000 in
theorem ggX7_there_X2_unbroken : GoodIn wsX7_there wsX2_unbroken := goodIn_r _ [16, 7, 17, 18, 19, 20, 21, 22, 23, 24, 25, 26, 27, 28, 29, 30, 31, 32, 33, 34, 35, 36, 37, 38, 39, 40, 41, 52, 53, 54, 55, 56, 57, 58, 59, 60, 61, 62, 63, 64] (by decide +kernel) (by decide +kernel)
set_option maxRecDepth 20000 in
theorem gX7_there_X2_unbroken : GoodIn wsX7_there (wsV RX7 137 RX2 yX2_unbroken wsX2_unbroken) := goodIn_app (goodIn_of _ (by decide +kernel)) ggX7_there_X2_unbroken
theorem dX7_there_0 : decode cX7_there 0 = .ok (.iload_n 1, 1) := by decide +kernel
theorem dX7_there_1 : decode cX7_there 1 = .ok (.tableswitch 51 0 2 #[27, 35, 43], 27) := by decide +kernel
theorem dX7_there_28 : decode cX7_there 28 = .ok (.aload_n 0, 1) := by decide +kernel
theorem dX7_there_29 : decode cX7_there 29 = .ok (.getfield 26, 3) := by decide +kernel
theorem dX7_there_32 : decode cX7_there 32 = .ok (.invokevirtual 131, 3) := by decide +kernel
theorem dX7_there_35 : decode cX7_there 35 = .ok (.lreturn, 1) := by decide +kernel
theorem dX7_there_36 : decode cX7_there 36 = .ok (.aload_n 0, 1) := by decide +kernel
theorem dX7_there_37 : decode cX7_there 37 = .ok (.getfield 26, 3) := by decide +kernel
theorem dX7_there_40 : decode cX7_there 40 = .ok (.invokevirtual 134, 3) := by decide +kernel
theorem dX7_there_43 : decode cX7_there 43 = .ok (.lreturn, 1) := by decide +kernel
theorem dX7_there_44 : decode cX7_there 44 = .ok (.aload_n 0, 1) := by decide +kernel
theorem dX7_there_45 : decode cX7_there 45 = .ok (.getfield 26, 3) := by decide +kernel
theorem dX7_there_48 : decode cX7_there 48 = .ok (.invokevirtual 137, 3) := by decide +kernel
theorem dX7_there_51 : decode cX7_there 51 = .ok (.lreturn, 1) := by decide +kernel
theorem dX7_there_52 : decode cX7_there 52 = .ok (.lconst 0, 1) := by decide +kernel
theorem dX7_there_53 : decode cX7_there 53 = .ok (.lreturn, 1) := by decide +kernel
set_option maxRecDepth 20000 in
theorem ggX7_grade_X4_has : GoodIn wsX7_grade wsX4_has := goodIn_r _ [7, 8, 9, 10, 11, 12, 13, 14, 36, 37, 38, 39, 40, 41, 42] (by decide +kernel) (by decide +kernel)
set_option maxRecDepth 20000 in
theorem gX7_grade_X4_has : GoodIn wsX7_grade (wsV RX7 140 RX4 yX4_has wsX4_has) := goodIn_app (goodIn_of _ (by decide +kernel)) ggX7_grade_X4_has
set_option maxRecDepth 20000 in
theorem ggX7_grade_X4_gradeAt : GoodIn wsX7_grade wsX4_gradeAt := goodIn_r _ [18, 19, 36, 37, 38, 39] (by decide +kernel) (by decide +kernel)
set_option maxRecDepth 20000 in
theorem gX7_grade_X4_gradeAt : GoodIn wsX7_grade (wsV RX7 144 RX4 yX4_gradeAt wsX4_gradeAt) := goodIn_app (goodIn_of _ (by decide +kernel)) ggX7_grade_X4_gradeAt
theorem dX7_grade_0 : decode cX7_grade 0 = .ok (.aload_n 0, 1) := by decide +kernel
theorem dX7_grade_1 : decode cX7_grade 1 = .ok (.getfield 26, 3) := by decide +kernel
theorem dX7_grade_4 : decode cX7_grade 4 = .ok (.getfield 116, 3) := by decide +kernel
theorem dX7_grade_7 : decode cX7_grade 7 = .ok (.iload_n 1, 1) := by decide +kernel
theorem dX7_grade_8 : decode cX7_grade 8 = .ok (.invokevirtual 140, 3) := by decide +kernel
theorem dX7_grade_11 : decode cX7_grade 11 = .ok (.ifCond .eq 17, 3) := by decide +kernel
theorem dX7_grade_14 : decode cX7_grade 14 = .ok (.aload_n 0, 1) := by decide +kernel
theorem dX7_grade_15 : decode cX7_grade 15 = .ok (.getfield 26, 3) := by decide +kernel
theorem dX7_grade_18 : decode cX7_grade 18 = .ok (.getfield 116, 3) := by decide +kernel
theorem dX7_grade_21 : decode cX7_grade 21 = .ok (.iload_n 1, 1) := by decide +kernel
theorem dX7_grade_22 : decode cX7_grade 22 = .ok (.invokevirtual 144, 3) := by decide +kernel
theorem dX7_grade_25 : decode cX7_grade 25 = .ok (.goto 4, 3) := by decide +kernel
theorem dX7_grade_28 : decode cX7_grade 28 = .ok (.iconst (-1), 1) := by decide +kernel
theorem dX7_grade_29 : decode cX7_grade 29 = .ok (.ireturn, 1) := by decide +kernel
set_option maxRecDepth 20000 in
theorem ggX7_gradeOf_X7_isWorld : GoodIn wsX7_gradeOf wsX7_isWorld := goodIn_r _ [5] (by decide +kernel) (by decide +kernel)
set_option maxRecDepth 20000 in
theorem gX7_gradeOf_X7_isWorld : GoodIn wsX7_gradeOf (va_wsS RX7 148 yX7_isWorld wsX7_isWorld) := goodIn_app (goodIn_of _ (by decide +kernel)) ggX7_gradeOf_X7_isWorld
set_option maxRecDepth 20000 in
theorem ggX7_gradeOf_X2_rank : GoodIn wsX7_gradeOf wsX2_rank := goodIn_r _ [10, 11, 12, 13, 4, 14, 15, 16, 17, 18, 19, 20, 21, 22, 23, 24, 25, 26, 27, 28, 29, 30, 31, 32, 33, 34, 35, 36, 37, 38, 39, 40, 41, 42, 43, 44, 45, 46, 47, 48, 49, 50, 51, 52, 53, 54, 55, 56, 57, 58, 59, 60, 71, 72, 73, 74, 75, 76, 77, 78, 79, 80, 81, 82, 83] (by decide +kernel) (by decide +kernel)
set_option maxRecDepth 20000 in
theorem gX7_gradeOf_X2_rank : GoodIn wsX7_gradeOf (wsV RX7 151 RX2 yX2_rank wsX2_rank) := goodIn_app (goodIn_of _ (by decide +kernel)) ggX7_gradeOf_X2_rank
theorem dX7_gradeOf_0 : decode cX7_gradeOf 0 = .ok (.iload_n 1, 1) := by decide +kernel
theorem dX7_gradeOf_1 : decode cX7_gradeOf 1 = .ok (.invokestatic 148, 3) := by decide +kernel
theorem dX7_gradeOf_4 : decode cX7_gradeOf 4 = .ok (.ifCond .eq 14, 3) := by decide +kernel
theorem dX7_gradeOf_7 : decode cX7_gradeOf 7 = .ok (.aload_n 0, 1) := by decide +kernel
theorem dX7_gradeOf_8 : decode cX7_gradeOf 8 = .ok (.getfield 26, 3) := by decide +kernel
theorem dX7_gradeOf_11 : decode cX7_gradeOf 11 = .ok (.iload_n 1, 1) := by decide +kernel
theorem dX7_gradeOf_12 : decode cX7_gradeOf 12 = .ok (.invokevirtual 151, 3) := by decide +kernel
theorem dX7_gradeOf_15 : decode cX7_gradeOf 15 = .ok (.goto 4, 3) := by decide +kernel
theorem dX7_gradeOf_18 : decode cX7_gradeOf 18 = .ok (.iconst (-1), 1) := by decide +kernel
theorem dX7_gradeOf_19 : decode cX7_gradeOf 19 = .ok (.ireturn, 1) := by decide +kernel
set_option maxRecDepth 20000 in
theorem ggX7_breaks_X7_isWorld : GoodIn wsX7_breaks wsX7_isWorld := goodIn_r _ [6] (by decide +kernel) (by decide +kernel)
set_option maxRecDepth 20000 in
theorem gX7_breaks_X7_isWorld : GoodIn wsX7_breaks (va_wsS RX7 148 yX7_isWorld wsX7_isWorld) := goodIn_app (goodIn_of _ (by decide +kernel)) ggX7_breaks_X7_isWorld
set_option maxRecDepth 20000 in
theorem ggX7_breaks_X4_brokenIn : GoodIn wsX7_breaks wsX4_brokenIn := goodIn_r _ [11, 12, 13, 14, 10, 15, 16, 17, 18, 19, 20, 21, 22, 23, 24, 25, 26, 27, 28, 29, 30, 31, 32, 33, 34, 5, 35, 52, 53, 54, 55, 56, 57, 58] (by decide +kernel) (by decide +kernel)
set_option maxRecDepth 20000 in
theorem gX7_breaks_X4_brokenIn : GoodIn wsX7_breaks (wsV RX7 154 RX4 yX4_brokenIn wsX4_brokenIn) := goodIn_app (goodIn_of _ (by decide +kernel)) ggX7_breaks_X4_brokenIn
theorem dX7_breaks_0 : decode cX7_breaks 0 = .ok (.iload_n 1, 1) := by decide +kernel
theorem dX7_breaks_1 : decode cX7_breaks 1 = .ok (.invokestatic 148, 3) := by decide +kernel
theorem dX7_breaks_4 : decode cX7_breaks 4 = .ok (.ifCond .eq 17, 3) := by decide +kernel
theorem dX7_breaks_7 : decode cX7_breaks 7 = .ok (.aload_n 0, 1) := by decide +kernel
theorem dX7_breaks_8 : decode cX7_breaks 8 = .ok (.getfield 26, 3) := by decide +kernel
theorem dX7_breaks_11 : decode cX7_breaks 11 = .ok (.getfield 116, 3) := by decide +kernel
theorem dX7_breaks_14 : decode cX7_breaks 14 = .ok (.iload_n 1, 1) := by decide +kernel
theorem dX7_breaks_15 : decode cX7_breaks 15 = .ok (.invokevirtual 154, 3) := by decide +kernel
theorem dX7_breaks_18 : decode cX7_breaks 18 = .ok (.goto 4, 3) := by decide +kernel
theorem dX7_breaks_21 : decode cX7_breaks 21 = .ok (.iconst (-1), 1) := by decide +kernel
theorem dX7_breaks_22 : decode cX7_breaks 22 = .ok (.ireturn, 1) := by decide +kernel
set_option maxRecDepth 20000 in
theorem ggX7_so_X2_least : GoodIn wsX7_so wsX2_least := goodIn_r _ [8, 9, 10, 11, 12, 13, 14, 15, 16, 17, 18, 19, 20, 21, 22, 23, 24, 25, 26, 27, 28, 29, 30, 31, 32, 33, 34, 35, 36, 37, 38, 39, 40, 41, 42, 43, 44, 45, 46, 47, 48, 49, 50, 51, 52, 53, 54, 55, 56, 57, 58, 59, 60, 61, 62, 63, 64, 131, 132, 133, 134, 135, 136, 137, 138, 139, 140, 141, 142, 143] (by decide +kernel) (by decide +kernel)
set_option maxRecDepth 20000 in
theorem gX7_so_X2_least : GoodIn wsX7_so (wsV RX7 157 RX2 yX2_least wsX2_least) := goodIn_app (goodIn_of _ (by decide +kernel)) ggX7_so_X2_least
set_option maxRecDepth 20000 in
theorem ggX7_so_X7_allIn : GoodIn wsX7_so wsX7_allIn := goodIn_r _ [67, 68] (by decide +kernel) (by decide +kernel)
set_option maxRecDepth 20000 in
theorem gX7_so_X7_allIn : GoodIn wsX7_so (va_wsS RX7 161 yX7_allIn wsX7_allIn) := goodIn_app (goodIn_of _ (by decide +kernel)) ggX7_so_X7_allIn
set_option maxRecDepth 20000 in
theorem ggX7_so_X7_truth : GoodIn wsX7_so wsX7_truth := goodIn_r _ [71] (by decide +kernel) (by decide +kernel)
set_option maxRecDepth 20000 in
theorem gX7_so_X7_truth : GoodIn wsX7_so (va_wsS RX7 165 yX7_truth wsX7_truth) := goodIn_app (goodIn_of _ (by decide +kernel)) ggX7_so_X7_truth
set_option maxRecDepth 20000 in
theorem ggX7_so_X7_isEver : GoodIn wsX7_so wsX7_isEver := goodIn_r _ [75, 76, 1, 77, 2, 3, 68, 78, 79, 80, 18, 81, 24, 35, 82, 83, 84, 85, 86, 87, 88, 28, 89, 30, 20, 21, 22, 23, 25, 26, 27, 29, 37, 38, 39, 40, 41, 90, 91, 92, 93, 94, 95, 96, 97, 98, 99, 100, 101, 102, 7, 103, 10, 104, 105, 106, 107, 60, 108, 109, 110, 111, 112, 36, 50, 13, 51, 31, 32, 33, 34, 113, 114, 115, 116, 117, 118, 119, 120, 121, 122, 123, 124, 125, 126, 127, 128, 129, 130, 131, 132, 133, 134, 135, 136, 137, 138, 139, 140, 141, 142, 143] (by decide +kernel) (by decide +kernel)
set_option maxRecDepth 20000 in
theorem gX7_so_X7_isEver : GoodIn wsX7_so (wsV RX7 169 RX7 yX7_isEver wsX7_isEver) := goodIn_app (goodIn_of _ (by decide +kernel)) ggX7_so_X7_isEver
set_option maxRecDepth 20000 in
theorem ggX7_so_X2_worldsThere : GoodIn wsX7_so wsX2_worldsThere := goodIn_r _ [103, 10, 131, 132, 133, 134, 135, 136] (by decide +kernel) (by decide +kernel)
set_option maxRecDepth 20000 in
theorem gX7_so_X2_worldsThere : GoodIn wsX7_so (wsV RX7 131 RX2 yX2_worldsThere wsX2_worldsThere) := goodIn_app (goodIn_of _ (by decide +kernel)) ggX7_so_X2_worldsThere
theorem dX7_so_0 : decode cX7_so 0 = .ok (.iload_n 1, 1) := by decide +kernel
theorem dX7_so_1 : decode cX7_so 1 = .ok (.tableswitch 85 0 3 #[31, 31, 54, 62], 31) := by decide +kernel
theorem dX7_so_32 : decode cX7_so 32 = .ok (.aload_n 0, 1) := by decide +kernel
theorem dX7_so_33 : decode cX7_so 33 = .ok (.getfield 26, 3) := by decide +kernel
theorem dX7_so_36 : decode cX7_so 36 = .ok (.aload_n 0, 1) := by decide +kernel
theorem dX7_so_37 : decode cX7_so 37 = .ok (.getfield 58, 3) := by decide +kernel
theorem dX7_so_40 : decode cX7_so 40 = .ok (.iload_n 1, 1) := by decide +kernel
theorem dX7_so_41 : decode cX7_so 41 = .ok (.invokevirtual 157, 3) := by decide +kernel
theorem dX7_so_44 : decode cX7_so 44 = .ok (.aload_n 0, 1) := by decide +kernel
theorem dX7_so_45 : decode cX7_so 45 = .ok (.getfield 62, 3) := by decide +kernel
theorem dX7_so_48 : decode cX7_so 48 = .ok (.invokestatic 161, 3) := by decide +kernel
theorem dX7_so_51 : decode cX7_so 51 = .ok (.invokestatic 165, 3) := by decide +kernel
theorem dX7_so_54 : decode cX7_so 54 = .ok (.ireturn, 1) := by decide +kernel
theorem dX7_so_55 : decode cX7_so 55 = .ok (.aload_n 0, 1) := by decide +kernel
theorem dX7_so_56 : decode cX7_so 56 = .ok (.invokevirtual 169, 3) := by decide +kernel
theorem dX7_so_59 : decode cX7_so 59 = .ok (.invokestatic 165, 3) := by decide +kernel
theorem dX7_so_62 : decode cX7_so 62 = .ok (.ireturn, 1) := by decide +kernel
theorem dX7_so_63 : decode cX7_so 63 = .ok (.aload_n 0, 1) := by decide +kernel
theorem dX7_so_64 : decode cX7_so 64 = .ok (.getfield 26, 3) := by decide +kernel
theorem dX7_so_67 : decode cX7_so 67 = .ok (.invokevirtual 131, 3) := by decide +kernel
theorem dX7_so_70 : decode cX7_so 70 = .ok (.aload_n 0, 1) := by decide +kernel
theorem dX7_so_71 : decode cX7_so 71 = .ok (.getfield 58, 3) := by decide +kernel
theorem dX7_so_74 : decode cX7_so 74 = .ok (.land, 1) := by decide +kernel
theorem dX7_so_75 : decode cX7_so 75 = .ok (.aload_n 0, 1) := by decide +kernel
theorem dX7_so_76 : decode cX7_so 76 = .ok (.getfield 62, 3) := by decide +kernel
theorem dX7_so_79 : decode cX7_so 79 = .ok (.invokestatic 161, 3) := by decide +kernel
theorem dX7_so_82 : decode cX7_so 82 = .ok (.invokestatic 165, 3) := by decide +kernel
theorem dX7_so_85 : decode cX7_so 85 = .ok (.ireturn, 1) := by decide +kernel
theorem dX7_so_86 : decode cX7_so 86 = .ok (.iconst (-1), 1) := by decide +kernel
theorem dX7_so_87 : decode cX7_so 87 = .ok (.ireturn, 1) := by decide +kernel
set_option maxRecDepth 20000 in
theorem ggX7_best_X2_least : GoodIn wsX7_best wsX2_least := goodIn_r _ [7, 8, 9, 10, 11, 12, 13, 14, 15, 16, 17, 18, 19, 20, 21, 22, 23, 24, 25, 26, 27, 28, 29, 30, 31, 32, 33, 34, 35, 36, 37, 38, 39, 40, 41, 42, 43, 44, 45, 46, 47, 48, 49, 50, 51, 52, 53, 54, 55, 56, 57, 58, 59, 60, 61, 62, 63, 74, 75, 76, 77, 78, 79, 80, 81, 82, 83, 84, 85, 86] (by decide +kernel) (by decide +kernel)
set_option maxRecDepth 20000 in
theorem gX7_best_X2_least : GoodIn wsX7_best (wsV RX7 157 RX2 yX2_least wsX2_least) := goodIn_app (goodIn_of _ (by decide +kernel)) ggX7_best_X2_least
theorem dX7_best_0 : decode cX7_best 0 = .ok (.iload_n 1, 1) := by decide +kernel
theorem dX7_best_1 : decode cX7_best 1 = .ok (.ifCond .eq 8, 3) := by decide +kernel
theorem dX7_best_4 : decode cX7_best 4 = .ok (.iload_n 1, 1) := by decide +kernel
theorem dX7_best_5 : decode cX7_best 5 = .ok (.iconst 1, 1) := by decide +kernel
theorem dX7_best_6 : decode cX7_best 6 = .ok (.if_icmp .ne 18, 3) := by decide +kernel
theorem dX7_best_9 : decode cX7_best 9 = .ok (.aload_n 0, 1) := by decide +kernel
theorem dX7_best_10 : decode cX7_best 10 = .ok (.getfield 26, 3) := by decide +kernel
theorem dX7_best_13 : decode cX7_best 13 = .ok (.aload_n 0, 1) := by decide +kernel
theorem dX7_best_14 : decode cX7_best 14 = .ok (.getfield 58, 3) := by decide +kernel
theorem dX7_best_17 : decode cX7_best 17 = .ok (.iload_n 1, 1) := by decide +kernel
theorem dX7_best_18 : decode cX7_best 18 = .ok (.invokevirtual 157, 3) := by decide +kernel
theorem dX7_best_21 : decode cX7_best 21 = .ok (.goto 4, 3) := by decide +kernel
theorem dX7_best_24 : decode cX7_best 24 = .ok (.lconst 0, 1) := by decide +kernel
theorem dX7_best_25 : decode cX7_best 25 = .ok (.lreturn, 1) := by decide +kernel
set_option maxRecDepth 20000 in
theorem ggX7_ends_X1_size : GoodIn wsX7_ends wsX1_size := goodIn_r _ [6, 7, 27, 28, 29] (by decide +kernel) (by decide +kernel)
set_option maxRecDepth 20000 in
theorem gX7_ends_X1_size : GoodIn wsX7_ends (wsV RX7 172 RX1 yX1_size wsX1_size) := goodIn_app (goodIn_of _ (by decide +kernel)) ggX7_ends_X1_size
set_option maxRecDepth 20000 in
theorem ggX7_ends_X1_has : GoodIn wsX7_ends wsX1_has := goodIn_r _ [11, 7, 27, 28, 29] (by decide +kernel) (by decide +kernel)
set_option maxRecDepth 20000 in
theorem gX7_ends_X1_has : GoodIn wsX7_ends (wsV RX7 173 RX1 yX1_has wsX1_has) := goodIn_app (goodIn_of _ (by decide +kernel)) ggX7_ends_X1_has
set_option maxRecDepth 20000 in
theorem ggX7_ends_X1_setAt : GoodIn wsX7_ends wsX1_setAt := goodIn_r _ [15, 7, 16, 27, 28, 29] (by decide +kernel) (by decide +kernel)
set_option maxRecDepth 20000 in
theorem gX7_ends_X1_setAt : GoodIn wsX7_ends (wsV RX7 174 RX1 yX1_setAt wsX1_setAt) := goodIn_app (goodIn_of _ (by decide +kernel)) ggX7_ends_X1_setAt
theorem dX7_ends_0 : decode cX7_ends 0 = .ok (.iload_n 1, 1) := by decide +kernel
theorem dX7_ends_1 : decode cX7_ends 1 = .ok (.iconst (-1), 1) := by decide +kernel
theorem dX7_ends_2 : decode cX7_ends 2 = .ok (.if_icmp .ne 11, 3) := by decide +kernel
theorem dX7_ends_5 : decode cX7_ends 5 = .ok (.aload_n 0, 1) := by decide +kernel
theorem dX7_ends_6 : decode cX7_ends 6 = .ok (.getfield 45, 3) := by decide +kernel
theorem dX7_ends_9 : decode cX7_ends 9 = .ok (.invokevirtual 172, 3) := by decide +kernel
theorem dX7_ends_12 : decode cX7_ends 12 = .ok (.ireturn, 1) := by decide +kernel
theorem dX7_ends_13 : decode cX7_ends 13 = .ok (.aload_n 0, 1) := by decide +kernel
theorem dX7_ends_14 : decode cX7_ends 14 = .ok (.getfield 45, 3) := by decide +kernel
theorem dX7_ends_17 : decode cX7_ends 17 = .ok (.iload_n 1, 1) := by decide +kernel
theorem dX7_ends_18 : decode cX7_ends 18 = .ok (.invokevirtual 173, 3) := by decide +kernel
theorem dX7_ends_21 : decode cX7_ends 21 = .ok (.ifCond .eq 14, 3) := by decide +kernel
theorem dX7_ends_24 : decode cX7_ends 24 = .ok (.aload_n 0, 1) := by decide +kernel
theorem dX7_ends_25 : decode cX7_ends 25 = .ok (.getfield 45, 3) := by decide +kernel
theorem dX7_ends_28 : decode cX7_ends 28 = .ok (.iload_n 1, 1) := by decide +kernel
theorem dX7_ends_29 : decode cX7_ends 29 = .ok (.invokevirtual 174, 3) := by decide +kernel
theorem dX7_ends_32 : decode cX7_ends 32 = .ok (.goto 4, 3) := by decide +kernel
theorem dX7_ends_35 : decode cX7_ends 35 = .ok (.iconst (-1), 1) := by decide +kernel
theorem dX7_ends_36 : decode cX7_ends 36 = .ok (.ireturn, 1) := by decide +kernel
set_option maxRecDepth 20000 in
theorem ggX7_leaves_X1_leftAt : GoodIn wsX7_leaves wsX1_leftAt := goodIn_r _ [6, 7, 8, 19, 20, 21] (by decide +kernel) (by decide +kernel)
set_option maxRecDepth 20000 in
theorem gX7_leaves_X1_leftAt : GoodIn wsX7_leaves (wsV RX7 177 RX1 yX1_leftAt wsX1_leftAt) := goodIn_app (goodIn_of _ (by decide +kernel)) ggX7_leaves_X1_leftAt
theorem dX7_leaves_0 : decode cX7_leaves 0 = .ok (.aload_n 0, 1) := by decide +kernel
theorem dX7_leaves_1 : decode cX7_leaves 1 = .ok (.getfield 45, 3) := by decide +kernel
theorem dX7_leaves_4 : decode cX7_leaves 4 = .ok (.iload_n 1, 1) := by decide +kernel
theorem dX7_leaves_5 : decode cX7_leaves 5 = .ok (.invokevirtual 177, 3) := by decide +kernel
theorem dX7_leaves_8 : decode cX7_leaves 8 = .ok (.lreturn, 1) := by decide +kernel
set_option maxRecDepth 20000 in
theorem ggX7_held_X1_holding : GoodIn wsX7_held wsX1_holding := goodIn_r _ [7, 8, 9, 10, 11, 6, 12, 13, 14, 15, 16, 17, 28, 29, 30] (by decide +kernel) (by decide +kernel)
set_option maxRecDepth 20000 in
theorem gX7_held_X1_holding : GoodIn wsX7_held (wsV RX7 180 RX1 yX1_holding wsX1_holding) := goodIn_app (goodIn_of _ (by decide +kernel)) ggX7_held_X1_holding
theorem dX7_held_0 : decode cX7_held 0 = .ok (.aload_n 0, 1) := by decide +kernel
theorem dX7_held_1 : decode cX7_held 1 = .ok (.getfield 45, 3) := by decide +kernel
theorem dX7_held_4 : decode cX7_held 4 = .ok (.aload_n 0, 1) := by decide +kernel
theorem dX7_held_5 : decode cX7_held 5 = .ok (.getfield 62, 3) := by decide +kernel
theorem dX7_held_8 : decode cX7_held 8 = .ok (.invokevirtual 180, 3) := by decide +kernel
theorem dX7_held_11 : decode cX7_held 11 = .ok (.ireturn, 1) := by decide +kernel
set_option maxRecDepth 20000 in
theorem ggX7_why_J6_bitCount_0f7a4 : GoodIn wsX7_why wsJ6_bitCount_0f7a4 := goodIn_r _ [6, 7, 8, 9] (by decide +kernel) (by decide +kernel)
set_option maxRecDepth 20000 in
theorem gX7_why_J6_bitCount_0f7a4 : GoodIn wsX7_why (va_wsS RX7 184 yJ6_bitCount_0f7a4 wsJ6_bitCount_0f7a4) := goodIn_app (goodIn_of _ (by decide +kernel)) ggX7_why_J6_bitCount_0f7a4
set_option maxRecDepth 20000 in
theorem ggX7_why_X2_tellsWhy : GoodIn wsX7_why wsX2_tellsWhy := goodIn_r _ [14, 15, 16, 17, 18, 19, 20, 21, 22, 23, 24, 13, 25, 26, 27, 28, 29, 30, 31, 32, 33, 34, 35, 36, 37, 48, 49, 50, 51, 52, 53, 54, 55, 56] (by decide +kernel) (by decide +kernel)
set_option maxRecDepth 20000 in
theorem gX7_why_X2_tellsWhy : GoodIn wsX7_why (wsV RX7 189 RX2 yX2_tellsWhy wsX2_tellsWhy) := goodIn_app (goodIn_of _ (by decide +kernel)) ggX7_why_X2_tellsWhy
theorem dX7_why_0 : decode cX7_why 0 = .ok (.iload_n 1, 1) := by decide +kernel
theorem dX7_why_1 : decode cX7_why 1 = .ok (.iconst (-1), 1) := by decide +kernel
theorem dX7_why_2 : decode cX7_why 2 = .ok (.if_icmp .ge 5, 3) := by decide +kernel
theorem dX7_why_5 : decode cX7_why 5 = .ok (.iconst (-1), 1) := by decide +kernel
theorem dX7_why_6 : decode cX7_why 6 = .ok (.ireturn, 1) := by decide +kernel
theorem dX7_why_7 : decode cX7_why 7 = .ok (.iconst 0, 1) := by decide +kernel
theorem dX7_why_8 : decode cX7_why 8 = .ok (.istore_n 2, 1) := by decide +kernel
theorem dX7_why_9 : decode cX7_why 9 = .ok (.iconst 0, 1) := by decide +kernel
theorem dX7_why_10 : decode cX7_why 10 = .ok (.istore_n 3, 1) := by decide +kernel
theorem dX7_why_11 : decode cX7_why 11 = .ok (.iload_n 3, 1) := by decide +kernel
theorem dX7_why_12 : decode cX7_why 12 = .ok (.bipush 6, 2) := by decide +kernel
theorem dX7_why_14 : decode cX7_why 14 = .ok (.if_icmp .gt 61, 3) := by decide +kernel
theorem dX7_why_17 : decode cX7_why 17 = .ok (.iconst 0, 1) := by decide +kernel
theorem dX7_why_18 : decode cX7_why 18 = .ok (.istore 4, 2) := by decide +kernel
theorem dX7_why_20 : decode cX7_why 20 = .ok (.iload 4, 2) := by decide +kernel
theorem dX7_why_22 : decode cX7_why 22 = .ok (.bipush 64, 2) := by decide +kernel
theorem dX7_why_24 : decode cX7_why 24 = .ok (.if_icmp .ge 45, 3) := by decide +kernel
theorem dX7_why_27 : decode cX7_why 27 = .ok (.iload 4, 2) := by decide +kernel
theorem dX7_why_29 : decode cX7_why 29 = .ok (.invokestatic 184, 3) := by decide +kernel
theorem dX7_why_32 : decode cX7_why 32 = .ok (.iload_n 3, 1) := by decide +kernel
theorem dX7_why_33 : decode cX7_why 33 = .ok (.if_icmp .ne 30, 3) := by decide +kernel
theorem dX7_why_36 : decode cX7_why 36 = .ok (.aload_n 0, 1) := by decide +kernel
theorem dX7_why_37 : decode cX7_why 37 = .ok (.getfield 26, 3) := by decide +kernel
theorem dX7_why_40 : decode cX7_why 40 = .ok (.iload 4, 2) := by decide +kernel
theorem dX7_why_42 : decode cX7_why 42 = .ok (.aload_n 0, 1) := by decide +kernel
theorem dX7_why_43 : decode cX7_why 43 = .ok (.getfield 62, 3) := by decide +kernel
theorem dX7_why_46 : decode cX7_why 46 = .ok (.invokevirtual 189, 3) := by decide +kernel
theorem dX7_why_49 : decode cX7_why 49 = .ok (.ifCond .eq 14, 3) := by decide +kernel
theorem dX7_why_52 : decode cX7_why 52 = .ok (.iload_n 2, 1) := by decide +kernel
theorem dX7_why_53 : decode cX7_why 53 = .ok (.iload_n 1, 1) := by decide +kernel
theorem dX7_why_54 : decode cX7_why 54 = .ok (.if_icmp .ne 6, 3) := by decide +kernel
theorem dX7_why_57 : decode cX7_why 57 = .ok (.iload 4, 2) := by decide +kernel
theorem dX7_why_59 : decode cX7_why 59 = .ok (.ireturn, 1) := by decide +kernel
theorem dX7_why_60 : decode cX7_why 60 = .ok (.iinc 2 1, 3) := by decide +kernel
theorem dX7_why_63 : decode cX7_why 63 = .ok (.iinc 4 1, 3) := by decide +kernel
theorem dX7_why_66 : decode cX7_why 66 = .ok (.goto (-46), 3) := by decide +kernel
theorem dX7_why_69 : decode cX7_why 69 = .ok (.iinc 3 1, 3) := by decide +kernel
theorem dX7_why_72 : decode cX7_why 72 = .ok (.goto (-61), 3) := by decide +kernel
theorem dX7_why_75 : decode cX7_why 75 = .ok (.iload_n 1, 1) := by decide +kernel
theorem dX7_why_76 : decode cX7_why 76 = .ok (.iconst (-1), 1) := by decide +kernel
theorem dX7_why_77 : decode cX7_why 77 = .ok (.if_icmp .ne 7, 3) := by decide +kernel
theorem dX7_why_80 : decode cX7_why 80 = .ok (.iload_n 2, 1) := by decide +kernel
theorem dX7_why_81 : decode cX7_why 81 = .ok (.goto 4, 3) := by decide +kernel
theorem dX7_why_84 : decode cX7_why 84 = .ok (.iconst (-1), 1) := by decide +kernel
theorem dX7_why_85 : decode cX7_why 85 = .ok (.ireturn, 1) := by decide +kernel
set_option maxRecDepth 20000 in
theorem ggX7_doubt_X7_isWorld : GoodIn wsX7_doubt wsX7_isWorld := goodIn_r _ [5] (by decide +kernel) (by decide +kernel)
set_option maxRecDepth 20000 in
theorem gX7_doubt_X7_isWorld : GoodIn wsX7_doubt (va_wsS RX7 148 yX7_isWorld wsX7_isWorld) := goodIn_app (goodIn_of _ (by decide +kernel)) ggX7_doubt_X7_isWorld
set_option maxRecDepth 20000 in
theorem ggX7_doubt_X0_at : GoodIn wsX7_doubt wsX0_at := goodIn_r _ [10, 11, 22] (by decide +kernel) (by decide +kernel)
set_option maxRecDepth 20000 in
theorem gX7_doubt_X0_at : GoodIn wsX7_doubt (wsV RX7 193 RX0 yX0_at wsX0_at) := goodIn_app (goodIn_of _ (by decide +kernel)) ggX7_doubt_X0_at
theorem dX7_doubt_0 : decode cX7_doubt 0 = .ok (.iload_n 1, 1) := by decide +kernel
theorem dX7_doubt_1 : decode cX7_doubt 1 = .ok (.invokestatic 148, 3) := by decide +kernel
theorem dX7_doubt_4 : decode cX7_doubt 4 = .ok (.ifCond .eq 14, 3) := by decide +kernel
theorem dX7_doubt_7 : decode cX7_doubt 7 = .ok (.aload_n 0, 1) := by decide +kernel
theorem dX7_doubt_8 : decode cX7_doubt 8 = .ok (.getfield 52, 3) := by decide +kernel
theorem dX7_doubt_11 : decode cX7_doubt 11 = .ok (.iload_n 1, 1) := by decide +kernel
theorem dX7_doubt_12 : decode cX7_doubt 12 = .ok (.invokevirtual 193, 3) := by decide +kernel
theorem dX7_doubt_15 : decode cX7_doubt 15 = .ok (.goto 4, 3) := by decide +kernel
theorem dX7_doubt_18 : decode cX7_doubt 18 = .ok (.iconst (-1), 1) := by decide +kernel
theorem dX7_doubt_19 : decode cX7_doubt 19 = .ok (.ireturn, 1) := by decide +kernel
set_option maxRecDepth 20000 in
theorem ggX7_learn_X2_worldsThere : GoodIn wsX7_learn wsX2_worldsThere := goodIn_r _ [9, 10, 42, 43, 44, 45, 46, 47] (by decide +kernel) (by decide +kernel)
set_option maxRecDepth 20000 in
theorem gX7_learn_X2_worldsThere : GoodIn wsX7_learn (wsV RX7 131 RX2 yX2_worldsThere wsX2_worldsThere) := goodIn_app (goodIn_of _ (by decide +kernel)) ggX7_learn_X2_worldsThere
set_option maxRecDepth 20000 in
theorem ggX7_learn_X0_least : GoodIn wsX7_learn wsX0_least := goodIn_r _ [15, 16, 17, 18, 19, 20, 21, 22, 23, 48] (by decide +kernel) (by decide +kernel)
set_option maxRecDepth 20000 in
theorem gX7_learn_X0_least : GoodIn wsX7_learn (wsV RX7 196 RX0 yX0_least wsX0_least) := goodIn_app (goodIn_of _ (by decide +kernel)) ggX7_learn_X0_least
set_option maxRecDepth 20000 in
theorem ggX7_learn_X0_shift : GoodIn wsX7_learn wsX0_shift := goodIn_r _ [27, 16, 17, 18, 19, 20, 21, 22, 23, 48] (by decide +kernel) (by decide +kernel)
set_option maxRecDepth 20000 in
theorem gX7_learn_X0_shift : GoodIn wsX7_learn (wsV RX7 198 RX0 yX0_shift wsX0_shift) := goodIn_app (goodIn_of _ (by decide +kernel)) ggX7_learn_X0_shift
set_option maxRecDepth 20000 in
theorem ggX7_learn_X0_free : GoodIn wsX7_learn wsX0_free := goodIn_r _ [31, 16, 48] (by decide +kernel) (by decide +kernel)
set_option maxRecDepth 20000 in
theorem gX7_learn_X0_free : GoodIn wsX7_learn (wsV RX7 202 RX0 yX0_free wsX0_free) := goodIn_app (goodIn_of _ (by decide +kernel)) ggX7_learn_X0_free
theorem dX7_learn_0 : decode cX7_learn 0 = .ok (.iload_n 1, 1) := by decide +kernel
theorem dX7_learn_1 : decode cX7_learn 1 = .ok (.iconst 1, 1) := by decide +kernel
theorem dX7_learn_2 : decode cX7_learn 2 = .ok (.if_icmp .lt 9, 3) := by decide +kernel
theorem dX7_learn_5 : decode cX7_learn 5 = .ok (.iload_n 1, 1) := by decide +kernel
theorem dX7_learn_6 : decode cX7_learn 6 = .ok (.bipush 20, 2) := by decide +kernel
theorem dX7_learn_8 : decode cX7_learn 8 = .ok (.if_icmp .le 5, 3) := by decide +kernel
theorem dX7_learn_11 : decode cX7_learn 11 = .ok (.iconst (-1), 1) := by decide +kernel
theorem dX7_learn_12 : decode cX7_learn 12 = .ok (.ireturn, 1) := by decide +kernel
theorem dX7_learn_13 : decode cX7_learn 13 = .ok (.aload_n 0, 1) := by decide +kernel
theorem dX7_learn_14 : decode cX7_learn 14 = .ok (.getfield 26, 3) := by decide +kernel
theorem dX7_learn_17 : decode cX7_learn 17 = .ok (.invokevirtual 131, 3) := by decide +kernel
theorem dX7_learn_20 : decode cX7_learn 20 = .ok (.aload_n 0, 1) := by decide +kernel
theorem dX7_learn_21 : decode cX7_learn 21 = .ok (.getfield 62, 3) := by decide +kernel
theorem dX7_learn_24 : decode cX7_learn 24 = .ok (.land, 1) := by decide +kernel
theorem dX7_learn_25 : decode cX7_learn 25 = .ok (.lstore_n 2, 1) := by decide +kernel
theorem dX7_learn_26 : decode cX7_learn 26 = .ok (.aload_n 0, 1) := by decide +kernel
theorem dX7_learn_27 : decode cX7_learn 27 = .ok (.getfield 26, 3) := by decide +kernel
theorem dX7_learn_30 : decode cX7_learn 30 = .ok (.invokevirtual 131, 3) := by decide +kernel
theorem dX7_learn_33 : decode cX7_learn 33 = .ok (.aload_n 0, 1) := by decide +kernel
theorem dX7_learn_34 : decode cX7_learn 34 = .ok (.getfield 62, 3) := by decide +kernel
theorem dX7_learn_37 : decode cX7_learn 37 = .ok (.ldc2_w 56, 3) := by decide +kernel
theorem dX7_learn_40 : decode cX7_learn 40 = .ok (.lxor, 1) := by decide +kernel
theorem dX7_learn_41 : decode cX7_learn 41 = .ok (.land, 1) := by decide +kernel
theorem dX7_learn_42 : decode cX7_learn 42 = .ok (.lstore 4, 2) := by decide +kernel
theorem dX7_learn_44 : decode cX7_learn 44 = .ok (.lload_n 2, 1) := by decide +kernel
theorem dX7_learn_45 : decode cX7_learn 45 = .ok (.lconst 0, 1) := by decide +kernel
theorem dX7_learn_46 : decode cX7_learn 46 = .ok (.lcmp, 1) := by decide +kernel
theorem dX7_learn_47 : decode cX7_learn 47 = .ok (.ifCond .eq 10, 3) := by decide +kernel
theorem dX7_learn_50 : decode cX7_learn 50 = .ok (.lload 4, 2) := by decide +kernel
theorem dX7_learn_52 : decode cX7_learn 52 = .ok (.lconst 0, 1) := by decide +kernel
theorem dX7_learn_53 : decode cX7_learn 53 = .ok (.lcmp, 1) := by decide +kernel
theorem dX7_learn_54 : decode cX7_learn 54 = .ok (.ifCond .ne 6, 3) := by decide +kernel
theorem dX7_learn_57 : decode cX7_learn 57 = .ok (.bipush (-2), 2) := by decide +kernel
theorem dX7_learn_59 : decode cX7_learn 59 = .ok (.ireturn, 1) := by decide +kernel
theorem dX7_learn_60 : decode cX7_learn 60 = .ok (.aload_n 0, 1) := by decide +kernel
theorem dX7_learn_61 : decode cX7_learn 61 = .ok (.getfield 52, 3) := by decide +kernel
theorem dX7_learn_64 : decode cX7_learn 64 = .ok (.lload_n 2, 1) := by decide +kernel
theorem dX7_learn_65 : decode cX7_learn 65 = .ok (.aload_n 0, 1) := by decide +kernel
theorem dX7_learn_66 : decode cX7_learn 66 = .ok (.getfield 52, 3) := by decide +kernel
theorem dX7_learn_69 : decode cX7_learn 69 = .ok (.lload_n 2, 1) := by decide +kernel
theorem dX7_learn_70 : decode cX7_learn 70 = .ok (.invokevirtual 196, 3) := by decide +kernel
theorem dX7_learn_73 : decode cX7_learn 73 = .ok (.ineg, 1) := by decide +kernel
theorem dX7_learn_74 : decode cX7_learn 74 = .ok (.invokevirtual 198, 3) := by decide +kernel
theorem dX7_learn_77 : decode cX7_learn 77 = .ok (.aload_n 0, 1) := by decide +kernel
theorem dX7_learn_78 : decode cX7_learn 78 = .ok (.getfield 52, 3) := by decide +kernel
theorem dX7_learn_81 : decode cX7_learn 81 = .ok (.lload 4, 2) := by decide +kernel
theorem dX7_learn_83 : decode cX7_learn 83 = .ok (.iload_n 1, 1) := by decide +kernel
theorem dX7_learn_84 : decode cX7_learn 84 = .ok (.aload_n 0, 1) := by decide +kernel
theorem dX7_learn_85 : decode cX7_learn 85 = .ok (.getfield 52, 3) := by decide +kernel
theorem dX7_learn_88 : decode cX7_learn 88 = .ok (.lload 4, 2) := by decide +kernel
theorem dX7_learn_90 : decode cX7_learn 90 = .ok (.invokevirtual 196, 3) := by decide +kernel
theorem dX7_learn_93 : decode cX7_learn 93 = .ok (.isub, 1) := by decide +kernel
theorem dX7_learn_94 : decode cX7_learn 94 = .ok (.invokevirtual 198, 3) := by decide +kernel
theorem dX7_learn_97 : decode cX7_learn 97 = .ok (.aload_n 0, 1) := by decide +kernel
theorem dX7_learn_98 : decode cX7_learn 98 = .ok (.getfield 52, 3) := by decide +kernel
theorem dX7_learn_101 : decode cX7_learn 101 = .ok (.invokevirtual 202, 3) := by decide +kernel
theorem dX7_learn_104 : decode cX7_learn 104 = .ok (.ireturn, 1) := by decide +kernel
set_option maxRecDepth 20000 in
theorem ggX7_believed_X2_worldsThere : GoodIn wsX7_believed wsX2_worldsThere := goodIn_r _ [9, 10, 34, 35, 36, 37, 38, 39] (by decide +kernel) (by decide +kernel)
set_option maxRecDepth 20000 in
theorem gX7_believed_X2_worldsThere : GoodIn wsX7_believed (wsV RX7 131 RX2 yX2_worldsThere wsX2_worldsThere) := goodIn_app (goodIn_of _ (by decide +kernel)) ggX7_believed_X2_worldsThere
set_option maxRecDepth 20000 in
theorem ggX7_believed_X0_least : GoodIn wsX7_believed wsX0_least := goodIn_r _ [15, 16, 17, 18, 19, 20, 21, 22, 23, 40] (by decide +kernel) (by decide +kernel)
set_option maxRecDepth 20000 in
theorem gX7_believed_X0_least : GoodIn wsX7_believed (wsV RX7 196 RX0 yX0_least wsX0_least) := goodIn_app (goodIn_of _ (by decide +kernel)) ggX7_believed_X0_least
theorem dX7_believed_0 : decode cX7_believed 0 = .ok (.aload_n 0, 1) := by decide +kernel
theorem dX7_believed_1 : decode cX7_believed 1 = .ok (.getfield 26, 3) := by decide +kernel
theorem dX7_believed_4 : decode cX7_believed 4 = .ok (.invokevirtual 131, 3) := by decide +kernel
theorem dX7_believed_7 : decode cX7_believed 7 = .ok (.aload_n 0, 1) := by decide +kernel
theorem dX7_believed_8 : decode cX7_believed 8 = .ok (.getfield 62, 3) := by decide +kernel
theorem dX7_believed_11 : decode cX7_believed 11 = .ok (.land, 1) := by decide +kernel
theorem dX7_believed_12 : decode cX7_believed 12 = .ok (.lstore_n 1, 1) := by decide +kernel
theorem dX7_believed_13 : decode cX7_believed 13 = .ok (.aload_n 0, 1) := by decide +kernel
theorem dX7_believed_14 : decode cX7_believed 14 = .ok (.getfield 26, 3) := by decide +kernel
theorem dX7_believed_17 : decode cX7_believed 17 = .ok (.invokevirtual 131, 3) := by decide +kernel
theorem dX7_believed_20 : decode cX7_believed 20 = .ok (.aload_n 0, 1) := by decide +kernel
theorem dX7_believed_21 : decode cX7_believed 21 = .ok (.getfield 62, 3) := by decide +kernel
theorem dX7_believed_24 : decode cX7_believed 24 = .ok (.ldc2_w 56, 3) := by decide +kernel
theorem dX7_believed_27 : decode cX7_believed 27 = .ok (.lxor, 1) := by decide +kernel
theorem dX7_believed_28 : decode cX7_believed 28 = .ok (.land, 1) := by decide +kernel
theorem dX7_believed_29 : decode cX7_believed 29 = .ok (.lstore_n 3, 1) := by decide +kernel
theorem dX7_believed_30 : decode cX7_believed 30 = .ok (.lload_n 3, 1) := by decide +kernel
theorem dX7_believed_31 : decode cX7_believed 31 = .ok (.lconst 0, 1) := by decide +kernel
theorem dX7_believed_32 : decode cX7_believed 32 = .ok (.lcmp, 1) := by decide +kernel
theorem dX7_believed_33 : decode cX7_believed 33 = .ok (.ifCond .ne 6, 3) := by decide +kernel
theorem dX7_believed_36 : decode cX7_believed 36 = .ok (.bipush 99, 2) := by decide +kernel
theorem dX7_believed_38 : decode cX7_believed 38 = .ok (.ireturn, 1) := by decide +kernel
theorem dX7_believed_39 : decode cX7_believed 39 = .ok (.lload_n 1, 1) := by decide +kernel
theorem dX7_believed_40 : decode cX7_believed 40 = .ok (.lconst 0, 1) := by decide +kernel
theorem dX7_believed_41 : decode cX7_believed 41 = .ok (.lcmp, 1) := by decide +kernel
theorem dX7_believed_42 : decode cX7_believed 42 = .ok (.ifCond .ne 6, 3) := by decide +kernel
theorem dX7_believed_45 : decode cX7_believed 45 = .ok (.bipush (-99), 2) := by decide +kernel
theorem dX7_believed_47 : decode cX7_believed 47 = .ok (.ireturn, 1) := by decide +kernel
theorem dX7_believed_48 : decode cX7_believed 48 = .ok (.aload_n 0, 1) := by decide +kernel
theorem dX7_believed_49 : decode cX7_believed 49 = .ok (.getfield 52, 3) := by decide +kernel
theorem dX7_believed_52 : decode cX7_believed 52 = .ok (.lload_n 3, 1) := by decide +kernel
theorem dX7_believed_53 : decode cX7_believed 53 = .ok (.invokevirtual 196, 3) := by decide +kernel
theorem dX7_believed_56 : decode cX7_believed 56 = .ok (.aload_n 0, 1) := by decide +kernel
theorem dX7_believed_57 : decode cX7_believed 57 = .ok (.getfield 52, 3) := by decide +kernel
theorem dX7_believed_60 : decode cX7_believed 60 = .ok (.lload_n 1, 1) := by decide +kernel
theorem dX7_believed_61 : decode cX7_believed 61 = .ok (.invokevirtual 196, 3) := by decide +kernel
theorem dX7_believed_64 : decode cX7_believed 64 = .ok (.isub, 1) := by decide +kernel
theorem dX7_believed_65 : decode cX7_believed 65 = .ok (.ireturn, 1) := by decide +kernel
set_option maxRecDepth 20000 in
theorem ggX7_forget_X0_restart : GoodIn wsX7_forget wsX0_restart := goodIn_r _ [7, 8, 9, 10, 11, 12, 13, 14, 15, 16, 17, 18, 19, 20, 21, 22, 23, 24, 25, 26, 27, 28, 29, 30, 31, 32, 33, 34, 35, 36, 37, 38, 39, 40, 41, 42, 43, 44, 45, 46, 47, 48, 49, 50, 51, 52, 53, 54, 55, 56, 57, 58, 59, 60, 61, 62, 63, 64, 79, 80, 81, 82, 83, 84, 85, 86, 87, 88, 89, 90, 91, 92] (by decide +kernel) (by decide +kernel)
set_option maxRecDepth 20000 in
theorem gX7_forget_X0_restart : GoodIn wsX7_forget (wsV RX7 205 RX0 yX0_restart wsX0_restart) := goodIn_app (goodIn_of _ (by decide +kernel)) ggX7_forget_X0_restart
set_option maxRecDepth 20000 in
theorem ggX7_forget_X0_free : GoodIn wsX7_forget wsX0_free := goodIn_r _ [68, 8, 79] (by decide +kernel) (by decide +kernel)
set_option maxRecDepth 20000 in
theorem gX7_forget_X0_free : GoodIn wsX7_forget (wsV RX7 202 RX0 yX0_free wsX0_free) := goodIn_app (goodIn_of _ (by decide +kernel)) ggX7_forget_X0_free
theorem dX7_forget_0 : decode cX7_forget 0 = .ok (.aload_n 0, 1) := by decide +kernel
theorem dX7_forget_1 : decode cX7_forget 1 = .ok (.getfield 52, 3) := by decide +kernel
theorem dX7_forget_4 : decode cX7_forget 4 = .ok (.aload_n 0, 1) := by decide +kernel
theorem dX7_forget_5 : decode cX7_forget 5 = .ok (.getfield 26, 3) := by decide +kernel
theorem dX7_forget_8 : decode cX7_forget 8 = .ok (.invokevirtual 205, 3) := by decide +kernel
theorem dX7_forget_11 : decode cX7_forget 11 = .ok (.aload_n 0, 1) := by decide +kernel
theorem dX7_forget_12 : decode cX7_forget 12 = .ok (.getfield 52, 3) := by decide +kernel
theorem dX7_forget_15 : decode cX7_forget 15 = .ok (.invokevirtual 202, 3) := by decide +kernel
theorem dX7_forget_18 : decode cX7_forget 18 = .ok (.ireturn, 1) := by decide +kernel
set_option maxRecDepth 20000 in
theorem ggX7_weight_X4_has : GoodIn wsX7_weight wsX4_has := goodIn_r _ [7, 8, 9, 10, 11, 12, 13, 14, 87, 88, 89, 90, 91, 92, 93] (by decide +kernel) (by decide +kernel)
set_option maxRecDepth 20000 in
theorem gX7_weight_X4_has : GoodIn wsX7_weight (wsV RX7 140 RX4 yX4_has wsX4_has) := goodIn_app (goodIn_of _ (by decide +kernel)) ggX7_weight_X4_has
set_option maxRecDepth 20000 in
theorem ggX7_weight_X7_weighSaying : GoodIn wsX7_weight wsX7_weighSaying := goodIn_r _ [19, 20, 1, 2, 21, 22, 23, 24, 25, 26, 27, 28, 29, 30, 12, 31, 14, 32, 33, 34, 35, 36, 37, 38, 39, 71, 72, 73, 74, 75, 76, 77, 78, 79, 80, 81, 82, 83, 84, 85, 86, 87, 88, 89, 90, 91, 92, 93] (by decide +kernel) (by decide +kernel)
set_option maxRecDepth 20000 in
theorem gX7_weight_X7_weighSaying : GoodIn wsX7_weight (wsV RX7 208 RX7 yX7_weighSaying wsX7_weighSaying) := goodIn_app (goodIn_of _ (by decide +kernel)) ggX7_weight_X7_weighSaying
set_option maxRecDepth 20000 in
theorem ggX7_weight_X7_weighRuled : GoodIn wsX7_weight wsX7_weighRuled := goodIn_r _ [43, 20, 44, 1, 2, 15, 16, 17, 18, 19, 21, 22, 23, 24, 25, 26, 27, 28, 29, 30, 12, 31, 14, 32, 33, 34, 35, 36, 37, 38, 39, 45, 46, 47, 6, 48, 49, 50, 51, 52, 53, 71, 72, 73, 74, 75, 76, 77, 78, 79, 80, 81, 82, 83, 84, 85, 86, 87, 88, 89, 90, 91, 92, 93] (by decide +kernel) (by decide +kernel)
set_option maxRecDepth 20000 in
theorem gX7_weight_X7_weighRuled : GoodIn wsX7_weight (wsV RX7 211 RX7 yX7_weighRuled wsX7_weighRuled) := goodIn_app (goodIn_of _ (by decide +kernel)) ggX7_weight_X7_weighRuled
set_option maxRecDepth 20000 in
theorem ggX7_weight_X7_weighGuessed : GoodIn wsX7_weight wsX7_weighGuessed := goodIn_r _ [57, 20, 58, 15, 16, 17, 18, 19, 1, 2, 21, 22, 23, 24, 25, 26, 27, 28, 29, 30, 12, 31, 14, 32, 33, 34, 35, 36, 37, 38, 39, 71, 72, 73, 74, 75, 76, 77, 78, 79, 80, 81, 82, 83, 84, 85, 86, 87, 88, 89, 90, 91, 92, 93] (by decide +kernel) (by decide +kernel)
set_option maxRecDepth 20000 in
theorem gX7_weight_X7_weighGuessed : GoodIn wsX7_weight (wsV RX7 214 RX7 yX7_weighGuessed wsX7_weighGuessed) := goodIn_app (goodIn_of _ (by decide +kernel)) ggX7_weight_X7_weighGuessed
set_option maxRecDepth 20000 in
theorem ggX7_weight_X7_weighStrong : GoodIn wsX7_weight wsX7_weighStrong := goodIn_r _ [62, 20, 63, 1, 2, 40, 41, 42, 18, 43, 44, 15, 16, 17, 19, 21, 22, 23, 24, 25, 26, 27, 28, 29, 30, 12, 31, 14, 32, 33, 34, 35, 36, 37, 38, 39, 45, 46, 47, 6, 48, 49, 50, 51, 52, 53, 64, 65, 66, 67, 8, 68, 69, 70, 71, 72, 73, 74, 75, 76, 77, 78, 79, 80, 81, 82, 83, 84, 85, 86, 87, 88, 89, 90, 91, 92, 93] (by decide +kernel) (by decide +kernel)
set_option maxRecDepth 20000 in
theorem gX7_weight_X7_weighStrong : GoodIn wsX7_weight (wsV RX7 217 RX7 yX7_weighStrong wsX7_weighStrong) := goodIn_app (goodIn_of _ (by decide +kernel)) ggX7_weight_X7_weighStrong
theorem dX7_weight_0 : decode cX7_weight 0 = .ok (.aload_n 0, 1) := by decide +kernel
theorem dX7_weight_1 : decode cX7_weight 1 = .ok (.getfield 26, 3) := by decide +kernel
theorem dX7_weight_4 : decode cX7_weight 4 = .ok (.getfield 116, 3) := by decide +kernel
theorem dX7_weight_7 : decode cX7_weight 7 = .ok (.iload_n 2, 1) := by decide +kernel
theorem dX7_weight_8 : decode cX7_weight 8 = .ok (.invokevirtual 140, 3) := by decide +kernel
theorem dX7_weight_11 : decode cX7_weight 11 = .ok (.ifCond .ne 7, 3) := by decide +kernel
theorem dX7_weight_14 : decode cX7_weight 14 = .ok (.sipush (-1000), 3) := by decide +kernel
theorem dX7_weight_17 : decode cX7_weight 17 = .ok (.ireturn, 1) := by decide +kernel
theorem dX7_weight_18 : decode cX7_weight 18 = .ok (.iload_n 1, 1) := by decide +kernel
theorem dX7_weight_19 : decode cX7_weight 19 = .ok (.tableswitch 53 0 3 #[29, 35, 41, 47], 29) := by decide +kernel
theorem dX7_weight_48 : decode cX7_weight 48 = .ok (.aload_n 0, 1) := by decide +kernel
theorem dX7_weight_49 : decode cX7_weight 49 = .ok (.iload_n 2, 1) := by decide +kernel
theorem dX7_weight_50 : decode cX7_weight 50 = .ok (.invokevirtual 208, 3) := by decide +kernel
theorem dX7_weight_53 : decode cX7_weight 53 = .ok (.ireturn, 1) := by decide +kernel
theorem dX7_weight_54 : decode cX7_weight 54 = .ok (.aload_n 0, 1) := by decide +kernel
theorem dX7_weight_55 : decode cX7_weight 55 = .ok (.iload_n 2, 1) := by decide +kernel
theorem dX7_weight_56 : decode cX7_weight 56 = .ok (.invokevirtual 211, 3) := by decide +kernel
theorem dX7_weight_59 : decode cX7_weight 59 = .ok (.ireturn, 1) := by decide +kernel
theorem dX7_weight_60 : decode cX7_weight 60 = .ok (.aload_n 0, 1) := by decide +kernel
theorem dX7_weight_61 : decode cX7_weight 61 = .ok (.iload_n 2, 1) := by decide +kernel
theorem dX7_weight_62 : decode cX7_weight 62 = .ok (.invokevirtual 214, 3) := by decide +kernel
theorem dX7_weight_65 : decode cX7_weight 65 = .ok (.ireturn, 1) := by decide +kernel
theorem dX7_weight_66 : decode cX7_weight 66 = .ok (.aload_n 0, 1) := by decide +kernel
theorem dX7_weight_67 : decode cX7_weight 67 = .ok (.iload_n 2, 1) := by decide +kernel
theorem dX7_weight_68 : decode cX7_weight 68 = .ok (.invokevirtual 217, 3) := by decide +kernel
theorem dX7_weight_71 : decode cX7_weight 71 = .ok (.ireturn, 1) := by decide +kernel
theorem dX7_weight_72 : decode cX7_weight 72 = .ok (.sipush (-1000), 3) := by decide +kernel
theorem dX7_weight_75 : decode cX7_weight 75 = .ok (.ireturn, 1) := by decide +kernel
set_option maxRecDepth 20000 in
theorem ggX7_count_X5_size : GoodIn wsX7_count wsX5_size := goodIn_r _ [11, 12, 64, 65, 66] (by decide +kernel) (by decide +kernel)
set_option maxRecDepth 20000 in
theorem gX7_count_X5_size : GoodIn wsX7_count (wsV RX7 220 RX5 yX5_size wsX5_size) := goodIn_app (goodIn_of _ (by decide +kernel)) ggX7_count_X5_size
set_option maxRecDepth 20000 in
theorem ggX7_count_X4_size : GoodIn wsX7_count wsX4_size := goodIn_r _ [17, 18, 19, 8, 9, 10, 11, 12, 67, 68, 69, 70, 64, 65, 66] (by decide +kernel) (by decide +kernel)
set_option maxRecDepth 20000 in
theorem gX7_count_X4_size : GoodIn wsX7_count (wsV RX7 221 RX4 yX4_size wsX4_size) := goodIn_app (goodIn_of _ (by decide +kernel)) ggX7_count_X4_size
set_option maxRecDepth 20000 in
theorem ggX7_count_X4_quarrel : GoodIn wsX7_count wsX4_quarrel := goodIn_r _ [23, 24, 67, 68, 69, 70] (by decide +kernel) (by decide +kernel)
set_option maxRecDepth 20000 in
theorem gX7_count_X4_quarrel : GoodIn wsX7_count (wsV RX7 222 RX4 yX4_quarrel wsX4_quarrel) := goodIn_app (goodIn_of _ (by decide +kernel)) ggX7_count_X4_quarrel
set_option maxRecDepth 20000 in
theorem ggX7_count_X7_truth : GoodIn wsX7_count wsX7_truth := goodIn_r _ [28] (by decide +kernel) (by decide +kernel)
set_option maxRecDepth 20000 in
theorem gX7_count_X7_truth : GoodIn wsX7_count (va_wsS RX7 165 yX7_truth wsX7_truth) := goodIn_app (goodIn_of _ (by decide +kernel)) ggX7_count_X7_truth
set_option maxRecDepth 20000 in
theorem ggX7_count_X6_size : GoodIn wsX7_count wsX6_size := goodIn_r _ [33, 34, 71, 72] (by decide +kernel) (by decide +kernel)
set_option maxRecDepth 20000 in
theorem gX7_count_X6_size : GoodIn wsX7_count (wsV RX7 75 RX6 yX6_size wsX6_size) := goodIn_app (goodIn_of _ (by decide +kernel)) ggX7_count_X6_size
set_option maxRecDepth 20000 in
theorem ggX7_count_X2_worldsThere : GoodIn wsX7_count wsX2_worldsThere := goodIn_r _ [39, 40, 58, 59, 60, 61, 62, 63] (by decide +kernel) (by decide +kernel)
set_option maxRecDepth 20000 in
theorem gX7_count_X2_worldsThere : GoodIn wsX7_count (wsV RX7 131 RX2 yX2_worldsThere wsX2_worldsThere) := goodIn_app (goodIn_of _ (by decide +kernel)) ggX7_count_X2_worldsThere
set_option maxRecDepth 20000 in
theorem ggX7_count_J13_bitCount_95d88 : GoodIn wsX7_count wsJ13_bitCount_95d88 := goodIn_r _ [44, 45, 46, 47] (by decide +kernel) (by decide +kernel)
set_option maxRecDepth 20000 in
theorem gX7_count_J13_bitCount_95d88 : GoodIn wsX7_count (va_wsS RX7 225 yJ13_bitCount_95d88 wsJ13_bitCount_95d88) := goodIn_app (goodIn_of _ (by decide +kernel)) ggX7_count_J13_bitCount_95d88
theorem dX7_count_0 : decode cX7_count 0 = .ok (.iload_n 1, 1) := by decide +kernel
theorem dX7_count_1 : decode cX7_count 1 = .ok (.tableswitch 120 0 6 #[43, 54, 65, 76, 87, 101, 109], 43) := by decide +kernel
theorem dX7_count_44 : decode cX7_count 44 = .ok (.aload_n 0, 1) := by decide +kernel
theorem dX7_count_45 : decode cX7_count 45 = .ok (.getfield 26, 3) := by decide +kernel
theorem dX7_count_48 : decode cX7_count 48 = .ok (.getfield 106, 3) := by decide +kernel
theorem dX7_count_51 : decode cX7_count 51 = .ok (.invokevirtual 220, 3) := by decide +kernel
theorem dX7_count_54 : decode cX7_count 54 = .ok (.ireturn, 1) := by decide +kernel
theorem dX7_count_55 : decode cX7_count 55 = .ok (.aload_n 0, 1) := by decide +kernel
theorem dX7_count_56 : decode cX7_count 56 = .ok (.getfield 26, 3) := by decide +kernel
theorem dX7_count_59 : decode cX7_count 59 = .ok (.getfield 116, 3) := by decide +kernel
theorem dX7_count_62 : decode cX7_count 62 = .ok (.invokevirtual 221, 3) := by decide +kernel
theorem dX7_count_65 : decode cX7_count 65 = .ok (.ireturn, 1) := by decide +kernel
theorem dX7_count_66 : decode cX7_count 66 = .ok (.aload_n 0, 1) := by decide +kernel
theorem dX7_count_67 : decode cX7_count 67 = .ok (.getfield 26, 3) := by decide +kernel
theorem dX7_count_70 : decode cX7_count 70 = .ok (.getfield 125, 3) := by decide +kernel
theorem dX7_count_73 : decode cX7_count 73 = .ok (.invokevirtual 220, 3) := by decide +kernel
theorem dX7_count_76 : decode cX7_count 76 = .ok (.ireturn, 1) := by decide +kernel
theorem dX7_count_77 : decode cX7_count 77 = .ok (.aload_n 0, 1) := by decide +kernel
theorem dX7_count_78 : decode cX7_count 78 = .ok (.getfield 26, 3) := by decide +kernel
theorem dX7_count_81 : decode cX7_count 81 = .ok (.getfield 128, 3) := by decide +kernel
theorem dX7_count_84 : decode cX7_count 84 = .ok (.invokevirtual 220, 3) := by decide +kernel
theorem dX7_count_87 : decode cX7_count 87 = .ok (.ireturn, 1) := by decide +kernel
theorem dX7_count_88 : decode cX7_count 88 = .ok (.aload_n 0, 1) := by decide +kernel
theorem dX7_count_89 : decode cX7_count 89 = .ok (.getfield 26, 3) := by decide +kernel
theorem dX7_count_92 : decode cX7_count 92 = .ok (.getfield 116, 3) := by decide +kernel
theorem dX7_count_95 : decode cX7_count 95 = .ok (.invokevirtual 222, 3) := by decide +kernel
theorem dX7_count_98 : decode cX7_count 98 = .ok (.invokestatic 165, 3) := by decide +kernel
theorem dX7_count_101 : decode cX7_count 101 = .ok (.ireturn, 1) := by decide +kernel
theorem dX7_count_102 : decode cX7_count 102 = .ok (.aload_n 0, 1) := by decide +kernel
theorem dX7_count_103 : decode cX7_count 103 = .ok (.getfield 10, 3) := by decide +kernel
theorem dX7_count_106 : decode cX7_count 106 = .ok (.invokevirtual 75, 3) := by decide +kernel
theorem dX7_count_109 : decode cX7_count 109 = .ok (.ireturn, 1) := by decide +kernel
theorem dX7_count_110 : decode cX7_count 110 = .ok (.aload_n 0, 1) := by decide +kernel
theorem dX7_count_111 : decode cX7_count 111 = .ok (.getfield 26, 3) := by decide +kernel
theorem dX7_count_114 : decode cX7_count 114 = .ok (.invokevirtual 131, 3) := by decide +kernel
theorem dX7_count_117 : decode cX7_count 117 = .ok (.invokestatic 225, 3) := by decide +kernel
theorem dX7_count_120 : decode cX7_count 120 = .ok (.ireturn, 1) := by decide +kernel
theorem dX7_count_121 : decode cX7_count 121 = .ok (.iconst (-1), 1) := by decide +kernel
theorem dX7_count_122 : decode cX7_count 122 = .ok (.ireturn, 1) := by decide +kernel
theorem dX7_trace_0 : decode cX7_trace 0 = .ok (.aload_n 0, 1) := by decide +kernel
theorem dX7_trace_1 : decode cX7_trace 1 = .ok (.getfield 65, 3) := by decide +kernel
theorem dX7_trace_4 : decode cX7_trace 4 = .ok (.lreturn, 1) := by decide +kernel
set_option maxRecDepth 20000 in
theorem ggX7_settle_X2_settle : GoodIn wsX7_settle wsX2_settle := goodIn_r _ [9, 10, 11, 12, 13, 14, 15, 16, 17, 18, 19, 20, 21, 22, 23, 24, 25, 26, 27, 28, 29, 30, 31, 32, 33, 34, 35, 36, 37, 38, 39, 40, 41, 42, 43, 44, 45, 46, 47, 48, 49, 50, 51, 52, 53, 54, 55, 56, 57, 58, 59, 60, 132, 133, 134, 135, 136, 137, 138, 139, 140, 141, 142, 143, 144] (by decide +kernel) (by decide +kernel)
set_option maxRecDepth 20000 in
theorem gX7_settle_X2_settle : GoodIn wsX7_settle (wsV RX7 229 RX2 yX2_settle wsX2_settle) := goodIn_app (goodIn_of _ (by decide +kernel)) ggX7_settle_X2_settle
set_option maxRecDepth 20000 in
theorem ggX7_settle_X2_worldsOfGround : GoodIn wsX7_settle wsX2_worldsOfGround := goodIn_r _ [64, 13, 132, 133, 134, 135, 136, 137] (by decide +kernel) (by decide +kernel)
set_option maxRecDepth 20000 in
theorem gX7_settle_X2_worldsOfGround : GoodIn wsX7_settle (wsV RX7 134 RX2 yX2_worldsOfGround wsX2_worldsOfGround) := goodIn_app (goodIn_of _ (by decide +kernel)) ggX7_settle_X2_worldsOfGround
set_option maxRecDepth 20000 in
theorem ggX7_settle_X1_find : GoodIn wsX7_settle wsX1_find := goodIn_r _ [69, 70, 71, 35, 36, 30, 37, 38, 39, 40, 41, 18, 42, 21, 72, 73, 68, 74, 75, 76, 49, 50, 51, 77, 23, 24, 25, 26, 78, 79, 80, 81, 82, 83, 84, 85, 86, 87, 88, 89, 145, 146, 147, 141, 142, 143, 144, 138, 139, 140] (by decide +kernel) (by decide +kernel)
set_option maxRecDepth 20000 in
theorem gX7_settle_X1_find : GoodIn wsX7_settle (wsV RX7 230 RX1 yX1_find wsX1_find) := goodIn_app (goodIn_of _ (by decide +kernel)) ggX7_settle_X1_find
set_option maxRecDepth 20000 in
theorem ggX7_settle_X0_restart : GoodIn wsX7_settle wsX0_restart := goodIn_r _ [94, 95, 96, 97, 98, 8, 99, 11, 14, 100, 50, 101, 102, 103, 104, 30, 105, 34, 35, 36, 37, 38, 39, 40, 41, 18, 42, 21, 52, 53, 54, 55, 48, 47, 56, 23, 24, 25, 26, 106, 107, 108, 109, 110, 111, 112, 113, 49, 51, 114, 115, 116, 117, 118, 119, 120, 121, 32, 148, 132, 133, 134, 135, 136, 137, 141, 142, 143, 144, 138, 139, 140] (by decide +kernel) (by decide +kernel)
set_option maxRecDepth 20000 in
theorem gX7_settle_X0_restart : GoodIn wsX7_settle (wsV RX7 205 RX0 yX0_restart wsX0_restart) := goodIn_app (goodIn_of _ (by decide +kernel)) ggX7_settle_X0_restart
theorem dX7_settle_0 : decode cX7_settle 0 = .ok (.aload_n 0, 1) := by decide +kernel
theorem dX7_settle_1 : decode cX7_settle 1 = .ok (.getfield 26, 3) := by decide +kernel
theorem dX7_settle_4 : decode cX7_settle 4 = .ok (.invokevirtual 229, 3) := by decide +kernel
theorem dX7_settle_7 : decode cX7_settle 7 = .ok (.aload_n 0, 1) := by decide +kernel
theorem dX7_settle_8 : decode cX7_settle 8 = .ok (.getfield 45, 3) := by decide +kernel
theorem dX7_settle_11 : decode cX7_settle 11 = .ok (.aload_n 0, 1) := by decide +kernel
theorem dX7_settle_12 : decode cX7_settle 12 = .ok (.getfield 26, 3) := by decide +kernel
theorem dX7_settle_15 : decode cX7_settle 15 = .ok (.getfield 116, 3) := by decide +kernel
theorem dX7_settle_18 : decode cX7_settle 18 = .ok (.aload_n 0, 1) := by decide +kernel
theorem dX7_settle_19 : decode cX7_settle 19 = .ok (.getfield 26, 3) := by decide +kernel
theorem dX7_settle_22 : decode cX7_settle 22 = .ok (.invokevirtual 134, 3) := by decide +kernel
theorem dX7_settle_25 : decode cX7_settle 25 = .ok (.invokevirtual 230, 3) := by decide +kernel
theorem dX7_settle_28 : decode cX7_settle 28 = .ok (.aload_n 0, 1) := by decide +kernel
theorem dX7_settle_29 : decode cX7_settle 29 = .ok (.getfield 52, 3) := by decide +kernel
theorem dX7_settle_32 : decode cX7_settle 32 = .ok (.aload_n 0, 1) := by decide +kernel
theorem dX7_settle_33 : decode cX7_settle 33 = .ok (.getfield 26, 3) := by decide +kernel
theorem dX7_settle_36 : decode cX7_settle 36 = .ok (.invokevirtual 205, 3) := by decide +kernel
theorem dX7_settle_39 : decode cX7_settle 39 = .ok (.return_, 1) := by decide +kernel
set_option maxRecDepth 20000 in
theorem ggX7_faultAnswer_X3_fault : GoodIn wsX7_faultAnswer wsX3_fault := goodIn_r _ [6, 7, 8, 19, 20, 21, 22, 23, 24, 25] (by decide +kernel) (by decide +kernel)
set_option maxRecDepth 20000 in
theorem gX7_faultAnswer_X3_fault : GoodIn wsX7_faultAnswer (wsV RX7 234 RX3 yX3_fault wsX3_fault) := goodIn_app (goodIn_of _ (by decide +kernel)) ggX7_faultAnswer_X3_fault
theorem dX7_faultAnswer_0 : decode cX7_faultAnswer 0 = .ok (.bipush (-10), 2) := by decide +kernel
theorem dX7_faultAnswer_2 : decode cX7_faultAnswer 2 = .ok (.aload_n 0, 1) := by decide +kernel
theorem dX7_faultAnswer_3 : decode cX7_faultAnswer 3 = .ok (.getfield 19, 3) := by decide +kernel
theorem dX7_faultAnswer_6 : decode cX7_faultAnswer 6 = .ok (.invokevirtual 234, 3) := by decide +kernel
theorem dX7_faultAnswer_9 : decode cX7_faultAnswer 9 = .ok (.isub, 1) := by decide +kernel
theorem dX7_faultAnswer_10 : decode cX7_faultAnswer 10 = .ok (.ireturn, 1) := by decide +kernel
set_option maxRecDepth 20000 in
theorem ggX7_isEver_X4_copy : GoodIn wsX7_isEver wsX4_copy := goodIn_r _ [11, 12, 13, 14, 15, 16, 10, 17, 18, 19, 20, 21, 22, 23, 24, 25, 26, 27, 28, 29, 30, 31, 32, 33, 34, 35, 36, 37, 38, 39, 40, 41, 42, 43, 44, 45, 95, 96, 97, 98, 99, 100, 101] (by decide +kernel) (by decide +kernel)
set_option maxRecDepth 20000 in
theorem gX7_isEver_X4_copy : GoodIn wsX7_isEver (wsV RX7 237 RX4 yX4_copy wsX4_copy) := goodIn_app (goodIn_of _ (by decide +kernel)) ggX7_isEver_X4_copy
set_option maxRecDepth 20000 in
theorem ggX7_isEver_X4_add : GoodIn wsX7_isEver wsX4_add := goodIn_r _ [40, 12, 13, 41, 42, 43, 21, 44, 23, 45, 36, 95, 96, 97, 98, 99, 100, 101] (by decide +kernel) (by decide +kernel)
set_option maxRecDepth 20000 in
theorem gX7_isEver_X4_add : GoodIn wsX7_isEver (wsV RX7 241 RX4 yX4_add wsX4_add) := goodIn_app (goodIn_of _ (by decide +kernel)) ggX7_isEver_X4_add
set_option maxRecDepth 20000 in
theorem ggX7_isEver_X2_worldsThere : GoodIn wsX7_isEver wsX2_worldsThere := goodIn_r _ [51, 52, 89, 90, 91, 92, 93, 94] (by decide +kernel) (by decide +kernel)
set_option maxRecDepth 20000 in
theorem gX7_isEver_X2_worldsThere : GoodIn wsX7_isEver (wsV RX7 131 RX2 yX2_worldsThere wsX2_worldsThere) := goodIn_app (goodIn_of _ (by decide +kernel)) ggX7_isEver_X2_worldsThere
set_option maxRecDepth 20000 in
theorem ggX7_isEver_X4_sort : GoodIn wsX7_isEver wsX4_sort := goodIn_r _ [56, 57, 58, 24, 25, 26, 10, 27, 12, 28, 29, 30, 21, 31, 23, 59, 60, 61, 62, 63, 13, 64, 65, 66, 67, 68, 69, 70, 32, 33, 34, 35, 36, 71, 72, 73, 74, 95, 96, 97, 98, 99, 100, 101] (by decide +kernel) (by decide +kernel)
set_option maxRecDepth 20000 in
theorem gX7_isEver_X4_sort : GoodIn wsX7_isEver (wsV RX7 245 RX4 yX4_sort wsX4_sort) := goodIn_app (goodIn_of _ (by decide +kernel)) ggX7_isEver_X4_sort
set_option maxRecDepth 20000 in
theorem ggX7_isEver_X4_quarrel : GoodIn wsX7_isEver wsX4_quarrel := goodIn_r _ [78, 58, 95, 96, 97, 98] (by decide +kernel) (by decide +kernel)
set_option maxRecDepth 20000 in
theorem gX7_isEver_X4_quarrel : GoodIn wsX7_isEver (wsV RX7 222 RX4 yX4_quarrel wsX4_quarrel) := goodIn_app (goodIn_of _ (by decide +kernel)) ggX7_isEver_X4_quarrel
theorem dX7_isEver_0 : decode cX7_isEver 0 = .ok (.aload_n 0, 1) := by decide +kernel
theorem dX7_isEver_1 : decode cX7_isEver 1 = .ok (.getfield 38, 3) := by decide +kernel
theorem dX7_isEver_4 : decode cX7_isEver 4 = .ok (.aload_n 0, 1) := by decide +kernel
theorem dX7_isEver_5 : decode cX7_isEver 5 = .ok (.getfield 26, 3) := by decide +kernel
theorem dX7_isEver_8 : decode cX7_isEver 8 = .ok (.getfield 116, 3) := by decide +kernel
theorem dX7_isEver_11 : decode cX7_isEver 11 = .ok (.invokevirtual 237, 3) := by decide +kernel
theorem dX7_isEver_14 : decode cX7_isEver 14 = .ok (.aload_n 0, 1) := by decide +kernel
theorem dX7_isEver_15 : decode cX7_isEver 15 = .ok (.getfield 38, 3) := by decide +kernel
theorem dX7_isEver_18 : decode cX7_isEver 18 = .ok (.aload_n 0, 1) := by decide +kernel
theorem dX7_isEver_19 : decode cX7_isEver 19 = .ok (.getfield 58, 3) := by decide +kernel
theorem dX7_isEver_22 : decode cX7_isEver 22 = .ok (.aload_n 0, 1) := by decide +kernel
theorem dX7_isEver_23 : decode cX7_isEver 23 = .ok (.getfield 62, 3) := by decide +kernel
theorem dX7_isEver_26 : decode cX7_isEver 26 = .ok (.ldc2_w 56, 3) := by decide +kernel
theorem dX7_isEver_29 : decode cX7_isEver 29 = .ok (.lxor, 1) := by decide +kernel
theorem dX7_isEver_30 : decode cX7_isEver 30 = .ok (.invokevirtual 241, 3) := by decide +kernel
theorem dX7_isEver_33 : decode cX7_isEver 33 = .ok (.aload_n 0, 1) := by decide +kernel
theorem dX7_isEver_34 : decode cX7_isEver 34 = .ok (.getfield 38, 3) := by decide +kernel
theorem dX7_isEver_37 : decode cX7_isEver 37 = .ok (.aload_n 0, 1) := by decide +kernel
theorem dX7_isEver_38 : decode cX7_isEver 38 = .ok (.getfield 26, 3) := by decide +kernel
theorem dX7_isEver_41 : decode cX7_isEver 41 = .ok (.invokevirtual 131, 3) := by decide +kernel
theorem dX7_isEver_44 : decode cX7_isEver 44 = .ok (.invokevirtual 245, 3) := by decide +kernel
theorem dX7_isEver_47 : decode cX7_isEver 47 = .ok (.aload_n 0, 1) := by decide +kernel
theorem dX7_isEver_48 : decode cX7_isEver 48 = .ok (.getfield 38, 3) := by decide +kernel
theorem dX7_isEver_51 : decode cX7_isEver 51 = .ok (.invokevirtual 222, 3) := by decide +kernel
theorem dX7_isEver_54 : decode cX7_isEver 54 = .ok (.ireturn, 1) := by decide +kernel
set_option maxRecDepth 20000 in
theorem ggX7_weighSaying_X2_worldsThere : GoodIn wsX7_weighSaying wsX2_worldsThere := goodIn_r _ [9, 10, 35, 36, 37, 38, 39, 40] (by decide +kernel) (by decide +kernel)
set_option maxRecDepth 20000 in
theorem gX7_weighSaying_X2_worldsThere : GoodIn wsX7_weighSaying (wsV RX7 131 RX2 yX2_worldsThere wsX2_worldsThere) := goodIn_app (goodIn_of _ (by decide +kernel)) ggX7_weighSaying_X2_worldsThere
set_option maxRecDepth 20000 in
theorem ggX7_weighSaying_X5_get : GoodIn wsX7_weighSaying wsX5_get := goodIn_r _ [15, 16, 17, 45, 46, 47] (by decide +kernel) (by decide +kernel)
set_option maxRecDepth 20000 in
theorem gX7_weighSaying_X5_get : GoodIn wsX7_weighSaying (wsV RX7 110 RX5 yX5_get wsX5_get) := goodIn_app (goodIn_of _ (by decide +kernel)) ggX7_weighSaying_X5_get
set_option maxRecDepth 20000 in
theorem ggX7_weighSaying_J13_bitCount_95d88 : GoodIn wsX7_weighSaying wsJ13_bitCount_95d88 := goodIn_r _ [21, 22, 23, 24] (by decide +kernel) (by decide +kernel)
set_option maxRecDepth 20000 in
theorem gX7_weighSaying_J13_bitCount_95d88 : GoodIn wsX7_weighSaying (va_wsS RX7 225 yJ13_bitCount_95d88 wsJ13_bitCount_95d88) := goodIn_app (goodIn_of _ (by decide +kernel)) ggX7_weighSaying_J13_bitCount_95d88
theorem dX7_weighSaying_0 : decode cX7_weighSaying 0 = .ok (.aload_n 0, 1) := by decide +kernel
theorem dX7_weighSaying_1 : decode cX7_weighSaying 1 = .ok (.dup, 1) := by decide +kernel
theorem dX7_weighSaying_2 : decode cX7_weighSaying 2 = .ok (.getfield 65, 3) := by decide +kernel
theorem dX7_weighSaying_5 : decode cX7_weighSaying 5 = .ok (.lconst 1, 1) := by decide +kernel
theorem dX7_weighSaying_6 : decode cX7_weighSaying 6 = .ok (.ladd, 1) := by decide +kernel
theorem dX7_weighSaying_7 : decode cX7_weighSaying 7 = .ok (.putfield 65, 3) := by decide +kernel
theorem dX7_weighSaying_10 : decode cX7_weighSaying 10 = .ok (.aload_n 0, 1) := by decide +kernel
theorem dX7_weighSaying_11 : decode cX7_weighSaying 11 = .ok (.getfield 26, 3) := by decide +kernel
theorem dX7_weighSaying_14 : decode cX7_weighSaying 14 = .ok (.invokevirtual 131, 3) := by decide +kernel
theorem dX7_weighSaying_17 : decode cX7_weighSaying 17 = .ok (.aload_n 0, 1) := by decide +kernel
theorem dX7_weighSaying_18 : decode cX7_weighSaying 18 = .ok (.getfield 26, 3) := by decide +kernel
theorem dX7_weighSaying_21 : decode cX7_weighSaying 21 = .ok (.getfield 116, 3) := by decide +kernel
theorem dX7_weighSaying_24 : decode cX7_weighSaying 24 = .ok (.getfield 119, 3) := by decide +kernel
theorem dX7_weighSaying_27 : decode cX7_weighSaying 27 = .ok (.iload_n 1, 1) := by decide +kernel
theorem dX7_weighSaying_28 : decode cX7_weighSaying 28 = .ok (.invokevirtual 110, 3) := by decide +kernel
theorem dX7_weighSaying_31 : decode cX7_weighSaying 31 = .ok (.land, 1) := by decide +kernel
theorem dX7_weighSaying_32 : decode cX7_weighSaying 32 = .ok (.invokestatic 225, 3) := by decide +kernel
theorem dX7_weighSaying_35 : decode cX7_weighSaying 35 = .ok (.ireturn, 1) := by decide +kernel
set_option maxRecDepth 20000 in
theorem ggX7_weighRuled_X7_weighSaying : GoodIn wsX7_weighRuled wsX7_weighSaying := goodIn_r _ [9, 1, 3, 4, 10, 11, 12, 13, 14, 15, 16, 17, 18, 19, 20, 21, 22, 23, 24, 25, 26, 27, 28, 29, 30, 41, 42, 43, 44, 45, 46, 47, 48, 49, 50, 51, 52, 53, 54, 55, 56, 57, 58, 59, 60, 61, 62, 63] (by decide +kernel) (by decide +kernel)
set_option maxRecDepth 20000 in
theorem gX7_weighRuled_X7_weighSaying : GoodIn wsX7_weighRuled (wsV RX7 208 RX7 yX7_weighSaying wsX7_weighSaying) := goodIn_app (goodIn_of _ (by decide +kernel)) ggX7_weighRuled_X7_weighSaying
set_option maxRecDepth 20000 in
theorem ggX7_weighRuled_X4_countedGrade : GoodIn wsX7_weighRuled wsX4_countedGrade := goodIn_r _ [35, 36, 37, 38, 34, 39, 40, 57, 58, 59, 60] (by decide +kernel) (by decide +kernel)
set_option maxRecDepth 20000 in
theorem gX7_weighRuled_X4_countedGrade : GoodIn wsX7_weighRuled (wsV RX7 251 RX4 yX4_countedGrade wsX4_countedGrade) := goodIn_app (goodIn_of _ (by decide +kernel)) ggX7_weighRuled_X4_countedGrade
theorem dX7_weighRuled_0 : decode cX7_weighRuled 0 = .ok (.aload_n 0, 1) := by decide +kernel
theorem dX7_weighRuled_1 : decode cX7_weighRuled 1 = .ok (.dup, 1) := by decide +kernel
theorem dX7_weighRuled_2 : decode cX7_weighRuled 2 = .ok (.getfield 65, 3) := by decide +kernel
theorem dX7_weighRuled_5 : decode cX7_weighRuled 5 = .ok (.ldc2_w 249, 3) := by decide +kernel
theorem dX7_weighRuled_8 : decode cX7_weighRuled 8 = .ok (.ladd, 1) := by decide +kernel
theorem dX7_weighRuled_9 : decode cX7_weighRuled 9 = .ok (.putfield 65, 3) := by decide +kernel
theorem dX7_weighRuled_12 : decode cX7_weighRuled 12 = .ok (.aload_n 0, 1) := by decide +kernel
theorem dX7_weighRuled_13 : decode cX7_weighRuled 13 = .ok (.iload_n 1, 1) := by decide +kernel
theorem dX7_weighRuled_14 : decode cX7_weighRuled 14 = .ok (.invokevirtual 208, 3) := by decide +kernel
theorem dX7_weighRuled_17 : decode cX7_weighRuled 17 = .ok (.aload_n 0, 1) := by decide +kernel
theorem dX7_weighRuled_18 : decode cX7_weighRuled 18 = .ok (.getfield 26, 3) := by decide +kernel
theorem dX7_weighRuled_21 : decode cX7_weighRuled 21 = .ok (.getfield 116, 3) := by decide +kernel
theorem dX7_weighRuled_24 : decode cX7_weighRuled 24 = .ok (.iload_n 1, 1) := by decide +kernel
theorem dX7_weighRuled_25 : decode cX7_weighRuled 25 = .ok (.invokevirtual 251, 3) := by decide +kernel
theorem dX7_weighRuled_28 : decode cX7_weighRuled 28 = .ok (.iadd, 1) := by decide +kernel
theorem dX7_weighRuled_29 : decode cX7_weighRuled 29 = .ok (.ireturn, 1) := by decide +kernel
set_option maxRecDepth 20000 in
theorem ggX7_weighGuessed_X7_weighSaying : GoodIn wsX7_weighGuessed wsX7_weighSaying := goodIn_r _ [7, 1, 8, 9, 10, 11, 12, 13, 14, 15, 16, 17, 18, 19, 20, 21, 22, 23, 24, 25, 26, 27, 28, 29, 30, 31, 32, 33, 34, 35, 36, 37, 38, 39, 40, 41, 42, 43, 44, 45, 46, 47, 48, 49, 50, 51, 52, 53] (by decide +kernel) (by decide +kernel)
set_option maxRecDepth 20000 in
theorem gX7_weighGuessed_X7_weighSaying : GoodIn wsX7_weighGuessed (wsV RX7 208 RX7 yX7_weighSaying wsX7_weighSaying) := goodIn_app (goodIn_of _ (by decide +kernel)) ggX7_weighGuessed_X7_weighSaying
theorem dX7_weighGuessed_0 : decode cX7_weighGuessed 0 = .ok (.aload_n 0, 1) := by decide +kernel
theorem dX7_weighGuessed_1 : decode cX7_weighGuessed 1 = .ok (.dup, 1) := by decide +kernel
theorem dX7_weighGuessed_2 : decode cX7_weighGuessed 2 = .ok (.getfield 65, 3) := by decide +kernel
theorem dX7_weighGuessed_5 : decode cX7_weighGuessed 5 = .ok (.ldc2_w 254, 3) := by decide +kernel
theorem dX7_weighGuessed_8 : decode cX7_weighGuessed 8 = .ok (.ladd, 1) := by decide +kernel
theorem dX7_weighGuessed_9 : decode cX7_weighGuessed 9 = .ok (.putfield 65, 3) := by decide +kernel
theorem dX7_weighGuessed_12 : decode cX7_weighGuessed 12 = .ok (.aload_n 0, 1) := by decide +kernel
theorem dX7_weighGuessed_13 : decode cX7_weighGuessed 13 = .ok (.iload_n 1, 1) := by decide +kernel
theorem dX7_weighGuessed_14 : decode cX7_weighGuessed 14 = .ok (.invokevirtual 208, 3) := by decide +kernel
theorem dX7_weighGuessed_17 : decode cX7_weighGuessed 17 = .ok (.iconst 2, 1) := by decide +kernel
theorem dX7_weighGuessed_18 : decode cX7_weighGuessed 18 = .ok (.idiv, 1) := by decide +kernel
theorem dX7_weighGuessed_19 : decode cX7_weighGuessed 19 = .ok (.ireturn, 1) := by decide +kernel
set_option maxRecDepth 20000 in
theorem ggX7_weighStrong_X7_weighRuled : GoodIn wsX7_weighStrong wsX7_weighRuled := goodIn_r _ [9, 1, 10, 3, 4, 11, 12, 13, 8, 14, 15, 16, 17, 18, 19, 20, 21, 22, 23, 24, 25, 26, 27, 28, 29, 30, 31, 32, 33, 34, 35, 36, 37, 38, 39, 40, 41, 42, 43, 44, 45, 54, 55, 56, 57, 58, 59, 60, 61, 62, 63, 64, 65, 66, 67, 68, 69, 70, 71, 72, 73, 74, 75, 76] (by decide +kernel) (by decide +kernel)
set_option maxRecDepth 20000 in
theorem gX7_weighStrong_X7_weighRuled : GoodIn wsX7_weighStrong (wsV RX7 211 RX7 yX7_weighRuled wsX7_weighRuled) := goodIn_app (goodIn_of _ (by decide +kernel)) ggX7_weighStrong_X7_weighRuled
set_option maxRecDepth 20000 in
theorem ggX7_weighStrong_X2_worldsThere : GoodIn wsX7_weighStrong wsX2_worldsThere := goodIn_r _ [20, 21, 64, 65, 66, 67, 68, 69] (by decide +kernel) (by decide +kernel)
set_option maxRecDepth 20000 in
theorem gX7_weighStrong_X2_worldsThere : GoodIn wsX7_weighStrong (wsV RX7 131 RX2 yX2_worldsThere wsX2_worldsThere) := goodIn_app (goodIn_of _ (by decide +kernel)) ggX7_weighStrong_X2_worldsThere
set_option maxRecDepth 20000 in
theorem ggX7_weighStrong_X4_breaking : GoodIn wsX7_weighStrong wsX4_breaking := goodIn_r _ [49, 50, 51, 52, 53, 23, 24, 25, 26, 27, 28, 70, 71, 72, 73, 74, 75, 76] (by decide +kernel) (by decide +kernel)
set_option maxRecDepth 20000 in
theorem gX7_weighStrong_X4_breaking : GoodIn wsX7_weighStrong (wsV RX7 258 RX4 yX4_breaking wsX4_breaking) := goodIn_app (goodIn_of _ (by decide +kernel)) ggX7_weighStrong_X4_breaking
set_option maxRecDepth 20000 in
theorem ggX7_weighStrong_J13_bitCount_95d88 : GoodIn wsX7_weighStrong wsJ13_bitCount_95d88 := goodIn_r _ [32, 33, 34, 35] (by decide +kernel) (by decide +kernel)
set_option maxRecDepth 20000 in
theorem gX7_weighStrong_J13_bitCount_95d88 : GoodIn wsX7_weighStrong (va_wsS RX7 225 yJ13_bitCount_95d88 wsJ13_bitCount_95d88) := goodIn_app (goodIn_of _ (by decide +kernel)) ggX7_weighStrong_J13_bitCount_95d88
theorem dX7_weighStrong_0 : decode cX7_weighStrong 0 = .ok (.aload_n 0, 1) := by decide +kernel
theorem dX7_weighStrong_1 : decode cX7_weighStrong 1 = .ok (.dup, 1) := by decide +kernel
theorem dX7_weighStrong_2 : decode cX7_weighStrong 2 = .ok (.getfield 65, 3) := by decide +kernel
theorem dX7_weighStrong_5 : decode cX7_weighStrong 5 = .ok (.ldc2_w 256, 3) := by decide +kernel
theorem dX7_weighStrong_8 : decode cX7_weighStrong 8 = .ok (.ladd, 1) := by decide +kernel
theorem dX7_weighStrong_9 : decode cX7_weighStrong 9 = .ok (.putfield 65, 3) := by decide +kernel
theorem dX7_weighStrong_12 : decode cX7_weighStrong 12 = .ok (.iconst 2, 1) := by decide +kernel
theorem dX7_weighStrong_13 : decode cX7_weighStrong 13 = .ok (.aload_n 0, 1) := by decide +kernel
theorem dX7_weighStrong_14 : decode cX7_weighStrong 14 = .ok (.iload_n 1, 1) := by decide +kernel
theorem dX7_weighStrong_15 : decode cX7_weighStrong 15 = .ok (.invokevirtual 211, 3) := by decide +kernel
theorem dX7_weighStrong_18 : decode cX7_weighStrong 18 = .ok (.imul, 1) := by decide +kernel
theorem dX7_weighStrong_19 : decode cX7_weighStrong 19 = .ok (.aload_n 0, 1) := by decide +kernel
theorem dX7_weighStrong_20 : decode cX7_weighStrong 20 = .ok (.getfield 26, 3) := by decide +kernel
theorem dX7_weighStrong_23 : decode cX7_weighStrong 23 = .ok (.invokevirtual 131, 3) := by decide +kernel
theorem dX7_weighStrong_26 : decode cX7_weighStrong 26 = .ok (.aload_n 0, 1) := by decide +kernel
theorem dX7_weighStrong_27 : decode cX7_weighStrong 27 = .ok (.getfield 26, 3) := by decide +kernel
theorem dX7_weighStrong_30 : decode cX7_weighStrong 30 = .ok (.getfield 116, 3) := by decide +kernel
theorem dX7_weighStrong_33 : decode cX7_weighStrong 33 = .ok (.iload_n 1, 1) := by decide +kernel
theorem dX7_weighStrong_34 : decode cX7_weighStrong 34 = .ok (.invokevirtual 258, 3) := by decide +kernel
theorem dX7_weighStrong_37 : decode cX7_weighStrong 37 = .ok (.land, 1) := by decide +kernel
theorem dX7_weighStrong_38 : decode cX7_weighStrong 38 = .ok (.invokestatic 225, 3) := by decide +kernel
theorem dX7_weighStrong_41 : decode cX7_weighStrong 41 = .ok (.isub, 1) := by decide +kernel
theorem dX7_weighStrong_42 : decode cX7_weighStrong 42 = .ok (.ireturn, 1) := by decide +kernel
theorem dX7_isWorld_0 : decode cX7_isWorld 0 = .ok (.iload_n 0, 1) := by decide +kernel
theorem dX7_isWorld_1 : decode cX7_isWorld 1 = .ok (.ifCond .lt 13, 3) := by decide +kernel
theorem dX7_isWorld_4 : decode cX7_isWorld 4 = .ok (.iload_n 0, 1) := by decide +kernel
theorem dX7_isWorld_5 : decode cX7_isWorld 5 = .ok (.bipush 64, 2) := by decide +kernel
theorem dX7_isWorld_7 : decode cX7_isWorld 7 = .ok (.if_icmp .ge 7, 3) := by decide +kernel
theorem dX7_isWorld_10 : decode cX7_isWorld 10 = .ok (.iconst 1, 1) := by decide +kernel
theorem dX7_isWorld_11 : decode cX7_isWorld 11 = .ok (.goto 4, 3) := by decide +kernel
theorem dX7_isWorld_14 : decode cX7_isWorld 14 = .ok (.iconst 0, 1) := by decide +kernel
theorem dX7_isWorld_15 : decode cX7_isWorld 15 = .ok (.ireturn, 1) := by decide +kernel
theorem dX7_holds_0 : decode cX7_holds 0 = .ok (.lload_n 0, 1) := by decide +kernel
theorem dX7_holds_1 : decode cX7_holds 1 = .ok (.iload_n 2, 1) := by decide +kernel
theorem dX7_holds_2 : decode cX7_holds 2 = .ok (.lushr, 1) := by decide +kernel
theorem dX7_holds_3 : decode cX7_holds 3 = .ok (.lconst 1, 1) := by decide +kernel
theorem dX7_holds_4 : decode cX7_holds 4 = .ok (.land, 1) := by decide +kernel
theorem dX7_holds_5 : decode cX7_holds 5 = .ok (.lconst 0, 1) := by decide +kernel
theorem dX7_holds_6 : decode cX7_holds 6 = .ok (.lcmp, 1) := by decide +kernel
theorem dX7_holds_7 : decode cX7_holds 7 = .ok (.ifCond .eq 7, 3) := by decide +kernel
theorem dX7_holds_10 : decode cX7_holds 10 = .ok (.iconst 1, 1) := by decide +kernel
theorem dX7_holds_11 : decode cX7_holds 11 = .ok (.goto 4, 3) := by decide +kernel
theorem dX7_holds_14 : decode cX7_holds 14 = .ok (.iconst 0, 1) := by decide +kernel
theorem dX7_holds_15 : decode cX7_holds 15 = .ok (.ireturn, 1) := by decide +kernel
theorem dX7_inSet_0 : decode cX7_inSet 0 = .ok (.iload_n 0, 1) := by decide +kernel
theorem dX7_inSet_1 : decode cX7_inSet 1 = .ok (.iload_n 1, 1) := by decide +kernel
theorem dX7_inSet_2 : decode cX7_inSet 2 = .ok (.iushr, 1) := by decide +kernel
theorem dX7_inSet_3 : decode cX7_inSet 3 = .ok (.iconst 1, 1) := by decide +kernel
theorem dX7_inSet_4 : decode cX7_inSet 4 = .ok (.iand, 1) := by decide +kernel
theorem dX7_inSet_5 : decode cX7_inSet 5 = .ok (.ifCond .eq 7, 3) := by decide +kernel
theorem dX7_inSet_8 : decode cX7_inSet 8 = .ok (.iconst 1, 1) := by decide +kernel
theorem dX7_inSet_9 : decode cX7_inSet 9 = .ok (.goto 4, 3) := by decide +kernel
theorem dX7_inSet_12 : decode cX7_inSet 12 = .ok (.iconst 0, 1) := by decide +kernel
theorem dX7_inSet_13 : decode cX7_inSet 13 = .ok (.ireturn, 1) := by decide +kernel
theorem dX7_allIn_0 : decode cX7_allIn 0 = .ok (.lload_n 0, 1) := by decide +kernel
theorem dX7_allIn_1 : decode cX7_allIn 1 = .ok (.lload_n 2, 1) := by decide +kernel
theorem dX7_allIn_2 : decode cX7_allIn 2 = .ok (.ldc2_w 56, 3) := by decide +kernel
theorem dX7_allIn_5 : decode cX7_allIn 5 = .ok (.lxor, 1) := by decide +kernel
theorem dX7_allIn_6 : decode cX7_allIn 6 = .ok (.land, 1) := by decide +kernel
theorem dX7_allIn_7 : decode cX7_allIn 7 = .ok (.lconst 0, 1) := by decide +kernel
theorem dX7_allIn_8 : decode cX7_allIn 8 = .ok (.lcmp, 1) := by decide +kernel
theorem dX7_allIn_9 : decode cX7_allIn 9 = .ok (.ifCond .ne 7, 3) := by decide +kernel
theorem dX7_allIn_12 : decode cX7_allIn 12 = .ok (.iconst 1, 1) := by decide +kernel
theorem dX7_allIn_13 : decode cX7_allIn 13 = .ok (.goto 4, 3) := by decide +kernel
theorem dX7_allIn_16 : decode cX7_allIn 16 = .ok (.iconst 0, 1) := by decide +kernel
theorem dX7_allIn_17 : decode cX7_allIn 17 = .ok (.ireturn, 1) := by decide +kernel
theorem dX7_truth_0 : decode cX7_truth 0 = .ok (.iload_n 0, 1) := by decide +kernel
theorem dX7_truth_1 : decode cX7_truth 1 = .ok (.ifCond .eq 7, 3) := by decide +kernel
theorem dX7_truth_4 : decode cX7_truth 4 = .ok (.iconst 1, 1) := by decide +kernel
theorem dX7_truth_5 : decode cX7_truth 5 = .ok (.goto 4, 3) := by decide +kernel
theorem dX7_truth_8 : decode cX7_truth 8 = .ok (.iconst 0, 1) := by decide +kernel
theorem dX7_truth_9 : decode cX7_truth 9 = .ok (.ireturn, 1) := by decide +kernel
