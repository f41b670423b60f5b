set_option maxRecDepth 100000 in
theorem wsL_c1 : wsL_law_r1 = [68, 69, 52, 778, 779, 61, 1107, 70, 71, 72, 73, 74, 75, 76, 77, 53, 329, 90, 91, 54, 330, 120, 121, 55].filterMap (fun i => lw_tbl[i]?) := rfl
set_option maxRecDepth 100000 in
theorem wsL_i1 : ∀ w ∈ wsL_law_r1, w ∈ lw_tbl := by
  intro w hw
  rw [wsL_c1] at hw
  obtain ⟨i, -, hi⟩ := List.mem_filterMap.mp hw
  exact List.mem_of_getElem? hi
set_option maxRecDepth 100000 in
theorem wsL_c2 : wsL_law_r2 = [331, 332, 199, 147, 58, 333, 201, 202, 59, 334, 217, 218, 60, 335, 227, 336, 337, 338, 79, 80, 81, 89, 82, 83].filterMap (fun i => lw_tbl[i]?) := rfl
set_option maxRecDepth 100000 in
theorem wsL_i2 : ∀ w ∈ wsL_law_r2, w ∈ lw_tbl := by
  intro w hw
  rw [wsL_c2] at hw
  obtain ⟨i, -, hi⟩ := List.mem_filterMap.mp hw
  exact List.mem_of_getElem? hi
set_option maxRecDepth 100000 in
theorem wsL_c3 : wsL_law_r3 = [93, 94, 95, 119, 97, 98, 99, 100, 101, 96, 102, 103, 123, 124, 125, 126, 127, 56, 172, 146, 175, 178, 181, 171].filterMap (fun i => lw_tbl[i]?) := rfl
set_option maxRecDepth 100000 in
theorem wsL_i3 : ∀ w ∈ wsL_law_r3, w ∈ lw_tbl := by
  intro w hw
  rw [wsL_c3] at hw
  obtain ⟨i, -, hi⟩ := List.mem_filterMap.mp hw
  exact List.mem_of_getElem? hi
set_option maxRecDepth 100000 in
theorem wsL_c4 : wsL_law_r4 = [184, 185, 128, 129, 130, 131, 145, 135, 137, 132, 133, 57, 134, 136, 148, 149, 150, 151, 160, 161, 152, 154, 157, 153].filterMap (fun i => lw_tbl[i]?) := rfl
set_option maxRecDepth 100000 in
theorem wsL_i4 : ∀ w ∈ wsL_law_r4, w ∈ lw_tbl := by
  intro w hw
  rw [wsL_c4] at hw
  obtain ⟨i, -, hi⟩ := List.mem_filterMap.mp hw
  exact List.mem_of_getElem? hi
set_option maxRecDepth 100000 in
theorem wsL_c5 : wsL_law_r5 = [200, 204, 205, 206, 207, 208, 209, 220, 221, 222, 223, 228, 230, 0, 231, 176, 232, 233, 234, 235, 236, 237, 238, 239].filterMap (fun i => lw_tbl[i]?) := rfl
set_option maxRecDepth 100000 in
theorem wsL_i5 : ∀ w ∈ wsL_law_r5, w ∈ lw_tbl := by
  intro w hw
  rw [wsL_c5] at hw
  obtain ⟨i, -, hi⟩ := List.mem_filterMap.mp hw
  exact List.mem_of_getElem? hi
set_option maxRecDepth 100000 in
theorem wsL_c6 : wsL_law_r6 = [240, 241, 242, 243, 244, 245, 246, 247, 248, 249, 250, 251, 252, 253, 254, 255, 256, 257, 259, 1, 260, 269, 262, 263].filterMap (fun i => lw_tbl[i]?) := rfl
set_option maxRecDepth 100000 in
theorem wsL_i6 : ∀ w ∈ wsL_law_r6, w ∈ lw_tbl := by
  intro w hw
  rw [wsL_c6] at hw
  obtain ⟨i, -, hi⟩ := List.mem_filterMap.mp hw
  exact List.mem_of_getElem? hi
set_option maxRecDepth 100000 in
theorem wsL_c7 : wsL_law_r7 = [264, 265, 266, 267, 268, 270, 272, 2, 273, 274, 275, 276, 277, 278, 279, 280, 281, 282, 283, 284, 285, 156, 159, 287].filterMap (fun i => lw_tbl[i]?) := rfl
set_option maxRecDepth 100000 in
theorem wsL_i7 : ∀ w ∈ wsL_law_r7, w ∈ lw_tbl := by
  intro w hw
  rw [wsL_c7] at hw
  obtain ⟨i, -, hi⟩ := List.mem_filterMap.mp hw
  exact List.mem_of_getElem? hi
set_option maxRecDepth 100000 in
theorem wsL_c8 : wsL_law_r8 = [289, 290, 291, 292, 293, 294, 296, 3, 297, 298, 299, 300, 301, 302, 303, 304, 305, 307, 308, 309, 310, 311, 312, 314].filterMap (fun i => lw_tbl[i]?) := rfl
set_option maxRecDepth 100000 in
theorem wsL_i8 : ∀ w ∈ wsL_law_r8, w ∈ lw_tbl := by
  intro w hw
  rw [wsL_c8] at hw
  obtain ⟨i, -, hi⟩ := List.mem_filterMap.mp hw
  exact List.mem_of_getElem? hi
set_option maxRecDepth 100000 in
theorem wsL_c9 : wsL_law_r9 = [315, 316, 317, 326, 327, 328, 318, 319, 320, 321, 322, 323, 324, 325, 780, 781, 782, 783, 821, 823, 824, 827, 828, 832].filterMap (fun i => lw_tbl[i]?) := rfl
set_option maxRecDepth 100000 in
theorem wsL_i9 : ∀ w ∈ wsL_law_r9, w ∈ lw_tbl := by
  intro w hw
  rw [wsL_c9] at hw
  obtain ⟨i, -, hi⟩ := List.mem_filterMap.mp hw
  exact List.mem_of_getElem? hi
set_option maxRecDepth 100000 in
theorem wsL_c10 : wsL_law_r10 = [833, 838, 839, 784, 825, 826, 785, 787, 20, 788, 840, 789, 791, 21, 792, 793, 795, 22, 796, 797, 799, 23, 800, 801].filterMap (fun i => lw_tbl[i]?) := rfl
set_option maxRecDepth 100000 in
theorem wsL_i10 : ∀ w ∈ wsL_law_r10, w ∈ lw_tbl := by
  intro w hw
  rw [wsL_c10] at hw
  obtain ⟨i, -, hi⟩ := List.mem_filterMap.mp hw
  exact List.mem_of_getElem? hi
set_option maxRecDepth 100000 in
theorem wsL_c11 : wsL_law_r11 = [803, 24, 804, 805, 807, 25, 808, 809, 811, 26, 812, 813, 814, 815, 816, 818, 27, 819, 360, 361, 362, 363, 364, 365].filterMap (fun i => lw_tbl[i]?) := rfl
set_option maxRecDepth 100000 in
theorem wsL_i11 : ∀ w ∈ wsL_law_r11, w ∈ lw_tbl := by
  intro w hw
  rw [wsL_c11] at hw
  obtain ⟨i, -, hi⟩ := List.mem_filterMap.mp hw
  exact List.mem_of_getElem? hi
set_option maxRecDepth 100000 in
theorem wsL_c12 : wsL_law_r12 = [366, 367, 368, 369, 370, 371, 884, 885, 886, 887, 888, 822, 892, 889, 890, 891, 372, 373, 374, 375, 376, 377, 378, 379].filterMap (fun i => lw_tbl[i]?) := rfl
set_option maxRecDepth 100000 in
theorem wsL_i12 : ∀ w ∈ wsL_law_r12, w ∈ lw_tbl := by
  intro w hw
  rw [wsL_c12] at hw
  obtain ⟨i, -, hi⟩ := List.mem_filterMap.mp hw
  exact List.mem_of_getElem? hi
set_option maxRecDepth 100000 in
theorem wsL_c13 : wsL_law_r13 = [893, 894, 895, 896, 380, 381, 382, 383, 384, 385, 386, 387, 388, 389, 390, 391, 392, 393, 394, 395, 396, 397, 398, 399].filterMap (fun i => lw_tbl[i]?) := rfl
set_option maxRecDepth 100000 in
theorem wsL_i13 : ∀ w ∈ wsL_law_r13, w ∈ lw_tbl := by
  intro w hw
  rw [wsL_c13] at hw
  obtain ⟨i, -, hi⟩ := List.mem_filterMap.mp hw
  exact List.mem_of_getElem? hi
set_option maxRecDepth 100000 in
theorem wsL_c14 : wsL_law_r14 = [400, 401, 403, 404, 405, 406, 407, 408, 62, 409, 1108, 410, 411, 412, 413, 414, 1109, 416, 417, 418, 419, 420, 421, 422].filterMap (fun i => lw_tbl[i]?) := rfl
set_option maxRecDepth 100000 in
theorem wsL_i14 : ∀ w ∈ wsL_law_r14, w ∈ lw_tbl := by
  intro w hw
  rw [wsL_c14] at hw
  obtain ⟨i, -, hi⟩ := List.mem_filterMap.mp hw
  exact List.mem_of_getElem? hi
set_option maxRecDepth 100000 in
theorem wsL_c15 : wsL_law_r15 = [423, 424, 425, 63, 426, 427, 428, 429, 430, 432, 433, 64, 434, 435, 436, 65, 437, 438, 439, 440, 441, 442, 443, 444].filterMap (fun i => lw_tbl[i]?) := rfl
set_option maxRecDepth 100000 in
theorem wsL_i15 : ∀ w ∈ wsL_law_r15, w ∈ lw_tbl := by
  intro w hw
  rw [wsL_c15] at hw
  obtain ⟨i, -, hi⟩ := List.mem_filterMap.mp hw
  exact List.mem_of_getElem? hi
set_option maxRecDepth 100000 in
theorem wsL_c16 : wsL_law_r16 = [445, 446, 447, 448, 450, 452, 458, 460, 4, 461, 462, 463, 464, 465, 467, 5, 468, 469, 470, 471, 472, 174, 177, 180].filterMap (fun i => lw_tbl[i]?) := rfl
set_option maxRecDepth 100000 in
theorem wsL_i16 : ∀ w ∈ wsL_law_r16, w ∈ lw_tbl := by
  intro w hw
  rw [wsL_c16] at hw
  obtain ⟨i, -, hi⟩ := List.mem_filterMap.mp hw
  exact List.mem_of_getElem? hi
set_option maxRecDepth 100000 in
theorem wsL_c17 : wsL_law_r17 = [183, 473, 474, 475, 476, 477, 478, 479, 480, 481, 482, 483, 484, 485, 486, 488, 6, 489, 490, 491, 492, 493, 494, 496].filterMap (fun i => lw_tbl[i]?) := rfl
set_option maxRecDepth 100000 in
theorem wsL_i17 : ∀ w ∈ wsL_law_r17, w ∈ lw_tbl := by
  intro w hw
  rw [wsL_c17] at hw
  obtain ⟨i, -, hi⟩ := List.mem_filterMap.mp hw
  exact List.mem_of_getElem? hi
set_option maxRecDepth 100000 in
theorem wsL_c18 : wsL_law_r18 = [7, 497, 498, 500, 8, 501, 502, 504, 9, 505, 506, 508, 10, 509, 510, 512, 514, 11, 515, 516, 517, 518, 519, 520].filterMap (fun i => lw_tbl[i]?) := rfl
set_option maxRecDepth 100000 in
theorem wsL_i18 : ∀ w ∈ wsL_law_r18, w ∈ lw_tbl := by
  intro w hw
  rw [wsL_c18] at hw
  obtain ⟨i, -, hi⟩ := List.mem_filterMap.mp hw
  exact List.mem_of_getElem? hi
set_option maxRecDepth 100000 in
theorem wsL_c19 : wsL_law_r19 = [522, 12, 523, 524, 525, 526, 527, 528, 529, 530, 531, 532, 533, 534, 535, 536, 537, 538, 540, 13, 541, 542, 543, 544].filterMap (fun i => lw_tbl[i]?) := rfl
set_option maxRecDepth 100000 in
theorem wsL_i19 : ∀ w ∈ wsL_law_r19, w ∈ lw_tbl := by
  intro w hw
  rw [wsL_c19] at hw
  obtain ⟨i, -, hi⟩ := List.mem_filterMap.mp hw
  exact List.mem_of_getElem? hi
set_option maxRecDepth 100000 in
theorem wsL_c20 : wsL_law_r20 = [545, 546, 547, 548, 549, 550, 551, 897, 898, 899, 900, 829, 830, 831, 901, 903, 28, 904, 905, 906, 907, 908, 909, 910].filterMap (fun i => lw_tbl[i]?) := rfl
set_option maxRecDepth 100000 in
theorem wsL_i20 : ∀ w ∈ wsL_law_r20, w ∈ lw_tbl := by
  intro w hw
  rw [wsL_c20] at hw
  obtain ⟨i, -, hi⟩ := List.mem_filterMap.mp hw
  exact List.mem_of_getElem? hi
set_option maxRecDepth 100000 in
theorem wsL_c21 : wsL_law_r21 = [911, 912, 913, 915, 29, 916, 917, 918, 919, 920, 921, 922, 923, 924, 926, 30, 927, 837, 928, 929, 930, 931, 932, 933].filterMap (fun i => lw_tbl[i]?) := rfl
set_option maxRecDepth 100000 in
theorem wsL_i21 : ∀ w ∈ wsL_law_r21, w ∈ lw_tbl := by
  intro w hw
  rw [wsL_c21] at hw
  obtain ⟨i, -, hi⟩ := List.mem_filterMap.mp hw
  exact List.mem_of_getElem? hi
set_option maxRecDepth 100000 in
theorem wsL_c22 : wsL_law_r22 = [934, 936, 31, 937, 938, 940, 32, 941, 834, 835, 836, 942, 944, 33, 945, 946, 947, 948, 949, 950, 951, 953, 34, 954].filterMap (fun i => lw_tbl[i]?) := rfl
set_option maxRecDepth 100000 in
theorem wsL_i22 : ∀ w ∈ wsL_law_r22, w ∈ lw_tbl := by
  intro w hw
  rw [wsL_c22] at hw
  obtain ⟨i, -, hi⟩ := List.mem_filterMap.mp hw
  exact List.mem_of_getElem? hi
set_option maxRecDepth 100000 in
theorem wsL_c23 : wsL_law_r23 = [955, 957, 35, 958, 959, 961, 36, 962, 552, 553, 554, 555, 556, 557, 558, 559, 560, 561, 562, 563, 564, 565, 566, 567].filterMap (fun i => lw_tbl[i]?) := rfl
set_option maxRecDepth 100000 in
theorem wsL_i23 : ∀ w ∈ wsL_law_r23, w ∈ lw_tbl := by
  intro w hw
  rw [wsL_c23] at hw
  obtain ⟨i, -, hi⟩ := List.mem_filterMap.mp hw
  exact List.mem_of_getElem? hi
set_option maxRecDepth 100000 in
theorem wsL_c24 : wsL_law_r24 = [963, 964, 965, 966, 568, 569, 570, 571, 173, 155, 158, 179, 182, 572, 967, 968, 969, 970, 971, 573, 574, 575, 576, 577].filterMap (fun i => lw_tbl[i]?) := rfl
set_option maxRecDepth 100000 in
theorem wsL_i24 : ∀ w ∈ wsL_law_r24, w ∈ lw_tbl := by
  intro w hw
  rw [wsL_c24] at hw
  obtain ⟨i, -, hi⟩ := List.mem_filterMap.mp hw
  exact List.mem_of_getElem? hi
set_option maxRecDepth 100000 in
theorem wsL_c25 : wsL_law_r25 = [578, 579, 580, 581, 582, 583, 584, 585, 972, 973, 974, 975, 976, 978, 37, 979, 586, 587, 588, 589, 590, 591, 592, 593].filterMap (fun i => lw_tbl[i]?) := rfl
set_option maxRecDepth 100000 in
theorem wsL_i25 : ∀ w ∈ wsL_law_r25, w ∈ lw_tbl := by
  intro w hw
  rw [wsL_c25] at hw
  obtain ⟨i, -, hi⟩ := List.mem_filterMap.mp hw
  exact List.mem_of_getElem? hi
set_option maxRecDepth 100000 in
theorem wsL_c26 : wsL_law_r26 = [594, 595, 596, 597, 598, 980, 981, 982, 983, 984, 986, 38, 987, 599, 600, 601, 602, 603, 604, 605, 606, 988, 989, 990].filterMap (fun i => lw_tbl[i]?) := rfl
set_option maxRecDepth 100000 in
theorem wsL_i26 : ∀ w ∈ wsL_law_r26, w ∈ lw_tbl := by
  intro w hw
  rw [wsL_c26] at hw
  obtain ⟨i, -, hi⟩ := List.mem_filterMap.mp hw
  exact List.mem_of_getElem? hi
set_option maxRecDepth 100000 in
theorem wsL_c27 : wsL_law_r27 = [991, 992, 993, 994, 995, 607, 608, 609, 610, 611, 996, 997, 998, 999, 612, 613, 614, 615, 616, 617, 618, 619, 620, 621].filterMap (fun i => lw_tbl[i]?) := rfl
set_option maxRecDepth 100000 in
theorem wsL_i27 : ∀ w ∈ wsL_law_r27, w ∈ lw_tbl := by
  intro w hw
  rw [wsL_c27] at hw
  obtain ⟨i, -, hi⟩ := List.mem_filterMap.mp hw
  exact List.mem_of_getElem? hi
set_option maxRecDepth 100000 in
theorem wsL_c28 : wsL_law_r28 = [622, 623, 624, 625, 626, 627, 628, 629, 631, 14, 632, 633, 634, 635, 636, 637, 638, 639, 640, 641, 642, 643, 644, 1009].filterMap (fun i => lw_tbl[i]?) := rfl
set_option maxRecDepth 100000 in
theorem wsL_i28 : ∀ w ∈ wsL_law_r28, w ∈ lw_tbl := by
  intro w hw
  rw [wsL_c28] at hw
  obtain ⟨i, -, hi⟩ := List.mem_filterMap.mp hw
  exact List.mem_of_getElem? hi
set_option maxRecDepth 100000 in
theorem wsL_c29 : wsL_law_r29 = [1010, 1011, 1012, 1013, 1014, 1016, 40, 1017, 1018, 1001, 1002, 1003, 1004, 1006, 39, 1007, 1008, 645, 646, 647, 648, 1000, 649, 650].filterMap (fun i => lw_tbl[i]?) := rfl
set_option maxRecDepth 100000 in
theorem wsL_i29 : ∀ w ∈ wsL_law_r29, w ∈ lw_tbl := by
  intro w hw
  rw [wsL_c29] at hw
  obtain ⟨i, -, hi⟩ := List.mem_filterMap.mp hw
  exact List.mem_of_getElem? hi
set_option maxRecDepth 100000 in
theorem wsL_c30 : wsL_law_r30 = [651, 652, 653, 654, 655, 656, 657, 658, 659, 660, 661, 662, 663, 664, 1019, 1020, 1021, 1022, 1023, 1025, 41, 1026, 1027, 1029].filterMap (fun i => lw_tbl[i]?) := rfl
set_option maxRecDepth 100000 in
theorem wsL_i30 : ∀ w ∈ wsL_law_r30, w ∈ lw_tbl := by
  intro w hw
  rw [wsL_c30] at hw
  obtain ⟨i, -, hi⟩ := List.mem_filterMap.mp hw
  exact List.mem_of_getElem? hi
set_option maxRecDepth 100000 in
theorem wsL_c31 : wsL_law_r31 = [42, 1030, 1031, 1033, 43, 1034, 665, 666, 667, 668, 669, 670, 671, 672, 1035, 1036, 1037, 1038, 673, 674, 675, 676, 677, 678].filterMap (fun i => lw_tbl[i]?) := rfl
set_option maxRecDepth 100000 in
theorem wsL_i31 : ∀ w ∈ wsL_law_r31, w ∈ lw_tbl := by
  intro w hw
  rw [wsL_c31] at hw
  obtain ⟨i, -, hi⟩ := List.mem_filterMap.mp hw
  exact List.mem_of_getElem? hi
set_option maxRecDepth 100000 in
theorem wsL_c32 : wsL_law_r32 = [679, 680, 681, 1039, 1040, 1041, 1042, 682, 683, 684, 685, 686, 687, 66, 688, 689, 690, 691, 692, 693, 694, 695, 696, 698].filterMap (fun i => lw_tbl[i]?) := rfl
set_option maxRecDepth 100000 in
theorem wsL_i32 : ∀ w ∈ wsL_law_r32, w ∈ lw_tbl := by
  intro w hw
  rw [wsL_c32] at hw
  obtain ⟨i, -, hi⟩ := List.mem_filterMap.mp hw
  exact List.mem_of_getElem? hi
set_option maxRecDepth 100000 in
theorem wsL_c33 : wsL_law_r33 = [15, 699, 701, 1043, 1044, 1045, 1046, 1047, 1048, 1049, 1050, 1052, 44, 1053, 1054, 1056, 45, 1057, 703, 704, 705, 706, 707, 708].filterMap (fun i => lw_tbl[i]?) := rfl
set_option maxRecDepth 100000 in
theorem wsL_i33 : ∀ w ∈ wsL_law_r33, w ∈ lw_tbl := by
  intro w hw
  rw [wsL_c33] at hw
  obtain ⟨i, -, hi⟩ := List.mem_filterMap.mp hw
  exact List.mem_of_getElem? hi
set_option maxRecDepth 100000 in
theorem wsL_c34 : wsL_law_r34 = [709, 710, 1058, 1059, 1060, 1061, 711, 712, 713, 714, 715, 716, 717, 718, 720, 721, 722, 723, 724, 725, 726, 727, 728, 1062].filterMap (fun i => lw_tbl[i]?) := rfl
set_option maxRecDepth 100000 in
theorem wsL_i34 : ∀ w ∈ wsL_law_r34, w ∈ lw_tbl := by
  intro w hw
  rw [wsL_c34] at hw
  obtain ⟨i, -, hi⟩ := List.mem_filterMap.mp hw
  exact List.mem_of_getElem? hi
set_option maxRecDepth 100000 in
theorem wsL_c35 : wsL_law_r35 = [1063, 1064, 1065, 1066, 1067, 1069, 46, 1070, 1071, 1073, 47, 1074, 729, 730, 731, 732, 1075, 1076, 1077, 1078, 733, 734, 735, 736].filterMap (fun i => lw_tbl[i]?) := rfl
set_option maxRecDepth 100000 in
theorem wsL_i35 : ∀ w ∈ wsL_law_r35, w ∈ lw_tbl := by
  intro w hw
  rw [wsL_c35] at hw
  obtain ⟨i, -, hi⟩ := List.mem_filterMap.mp hw
  exact List.mem_of_getElem? hi
set_option maxRecDepth 100000 in
theorem wsL_c36 : wsL_law_r36 = [1079, 1080, 1081, 1082, 737, 738, 739, 740, 741, 743, 16, 744, 745, 746, 67, 747, 748, 749, 750, 751, 753, 17, 754, 755].filterMap (fun i => lw_tbl[i]?) := rfl
set_option maxRecDepth 100000 in
theorem wsL_i36 : ∀ w ∈ wsL_law_r36, w ∈ lw_tbl := by
  intro w hw
  rw [wsL_c36] at hw
  obtain ⟨i, -, hi⟩ := List.mem_filterMap.mp hw
  exact List.mem_of_getElem? hi
set_option maxRecDepth 100000 in
theorem wsL_c37 : wsL_law_r37 = [756, 757, 759, 18, 760, 761, 762, 764, 19, 765, 766, 767, 1083, 1084, 1085, 1086, 1087, 1089, 48, 1090, 1091, 1093, 49, 1094].filterMap (fun i => lw_tbl[i]?) := rfl
set_option maxRecDepth 100000 in
theorem wsL_i37 : ∀ w ∈ wsL_law_r37, w ∈ lw_tbl := by
  intro w hw
  rw [wsL_c37] at hw
  obtain ⟨i, -, hi⟩ := List.mem_filterMap.mp hw
  exact List.mem_of_getElem? hi
set_option maxRecDepth 100000 in
theorem wsL_c38 : wsL_law_r38 = [820, 1095, 1097, 50, 1098, 768, 769, 770, 771, 772, 773, 1099, 1100, 1101, 1102, 774, 775, 776, 777, 1103, 1104, 1105, 1106].filterMap (fun i => lw_tbl[i]?) := rfl
set_option maxRecDepth 100000 in
theorem wsL_i38 : ∀ w ∈ wsL_law_r38, w ∈ lw_tbl := by
  intro w hw
  rw [wsL_c38] at hw
  obtain ⟨i, -, hi⟩ := List.mem_filterMap.mp hw
  exact List.mem_of_getElem? hi
set_option maxRecDepth 100000 in
theorem inTX7 : ∀ w ∈ wsX70, w ∈ lw_tbl := by decide +kernel
set_option maxRecDepth 100000 in
theorem inTX8 : ∀ w ∈ wsX80, w ∈ lw_tbl := by decide +kernel
set_option maxRecDepth 100000 in
theorem inTX6 : ∀ w ∈ wsX60, w ∈ lw_tbl := by decide +kernel
set_option maxRecDepth 100000 in
theorem inTX3 : ∀ w ∈ wsX30, w ∈ lw_tbl := by decide +kernel
set_option maxRecDepth 100000 in
theorem inTX2 : ∀ w ∈ wsX20, w ∈ lw_tbl := by decide +kernel
set_option maxRecDepth 100000 in
theorem inTX4 : ∀ w ∈ wsX40, w ∈ lw_tbl := by decide +kernel
set_option maxRecDepth 100000 in
theorem inTX1 : ∀ w ∈ wsX10, w ∈ lw_tbl := by decide +kernel
set_option maxRecDepth 100000 in
theorem inTX0 : ∀ w ∈ wsX00, w ∈ lw_tbl := by decide +kernel
set_option maxRecDepth 100000 in
theorem inTX5 : ∀ w ∈ wsX50, w ∈ lw_tbl := by decide +kernel
set_option maxRecDepth 100000 in
theorem wsL_law_in : ∀ w ∈ wsL_law, w ∈ lw_tbl := List.forall_mem_append.mpr ⟨List.forall_mem_append.mpr ⟨List.forall_mem_append.mpr ⟨List.forall_mem_append.mpr ⟨List.forall_mem_append.mpr ⟨List.forall_mem_append.mpr ⟨List.forall_mem_append.mpr ⟨List.forall_mem_append.mpr ⟨List.forall_mem_append.mpr ⟨List.forall_mem_append.mpr ⟨(List.forall_mem_append.mpr ⟨wsL_i1, List.forall_mem_append.mpr ⟨wsL_i2, List.forall_mem_append.mpr ⟨wsL_i3, List.forall_mem_append.mpr ⟨wsL_i4, List.forall_mem_append.mpr ⟨wsL_i5, List.forall_mem_append.mpr ⟨wsL_i6, List.forall_mem_append.mpr ⟨wsL_i7, List.forall_mem_append.mpr ⟨wsL_i8, List.forall_mem_append.mpr ⟨wsL_i9, List.forall_mem_append.mpr ⟨wsL_i10, List.forall_mem_append.mpr ⟨wsL_i11, List.forall_mem_append.mpr ⟨wsL_i12, List.forall_mem_append.mpr ⟨wsL_i13, List.forall_mem_append.mpr ⟨wsL_i14, List.forall_mem_append.mpr ⟨wsL_i15, List.forall_mem_append.mpr ⟨wsL_i16, List.forall_mem_append.mpr ⟨wsL_i17, List.forall_mem_append.mpr ⟨wsL_i18, List.forall_mem_append.mpr ⟨wsL_i19, List.forall_mem_append.mpr ⟨wsL_i20, List.forall_mem_append.mpr ⟨wsL_i21, List.forall_mem_append.mpr ⟨wsL_i22, List.forall_mem_append.mpr ⟨wsL_i23, List.forall_mem_append.mpr ⟨wsL_i24, List.forall_mem_append.mpr ⟨wsL_i25, List.forall_mem_append.mpr ⟨wsL_i26, List.forall_mem_append.mpr ⟨wsL_i27, List.forall_mem_append.mpr ⟨wsL_i28, List.forall_mem_append.mpr ⟨wsL_i29, List.forall_mem_append.mpr ⟨wsL_i30, List.forall_mem_append.mpr ⟨wsL_i31, List.forall_mem_append.mpr ⟨wsL_i32, List.forall_mem_append.mpr ⟨wsL_i33, List.forall_mem_append.mpr ⟨wsL_i34, List.forall_mem_append.mpr ⟨wsL_i35, List.forall_mem_append.mpr ⟨wsL_i36, List.forall_mem_append.mpr ⟨wsL_i37, wsL_i38⟩⟩⟩⟩⟩⟩⟩⟩⟩⟩⟩⟩⟩⟩⟩⟩⟩⟩⟩⟩⟩⟩⟩⟩⟩⟩⟩⟩⟩⟩⟩⟩⟩⟩⟩⟩⟩), inTX7⟩, inTX8⟩, inTX6⟩, inTX3⟩, inTX2⟩, inTX4⟩, inTX1⟩, inTX0⟩, inTX5⟩, fun _ h => absurd h List.not_mem_nil⟩
theorem inlX0 : ∀ w ∈ wsX00, w ∈ wsL_law := fun _ h => List.mem_append_left _ (List.mem_append_left _ (List.mem_append_right _ h))
theorem inX0 : ∀ w ∈ wsX00, w ∈ lw_tbl := fun w h => wsL_law_in w (inlX0 w h)
theorem inlX1 : ∀ w ∈ wsX10, w ∈ wsL_law := fun _ h => List.mem_append_left _ (List.mem_append_left _ (List.mem_append_left _ (List.mem_append_right _ h)))
theorem inX1 : ∀ w ∈ wsX10, w ∈ lw_tbl := fun w h => wsL_law_in w (inlX1 w h)
theorem inlX2 : ∀ w ∈ wsX20, w ∈ wsL_law := fun _ h => List.mem_append_left _ (List.mem_append_left _ (List.mem_append_left _ (List.mem_append_left _ (List.mem_append_left _ (List.mem_append_right _ h)))))
theorem inX2 : ∀ w ∈ wsX20, w ∈ lw_tbl := fun w h => wsL_law_in w (inlX2 w h)
theorem inlX3 : ∀ w ∈ wsX30, w ∈ wsL_law := fun _ h => List.mem_append_left _ (List.mem_append_left _ (List.mem_append_left _ (List.mem_append_left _ (List.mem_append_left _ (List.mem_append_left _ (List.mem_append_right _ h))))))
theorem inX3 : ∀ w ∈ wsX30, w ∈ lw_tbl := fun w h => wsL_law_in w (inlX3 w h)
theorem inlX4 : ∀ w ∈ wsX40, w ∈ wsL_law := fun _ h => List.mem_append_left _ (List.mem_append_left _ (List.mem_append_left _ (List.mem_append_left _ (List.mem_append_right _ h))))
theorem inX4 : ∀ w ∈ wsX40, w ∈ lw_tbl := fun w h => wsL_law_in w (inlX4 w h)
theorem inlX5 : ∀ w ∈ wsX50, w ∈ wsL_law := fun _ h => List.mem_append_left _ (List.mem_append_right _ h)
theorem inX5 : ∀ w ∈ wsX50, w ∈ lw_tbl := fun w h => wsL_law_in w (inlX5 w h)
theorem inlX6 : ∀ w ∈ wsX60, w ∈ wsL_law := fun _ h => List.mem_append_left _ (List.mem_append_left _ (List.mem_append_left _ (List.mem_append_left _ (List.mem_append_left _ (List.mem_append_left _ (List.mem_append_left _ (List.mem_append_right _ h)))))))
theorem inX6 : ∀ w ∈ wsX60, w ∈ lw_tbl := fun w h => wsL_law_in w (inlX6 w h)
theorem inlX7 : ∀ w ∈ wsX70, w ∈ wsL_law := fun _ h => List.mem_append_left _ (List.mem_append_left _ (List.mem_append_left _ (List.mem_append_left _ (List.mem_append_left _ (List.mem_append_left _ (List.mem_append_left _ (List.mem_append_left _ (List.mem_append_left _ (List.mem_append_right _ h)))))))))
theorem inX7 : ∀ w ∈ wsX70, w ∈ lw_tbl := fun w h => wsL_law_in w (inlX7 w h)
theorem inlX8 : ∀ w ∈ wsX80, w ∈ wsL_law := fun _ h => List.mem_append_left _ (List.mem_append_left _ (List.mem_append_left _ (List.mem_append_left _ (List.mem_append_left _ (List.mem_append_left _ (List.mem_append_left _ (List.mem_append_left _ (List.mem_append_right _ h))))))))
theorem inX8 : ∀ w ∈ wsX80, w ∈ lw_tbl := fun w h => wsL_law_in w (inlX8 w h)
theorem inJ6 : ∀ w ∈ wsJ60, w ∈ lw_tbl := by decide +kernel
theorem inJ13 : ∀ w ∈ wsJ130, w ∈ lw_tbl := by decide +kernel
theorem inJ9 : ∀ w ∈ wsJ90, w ∈ lw_tbl := by decide +kernel
theorem inJ0 : ∀ w ∈ wsJ00, w ∈ lw_tbl := by decide +kernel
theorem inJ1 : ∀ w ∈ wsJ10, w ∈ lw_tbl := by decide +kernel
theorem inJ2 : ∀ w ∈ wsJ20, w ∈ lw_tbl := by decide +kernel
theorem inJ3 : ∀ w ∈ wsJ30, w ∈ lw_tbl := by decide +kernel
