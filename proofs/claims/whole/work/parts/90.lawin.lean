/-! The law's words stand in the tables -/
theorem pl_in {big : List Cond} (ws : List Cond) (ps : List Nat) (hp : ws = ps.filterMap (fun i => big[i]?)) : ∀ w ∈ ws, w ∈ big := fun w hw => by
  rw [hp] at hw
  obtain ⟨i, -, hi⟩ := List.mem_filterMap.mp hw
  exact List.mem_of_getElem? hi
set_option maxRecDepth 20000 in
theorem wsL_in_1 : ∀ w ∈ wsL_law_r1, w ∈ lw_tbl := pl_in _ [65, 66, 52, 661, 662, 56, 1041, 67, 68, 69, 70, 71, 72, 73, 74, 53, 203, 204, 145, 146, 54, 205, 206, 164] rfl
set_option maxRecDepth 20000 in
theorem wsL_in_2 : ∀ w ∈ wsL_law_r2, w ∈ lw_tbl := pl_in _ [165, 55, 207, 82, 76, 77, 78, 144, 81, 79, 85, 86, 90, 92, 94, 96, 98, 100, 102, 104, 110, 148, 149, 150] rfl
set_option maxRecDepth 20000 in
theorem wsL_in_3 : ∀ w ∈ wsL_law_r3, w ∈ lw_tbl := pl_in _ [151, 153, 167, 168, 169, 202, 170, 663, 664, 665, 666, 667, 668, 671, 716, 672, 673, 674, 676, 677, 681, 682, 219, 220] rfl
set_option maxRecDepth 20000 in
theorem wsL_in_4 : ∀ w ∈ wsL_law_r4, w ∈ lw_tbl := pl_in _ [221, 222, 223, 224, 225, 226, 154, 228, 229, 230, 231, 83, 88, 106, 108, 232, 234, 233, 57, 235, 236, 237, 238, 239] rfl
set_option maxRecDepth 20000 in
theorem wsL_in_5 : ∀ w ∈ wsL_law_r5, w ∈ lw_tbl := pl_in _ [240, 241, 242, 155, 243, 244, 58, 245, 836, 837, 838, 839, 728, 729, 730, 761, 763, 10, 764, 670, 669, 246, 247, 248] rfl
set_option maxRecDepth 20000 in
theorem wsL_in_6 : ∀ w ∈ wsL_law_r6, w ∈ lw_tbl := pl_in _ [249, 250, 251, 252, 253, 255, 256, 258, 259, 261, 262, 263, 264, 265, 266, 267, 268, 269, 273, 274, 275, 276, 271, 272] rfl
set_option maxRecDepth 20000 in
theorem wsL_in_7 : ∀ w ∈ wsL_law_r7, w ∈ lw_tbl := pl_in _ [277, 278, 279, 280, 281, 282, 283, 284, 285, 286, 287, 288, 289, 290, 291, 292, 293, 294, 295, 296, 297, 298, 299, 300] rfl
set_option maxRecDepth 20000 in
theorem wsL_in_8 : ∀ w ∈ wsL_law_r8, w ∈ lw_tbl := pl_in _ [301, 302, 303, 304, 305, 306, 307, 308, 309, 310, 311, 312, 313, 314, 315, 316, 317, 318, 319, 320, 321, 322, 323, 324] rfl
set_option maxRecDepth 20000 in
theorem wsL_in_9 : ∀ w ∈ wsL_law_r9, w ∈ lw_tbl := pl_in _ [325, 326, 327, 328, 329, 330, 331, 332, 717, 718, 719, 720, 721, 723, 3, 724, 725, 726, 727, 731, 732, 733, 734, 736] rfl
set_option maxRecDepth 20000 in
theorem wsL_in_10 : ∀ w ∈ wsL_law_r10, w ∈ lw_tbl := pl_in _ [4, 737, 738, 740, 5, 741, 742, 744, 6, 745, 746, 748, 7, 749, 750, 752, 8, 753, 754, 755, 756, 757, 759, 9] rfl
set_option maxRecDepth 20000 in
theorem wsL_in_11 : ∀ w ∈ wsL_law_r11, w ∈ lw_tbl := pl_in _ [760, 765, 767, 11, 768, 769, 771, 12, 772, 773, 775, 13, 776, 777, 779, 14, 780, 781, 783, 15, 784, 785, 787, 16] rfl
set_option maxRecDepth 20000 in
theorem wsL_in_12 : ∀ w ∈ wsL_law_r12, w ∈ lw_tbl := pl_in _ [788, 789, 791, 17, 792, 793, 795, 18, 796, 797, 799, 19, 800, 801, 803, 20, 804, 805, 807, 21, 808, 809, 811, 22] rfl
set_option maxRecDepth 20000 in
theorem wsL_in_13 : ∀ w ∈ wsL_law_r13, w ∈ lw_tbl := pl_in _ [812, 813, 815, 23, 816, 817, 818, 819, 820, 822, 24, 823, 824, 826, 25, 827, 828, 830, 26, 831, 832, 834, 27, 835] rfl
set_option maxRecDepth 20000 in
theorem wsL_in_14 : ∀ w ∈ wsL_law_r14, w ∈ lw_tbl := pl_in _ [333, 334, 335, 336, 337, 338, 339, 340, 341, 342, 343, 344, 840, 841, 842, 843, 844, 846, 28, 847, 848, 850, 29, 851] rfl
set_option maxRecDepth 20000 in
theorem wsL_in_15 : ∀ w ∈ wsL_law_r15, w ∈ lw_tbl := pl_in _ [345, 346, 347, 348, 349, 350, 351, 352, 852, 853, 854, 855, 856, 858, 30, 859, 353, 354, 355, 356, 357, 358, 359, 360] rfl
set_option maxRecDepth 20000 in
theorem wsL_in_16 : ∀ w ∈ wsL_law_r16, w ∈ lw_tbl := pl_in _ [361, 362, 363, 364, 860, 861, 862, 863, 864, 866, 31, 867, 868, 870, 32, 871, 365, 366, 367, 368, 369, 370, 371, 372] rfl
set_option maxRecDepth 20000 in
theorem wsL_in_17 : ∀ w ∈ wsL_law_r17, w ∈ lw_tbl := pl_in _ [373, 374, 375, 376, 872, 873, 874, 875, 876, 878, 33, 879, 880, 882, 34, 883, 377, 378, 379, 380, 381, 382, 884, 885] rfl
set_option maxRecDepth 20000 in
theorem wsL_in_18 : ∀ w ∈ wsL_law_r18, w ∈ lw_tbl := pl_in _ [886, 887, 383, 384, 385, 386, 888, 889, 890, 891, 387, 388, 389, 390, 99, 101, 103, 105, 391, 392, 393, 394, 395, 396] rfl
set_option maxRecDepth 20000 in
theorem wsL_in_19 : ∀ w ∈ wsL_law_r19, w ∈ lw_tbl := pl_in _ [397, 398, 399, 400, 401, 402, 403, 405, 0, 406, 91, 93, 95, 97, 407, 892, 893, 894, 895, 896, 898, 35, 899, 900] rfl
set_option maxRecDepth 20000 in
theorem wsL_in_20 : ∀ w ∈ wsL_law_r20, w ∈ lw_tbl := pl_in _ [902, 36, 903, 904, 906, 37, 907, 408, 409, 410, 411, 412, 413, 414, 415, 416, 417, 418, 419, 908, 909, 910, 911, 420] rfl
set_option maxRecDepth 20000 in
theorem wsL_in_21 : ∀ w ∈ wsL_law_r21, w ∈ lw_tbl := pl_in _ [421, 422, 423, 89, 87, 912, 913, 914, 915, 424, 425, 426, 427, 428, 429, 430, 431, 916, 917, 918, 919, 432, 433, 434] rfl
set_option maxRecDepth 20000 in
theorem wsL_in_22 : ∀ w ∈ wsL_law_r22, w ∈ lw_tbl := pl_in _ [435, 84, 107, 109, 172, 156, 436, 437, 438, 439, 440, 441, 442, 443, 920, 921, 922, 923, 675, 924, 926, 38, 927, 928] rfl
set_option maxRecDepth 20000 in
theorem wsL_in_23 : ∀ w ∈ wsL_law_r23, w ∈ lw_tbl := pl_in _ [929, 931, 39, 932, 444, 445, 446, 447, 448, 449, 450, 451, 452, 453, 454, 933, 934, 935, 936, 937, 938, 939, 455, 940] rfl
set_option maxRecDepth 20000 in
theorem wsL_in_24 : ∀ w ∈ wsL_law_r24, w ∈ lw_tbl := pl_in _ [941, 942, 943, 456, 457, 458, 459, 460, 461, 462, 463, 944, 945, 946, 947, 948, 950, 40, 951, 952, 954, 41, 955, 464] rfl
set_option maxRecDepth 20000 in
theorem wsL_in_25 : ∀ w ∈ wsL_law_r25, w ∈ lw_tbl := pl_in _ [465, 466, 467, 468, 470, 1, 471, 956, 957, 958, 959, 472, 473, 474, 475, 960, 961, 962, 963, 476, 477, 478, 479, 480] rfl
set_option maxRecDepth 20000 in
theorem wsL_in_26 : ∀ w ∈ wsL_law_r26, w ∈ lw_tbl := pl_in _ [481, 964, 965, 966, 967, 968, 970, 42, 971, 972, 974, 43, 975, 482, 483, 484, 485, 486, 487, 488, 59, 489, 490, 491] rfl
set_option maxRecDepth 20000 in
theorem wsL_in_27 : ∀ w ∈ wsL_law_r27, w ∈ lw_tbl := pl_in _ [492, 976, 977, 978, 979, 980, 981, 982, 493, 494, 495, 496, 497, 498, 499, 500, 501, 502, 503, 171, 983, 984, 985, 986] rfl
set_option maxRecDepth 20000 in
theorem wsL_in_28 : ∀ w ∈ wsL_law_r28, w ∈ lw_tbl := pl_in _ [987, 504, 505, 506, 507, 508, 509, 510, 511, 988, 989, 990, 991, 512, 513, 514, 515, 516, 517, 518, 519, 173, 520, 521] rfl
set_option maxRecDepth 20000 in
theorem wsL_in_29 : ∀ w ∈ wsL_law_r29, w ∈ lw_tbl := pl_in _ [522, 523, 175, 183, 179, 524, 525, 526, 527, 529, 530, 531, 60, 532, 533, 534, 535, 536, 1043, 537, 538, 539, 540, 541] rfl
set_option maxRecDepth 20000 in
theorem wsL_in_30 : ∀ w ∈ wsL_law_r30, w ∈ lw_tbl := pl_in _ [1042, 543, 544, 545, 546, 547, 548, 549, 550, 551, 552, 61, 553, 557, 558, 554, 555, 556, 559, 560, 561, 562, 563, 62] rfl
set_option maxRecDepth 20000 in
theorem wsL_in_31 : ∀ w ∈ wsL_law_r31, w ∈ lw_tbl := pl_in _ [564, 565, 566, 567, 568, 569, 570, 571, 572, 573, 574, 575, 576, 577, 578, 579, 580, 582, 583, 63, 584, 585, 586, 587] rfl
set_option maxRecDepth 20000 in
theorem wsL_in_32 : ∀ w ∈ wsL_law_r32, w ∈ lw_tbl := pl_in _ [588, 589, 590, 591, 593, 595, 597, 598, 599, 600, 601, 64, 602, 603, 604, 605, 606, 607, 608, 609, 610, 611, 612, 613] rfl
set_option maxRecDepth 20000 in
theorem wsL_in_33 : ∀ w ∈ wsL_law_r33, w ∈ lw_tbl := pl_in _ [614, 615, 616, 617, 618, 619, 620, 621, 622, 177, 624, 625, 626, 627, 181, 628, 629, 630, 631, 992, 993, 994, 995, 678] rfl
set_option maxRecDepth 20000 in
theorem wsL_in_34 : ∀ w ∈ wsL_law_r34, w ∈ lw_tbl := pl_in _ [679, 680, 996, 998, 44, 999, 1000, 1002, 45, 1003, 1004, 1006, 46, 1007, 1008, 1010, 47, 1011, 1012, 1014, 48, 1015, 1016, 1018] rfl
set_option maxRecDepth 20000 in
theorem wsL_in_35 : ∀ w ∈ wsL_law_r35, w ∈ lw_tbl := pl_in _ [49, 1019, 633, 634, 635, 636, 174, 637, 638, 640, 2, 641, 176, 178, 180, 182, 184, 643, 644, 1020, 1021, 1022, 1023, 1024] rfl
set_option maxRecDepth 20000 in
theorem wsL_in_36 : ∀ w ∈ wsL_law_r36, w ∈ lw_tbl := pl_in _ [1025, 1027, 50, 1028, 645, 646, 647, 648, 649, 650, 651, 652, 1029, 1030, 1031, 1032, 653, 654, 655, 656, 1033, 1034, 1035, 1036] rfl
set_option maxRecDepth 20000 in
theorem wsL_in_37 : ∀ w ∈ wsL_law_r37, w ∈ lw_tbl := pl_in _ [657, 658, 659, 660, 1037, 1038, 1039, 1040] rfl
set_option maxRecDepth 20000 in
theorem wsL_in_X30 : ∀ w ∈ wsX30, w ∈ lw_tbl := by decide +kernel
set_option maxRecDepth 20000 in
theorem wsL_in_X40 : ∀ w ∈ wsX40, w ∈ lw_tbl := by decide +kernel
set_option maxRecDepth 20000 in
theorem wsL_in_X10 : ∀ w ∈ wsX10, w ∈ lw_tbl := by decide +kernel
set_option maxRecDepth 20000 in
theorem wsL_in_X00 : ∀ w ∈ wsX00, w ∈ lw_tbl := by decide +kernel
set_option maxRecDepth 20000 in
theorem wsL_in_X20 : ∀ w ∈ wsX20, w ∈ lw_tbl := by decide +kernel
theorem wsL_law_in : ∀ w ∈ wsL_law, w ∈ lw_tbl := List.forall_mem_append.mpr ⟨List.forall_mem_append.mpr ⟨List.forall_mem_append.mpr ⟨List.forall_mem_append.mpr ⟨List.forall_mem_append.mpr ⟨List.forall_mem_append.mpr ⟨List.forall_mem_append.mpr ⟨wsL_in_1, List.forall_mem_append.mpr ⟨wsL_in_2, List.forall_mem_append.mpr ⟨wsL_in_3, List.forall_mem_append.mpr ⟨wsL_in_4, List.forall_mem_append.mpr ⟨wsL_in_5, List.forall_mem_append.mpr ⟨wsL_in_6, List.forall_mem_append.mpr ⟨wsL_in_7, List.forall_mem_append.mpr ⟨wsL_in_8, List.forall_mem_append.mpr ⟨wsL_in_9, List.forall_mem_append.mpr ⟨wsL_in_10, List.forall_mem_append.mpr ⟨wsL_in_11, List.forall_mem_append.mpr ⟨wsL_in_12, List.forall_mem_append.mpr ⟨wsL_in_13, List.forall_mem_append.mpr ⟨wsL_in_14, List.forall_mem_append.mpr ⟨wsL_in_15, List.forall_mem_append.mpr ⟨wsL_in_16, List.forall_mem_append.mpr ⟨wsL_in_17, List.forall_mem_append.mpr ⟨wsL_in_18, List.forall_mem_append.mpr ⟨wsL_in_19, List.forall_mem_append.mpr ⟨wsL_in_20, List.forall_mem_append.mpr ⟨wsL_in_21, List.forall_mem_append.mpr ⟨wsL_in_22, List.forall_mem_append.mpr ⟨wsL_in_23, List.forall_mem_append.mpr ⟨wsL_in_24, List.forall_mem_append.mpr ⟨wsL_in_25, List.forall_mem_append.mpr ⟨wsL_in_26, List.forall_mem_append.mpr ⟨wsL_in_27, List.forall_mem_append.mpr ⟨wsL_in_28, List.forall_mem_append.mpr ⟨wsL_in_29, List.forall_mem_append.mpr ⟨wsL_in_30, List.forall_mem_append.mpr ⟨wsL_in_31, List.forall_mem_append.mpr ⟨wsL_in_32, List.forall_mem_append.mpr ⟨wsL_in_33, List.forall_mem_append.mpr ⟨wsL_in_34, List.forall_mem_append.mpr ⟨wsL_in_35, List.forall_mem_append.mpr ⟨wsL_in_36, wsL_in_37⟩⟩⟩⟩⟩⟩⟩⟩⟩⟩⟩⟩⟩⟩⟩⟩⟩⟩⟩⟩⟩⟩⟩⟩⟩⟩⟩⟩⟩⟩⟩⟩⟩⟩⟩⟩, wsL_in_X30⟩, wsL_in_X40⟩, wsL_in_X10⟩, wsL_in_X00⟩, wsL_in_X20⟩, fun _ h => absurd h List.not_mem_nil⟩
