/-! The law's words stand in the tables, by their places: written by wip/whole/gen56.py. -/
theorem memIn_r {big : List Cond} (ws : List Cond) (ps : List Nat) (hp : ws = ps.filterMap (fun i => big[i]?)) : ∀ w ∈ ws, w ∈ big := by
  intro w hw
  rw [hp] at hw
  obtain ⟨i, -, hi⟩ := List.mem_filterMap.mp hw
  exact List.mem_of_getElem? hi
theorem memIn_app {big a b : List Cond} (ha : ∀ w ∈ a, w ∈ big) (hb : ∀ w ∈ b, w ∈ big) : ∀ w ∈ a ++ b, w ∈ big := fun w h => (List.mem_append.mp h).elim (ha w) (hb w)
set_option maxRecDepth 20000 in
theorem lwi_1 : ∀ w ∈ wsL_law_r1, w ∈ lw_tbl := memIn_r _ [64, 65, 52, 612, 613, 60, 66, 67, 68, 69, 70, 71, 72, 73, 53, 245, 87, 88, 54, 246, 114, 115, 55, 247] (by decide +kernel)
set_option maxRecDepth 20000 in
theorem lwi_2 : ∀ w ∈ wsL_law_r2, w ∈ lw_tbl := memIn_r _ [248, 177, 178, 57, 249, 198, 199, 58, 250, 223, 224, 59, 251, 75, 76, 77, 86, 78, 90, 91, 92, 93, 97, 100] (by decide +kernel)
set_option maxRecDepth 20000 in
theorem lwi_3 : ∀ w ∈ wsL_law_r3, w ∈ lw_tbl := memIn_r _ [116, 117, 118, 119, 143, 120, 145, 122, 56, 147, 149, 151, 124, 125, 126, 127, 128, 142, 129, 180, 181, 182, 183, 185] (by decide +kernel)
set_option maxRecDepth 20000 in
theorem lwi_4 : ∀ w ∈ wsL_law_r4, w ∈ lw_tbl := memIn_r _ [186, 201, 202, 203, 204, 205, 206, 226, 227, 228, 229, 614, 615, 616, 617, 620, 621, 622, 623, 624, 625, 626, 627, 629] (by decide +kernel)
set_option maxRecDepth 20000 in
theorem lwi_5 : ∀ w ∈ wsL_law_r5, w ∈ lw_tbl := memIn_r _ [630, 634, 635, 745, 637, 650, 651, 652, 653, 654, 655, 656, 657, 658, 273, 274, 275, 276, 80, 277, 278, 279, 280, 79] (by decide +kernel)
set_option maxRecDepth 20000 in
theorem lwi_6 : ∀ w ∈ wsL_law_r6, w ∈ lw_tbl := memIn_r _ [746, 747, 748, 749, 636, 750, 751, 752, 281, 282, 283, 284, 753, 754, 755, 756, 285, 286, 287, 288, 289, 290, 291, 292] (by decide +kernel)
set_option maxRecDepth 20000 in
theorem lwi_7 : ∀ w ∈ wsL_law_r7, w ∈ lw_tbl := memIn_r _ [293, 294, 295, 296, 297, 298, 299, 757, 758, 759, 760, 638, 761, 763, 13, 764, 640, 639, 765, 767, 14, 768, 769, 771] (by decide +kernel)
set_option maxRecDepth 20000 in
theorem lwi_8 : ∀ w ∈ wsL_law_r8, w ∈ lw_tbl := memIn_r _ [15, 772, 773, 775, 16, 776, 300, 301, 302, 303, 209, 252, 253, 104, 304, 305, 306, 307, 308, 309, 310, 311, 312, 313] (by decide +kernel)
set_option maxRecDepth 20000 in
theorem lwi_9 : ∀ w ∈ wsL_law_r9, w ∈ lw_tbl := memIn_r _ [314, 315, 316, 318, 319, 61, 320, 102, 317, 321, 322, 323, 324, 325, 326, 327, 328, 131, 153, 156, 158, 329, 330, 331] (by decide +kernel)
set_option maxRecDepth 20000 in
theorem lwi_10 : ∀ w ∈ wsL_law_r10, w ∈ lw_tbl := memIn_r _ [332, 101, 94, 355, 187, 334, 335, 336, 337, 338, 344, 345, 346, 347, 339, 340, 341, 342, 348, 349, 350, 351, 352, 353] (by decide +kernel)
set_option maxRecDepth 20000 in
theorem lwi_11 : ∀ w ∈ wsL_law_r11, w ∈ lw_tbl := memIn_r _ [356, 358, 0, 359, 360, 362, 1, 363, 364, 365, 62, 366, 367, 368, 369, 370, 371, 372, 373, 374, 375, 376, 377, 777] (by decide +kernel)
set_option maxRecDepth 20000 in
theorem lwi_12 : ∀ w ∈ wsL_law_r12, w ∈ lw_tbl := memIn_r _ [778, 779, 780, 619, 618, 628, 631, 632, 633, 781, 783, 17, 784, 378, 379, 380, 381, 146, 144, 96, 99, 132, 382, 384] (by decide +kernel)
set_option maxRecDepth 20000 in
theorem lwi_13 : ∀ w ∈ wsL_law_r13, w ∈ lw_tbl := memIn_r _ [2, 385, 386, 387, 388, 389, 390, 130, 391, 392, 393, 394, 395, 785, 786, 787, 788, 789, 791, 18, 792, 793, 795, 19] (by decide +kernel)
set_option maxRecDepth 20000 in
theorem lwi_14 : ∀ w ∈ wsL_law_r14, w ∈ lw_tbl := memIn_r _ [796, 396, 397, 398, 399, 148, 400, 401, 402, 403, 404, 405, 406, 797, 798, 799, 800, 407, 408, 409, 410, 411, 412, 413] (by decide +kernel)
set_option maxRecDepth 20000 in
theorem lwi_15 : ∀ w ∈ wsL_law_r15, w ∈ lw_tbl := memIn_r _ [414, 415, 416, 417, 418, 801, 802, 803, 804, 805, 807, 20, 808, 809, 811, 21, 812, 813, 814, 815, 419, 420, 421, 422] (by decide +kernel)
set_option maxRecDepth 20000 in
theorem lwi_16 : ∀ w ∈ wsL_law_r16, w ∈ lw_tbl := memIn_r _ [423, 424, 425, 816, 817, 818, 819, 426, 427, 428, 429, 157, 430, 432, 3, 433, 434, 436, 4, 437, 438, 439, 440, 441] (by decide +kernel)
set_option maxRecDepth 20000 in
theorem lwi_17 : ∀ w ∈ wsL_law_r17, w ∈ lw_tbl := memIn_r _ [442, 443, 444, 445, 446, 447, 448, 449, 450, 451, 452, 453, 454, 455, 456, 820, 821, 822, 823, 824, 826, 22, 827, 828] (by decide +kernel)
set_option maxRecDepth 20000 in
theorem lwi_18 : ∀ w ∈ wsL_law_r18, w ∈ lw_tbl := memIn_r _ [830, 23, 831, 832, 834, 24, 835, 836, 838, 25, 839, 840, 842, 26, 843, 844, 846, 27, 847, 848, 850, 28, 851, 457] (by decide +kernel)
set_option maxRecDepth 20000 in
theorem lwi_19 : ∀ w ∈ wsL_law_r19, w ∈ lw_tbl := memIn_r _ [458, 459, 460, 852, 853, 854, 855, 461, 462, 463, 464, 856, 857, 858, 859, 465, 466, 467, 468, 469, 470, 471, 472, 860] (by decide +kernel)
set_option maxRecDepth 20000 in
theorem lwi_20 : ∀ w ∈ wsL_law_r20, w ∈ lw_tbl := memIn_r _ [861, 862, 863, 473, 474, 475, 476, 477, 864, 865, 866, 867, 868, 870, 29, 871, 872, 874, 30, 875, 876, 878, 31, 879] (by decide +kernel)
set_option maxRecDepth 20000 in
theorem lwi_21 : ∀ w ∈ wsL_law_r21, w ∈ lw_tbl := memIn_r _ [478, 479, 480, 481, 188, 184, 482, 483, 484, 485, 486, 487, 488, 489, 880, 881, 882, 883, 884, 886, 32, 887, 888, 889] (by decide +kernel)
set_option maxRecDepth 20000 in
theorem lwi_22 : ∀ w ∈ wsL_law_r22, w ∈ lw_tbl := memIn_r _ [891, 33, 892, 893, 895, 34, 896, 897, 899, 35, 900, 901, 903, 36, 904, 905, 907, 37, 908, 909, 911, 38, 912, 490] (by decide +kernel)
set_option maxRecDepth 20000 in
theorem lwi_23 : ∀ w ∈ wsL_law_r23, w ∈ lw_tbl := memIn_r _ [491, 492, 493, 155, 494, 495, 496, 497, 913, 914, 915, 916, 498, 499, 500, 501, 917, 918, 919, 920, 502, 503, 504, 505] (by decide +kernel)
set_option maxRecDepth 20000 in
theorem lwi_24 : ∀ w ∈ wsL_law_r24, w ∈ lw_tbl := memIn_r _ [211, 506, 507, 508, 509, 208, 210, 521, 510, 511, 63, 512, 513, 515, 5, 516, 154, 150, 152, 517, 519, 6, 520, 522] (by decide +kernel)
set_option maxRecDepth 20000 in
theorem lwi_25 : ∀ w ∈ wsL_law_r25, w ∈ lw_tbl := memIn_r _ [523, 524, 525, 527, 7, 528, 529, 531, 8, 532, 921, 922, 923, 924, 925, 927, 39, 928, 929, 931, 40, 932, 533, 534] (by decide +kernel)
set_option maxRecDepth 20000 in
theorem lwi_26 : ∀ w ∈ wsL_law_r26, w ∈ lw_tbl := memIn_r _ [535, 536, 207, 933, 934, 935, 936, 937, 939, 41, 940, 537, 538, 539, 540, 233, 235, 231, 541, 542, 543, 544, 230, 232] (by decide +kernel)
set_option maxRecDepth 20000 in
theorem lwi_27 : ∀ w ∈ wsL_law_r27, w ∈ lw_tbl := memIn_r _ [234, 103, 545, 546, 548, 9, 549, 550, 551, 552, 553, 555, 556, 558, 10, 559, 98, 95, 941, 942, 943, 944, 945, 947] (by decide +kernel)
set_option maxRecDepth 20000 in
theorem lwi_28 : ∀ w ∈ wsL_law_r28, w ∈ lw_tbl := memIn_r _ [42, 948, 641, 642, 643, 949, 951, 43, 952, 953, 955, 44, 956, 957, 958, 959, 960, 961, 963, 45, 964, 561, 562, 563] (by decide +kernel)
set_option maxRecDepth 20000 in
theorem lwi_29 : ∀ w ∈ wsL_law_r29, w ∈ lw_tbl := memIn_r _ [564, 565, 566, 567, 568, 569, 570, 571, 572, 965, 966, 967, 968, 644, 645, 646, 647, 648, 649, 573, 574, 575, 576, 969] (by decide +kernel)
set_option maxRecDepth 20000 in
theorem lwi_30 : ∀ w ∈ wsL_law_r30, w ∈ lw_tbl := memIn_r _ [970, 971, 972, 577, 578, 579, 580, 159, 581, 582, 583, 584, 585, 586, 587, 588, 589, 973, 974, 975, 976, 977, 979, 46] (by decide +kernel)
set_option maxRecDepth 20000 in
theorem lwi_31 : ∀ w ∈ wsL_law_r31, w ∈ lw_tbl := memIn_r _ [980, 981, 983, 47, 984, 590, 591, 592, 593, 594, 599, 595, 597, 11, 598, 600, 601, 602, 603, 605, 12, 606, 607, 608] (by decide +kernel)
set_option maxRecDepth 20000 in
theorem lwi_32 : ∀ w ∈ wsL_law_r32, w ∈ lw_tbl := memIn_r _ [609, 610, 611, 985, 986, 987, 988, 989, 659, 990, 992, 48, 993, 994, 996, 49, 997, 998, 999, 1001, 50, 1002] (by decide +kernel)
set_option maxRecDepth 20000 in
theorem inX0 : ∀ w ∈ wsX00, w ∈ lw_tbl := memIn_r _ [189, 191, 193, 195] (by decide +kernel)
set_option maxRecDepth 20000 in
theorem inX1 : ∀ w ∈ wsX10, w ∈ lw_tbl := memIn_r _ [81, 83] (by decide +kernel)
set_option maxRecDepth 20000 in
theorem inX2 : ∀ w ∈ wsX20, w ∈ lw_tbl := memIn_r _ [105, 107, 109, 111] (by decide +kernel)
set_option maxRecDepth 20000 in
theorem inX3 : ∀ w ∈ wsX30, w ∈ lw_tbl := memIn_r _ [133, 135, 137, 139] (by decide +kernel)
set_option maxRecDepth 20000 in
theorem inX4 : ∀ w ∈ wsX40, w ∈ lw_tbl := memIn_r _ [160, 162, 164, 166, 168, 170, 172, 174] (by decide +kernel)
set_option maxRecDepth 20000 in
theorem inX5 : ∀ w ∈ wsX50, w ∈ lw_tbl := memIn_r _ [236, 238, 240, 242] (by decide +kernel)
set_option maxRecDepth 20000 in
theorem inX6 : ∀ w ∈ wsX60, w ∈ lw_tbl := memIn_r _ [212, 214, 216, 218, 220] (by decide +kernel)
set_option maxRecDepth 20000 in
theorem inX7 : ∀ w ∈ wsX70, w ∈ lw_tbl := memIn_r _ [254, 256, 258, 260, 262, 264, 266, 268, 270] (by decide +kernel)
set_option maxRecDepth 20000 in
theorem inX8 : ∀ w ∈ wsX80, w ∈ lw_tbl := memIn_r _ [660, 662, 664, 666, 668, 670, 672, 674, 676, 678, 680, 682, 684, 686, 688, 690, 692, 694, 696, 698, 700, 702, 704, 706, 708, 710, 712, 714, 716, 718, 720, 722, 724, 726, 728, 730, 732, 734, 736, 738, 740, 742] (by decide +kernel)
theorem wsL_law_in : ∀ w ∈ wsL_law, w ∈ lw_tbl := memIn_app (memIn_app (memIn_app (memIn_app (memIn_app (memIn_app (memIn_app (memIn_app (memIn_app (memIn_app (memIn_app lwi_1 (memIn_app lwi_2 (memIn_app lwi_3 (memIn_app lwi_4 (memIn_app lwi_5 (memIn_app lwi_6 (memIn_app lwi_7 (memIn_app lwi_8 (memIn_app lwi_9 (memIn_app lwi_10 (memIn_app lwi_11 (memIn_app lwi_12 (memIn_app lwi_13 (memIn_app lwi_14 (memIn_app lwi_15 (memIn_app lwi_16 (memIn_app lwi_17 (memIn_app lwi_18 (memIn_app lwi_19 (memIn_app lwi_20 (memIn_app lwi_21 (memIn_app lwi_22 (memIn_app lwi_23 (memIn_app lwi_24 (memIn_app lwi_25 (memIn_app lwi_26 (memIn_app lwi_27 (memIn_app lwi_28 (memIn_app lwi_29 (memIn_app lwi_30 (memIn_app lwi_31 (lwi_32)))))))))))))))))))))))))))))))) inX7) inX8) inX1) inX2) inX4) inX0) inX6) inX5) inX3) (fun _ h => absurd h List.not_mem_nil)
