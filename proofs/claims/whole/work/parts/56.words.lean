/-! The law's words stand in the tables, by their places: written by wip/whole/gen56.py. -/
theorem memIn_r {big : List Cond} (ws : List Cond) (ps : List Nat) (hp : ws = ps.filterMap (fun i => big[i]?)) : ∀ w ∈ ws, w ∈ big := by
  intro w hw
  rw [hp] at hw
  obtain ⟨i, -, hi⟩ := List.mem_filterMap.mp hw
  exact List.mem_of_getElem? hi
theorem memIn_app {big a b : List Cond} (ha : ∀ w ∈ a, w ∈ big) (hb : ∀ w ∈ b, w ∈ big) : ∀ w ∈ a ++ b, w ∈ big := fun w h => (List.mem_append.mp h).elim (ha w) (hb w)
set_option maxRecDepth 20000 in
theorem lwi_1 : ∀ w ∈ wsL_law_r1, w ∈ lw_tbl := memIn_r _ [63, 64, 51, 601, 602, 59, 65, 66, 67, 68, 69, 70, 71, 72, 52, 244, 86, 87, 53, 245, 113, 114, 54, 246] (by decide +kernel)
set_option maxRecDepth 20000 in
theorem lwi_2 : ∀ w ∈ wsL_law_r2, w ∈ lw_tbl := memIn_r _ [247, 176, 177, 56, 248, 197, 198, 57, 249, 222, 223, 58, 250, 74, 75, 76, 85, 77, 89, 90, 91, 92, 96, 99] (by decide +kernel)
set_option maxRecDepth 20000 in
theorem lwi_3 : ∀ w ∈ wsL_law_r3, w ∈ lw_tbl := memIn_r _ [115, 116, 117, 118, 142, 119, 144, 121, 55, 146, 148, 150, 123, 124, 125, 126, 127, 141, 128, 179, 180, 181, 182, 184] (by decide +kernel)
set_option maxRecDepth 20000 in
theorem lwi_4 : ∀ w ∈ wsL_law_r4, w ∈ lw_tbl := memIn_r _ [185, 200, 201, 202, 203, 204, 205, 225, 226, 227, 228, 603, 604, 605, 606, 609, 610, 611, 612, 613, 614, 615, 616, 618] (by decide +kernel)
set_option maxRecDepth 20000 in
theorem lwi_5 : ∀ w ∈ wsL_law_r5, w ∈ lw_tbl := memIn_r _ [619, 623, 624, 734, 626, 639, 640, 641, 642, 643, 644, 645, 646, 647, 272, 273, 274, 275, 79, 276, 277, 278, 279, 78] (by decide +kernel)
set_option maxRecDepth 20000 in
theorem lwi_6 : ∀ w ∈ wsL_law_r6, w ∈ lw_tbl := memIn_r _ [735, 736, 737, 738, 625, 739, 740, 741, 280, 281, 282, 283, 742, 743, 744, 745, 284, 285, 286, 287, 288, 289, 290, 291] (by decide +kernel)
set_option maxRecDepth 20000 in
theorem lwi_7 : ∀ w ∈ wsL_law_r7, w ∈ lw_tbl := memIn_r _ [292, 293, 294, 295, 296, 297, 298, 746, 747, 748, 749, 627, 750, 752, 12, 753, 629, 628, 754, 756, 13, 757, 758, 760] (by decide +kernel)
set_option maxRecDepth 20000 in
theorem lwi_8 : ∀ w ∈ wsL_law_r8, w ∈ lw_tbl := memIn_r _ [14, 761, 762, 764, 15, 765, 299, 300, 301, 302, 208, 251, 252, 103, 303, 304, 305, 306, 307, 308, 309, 310, 311, 312] (by decide +kernel)
set_option maxRecDepth 20000 in
theorem lwi_9 : ∀ w ∈ wsL_law_r9, w ∈ lw_tbl := memIn_r _ [313, 314, 315, 317, 318, 60, 319, 101, 316, 320, 321, 322, 323, 324, 325, 326, 327, 130, 152, 155, 157, 328, 329, 330] (by decide +kernel)
set_option maxRecDepth 20000 in
theorem lwi_10 : ∀ w ∈ wsL_law_r10, w ∈ lw_tbl := memIn_r _ [331, 100, 93, 354, 186, 333, 334, 335, 336, 337, 343, 344, 345, 346, 338, 339, 340, 341, 347, 348, 349, 350, 351, 352] (by decide +kernel)
set_option maxRecDepth 20000 in
theorem lwi_11 : ∀ w ∈ wsL_law_r11, w ∈ lw_tbl := memIn_r _ [355, 357, 0, 358, 359, 361, 1, 362, 363, 364, 61, 365, 366, 367, 368, 369, 370, 371, 372, 766, 767, 768, 769, 608] (by decide +kernel)
set_option maxRecDepth 20000 in
theorem lwi_12 : ∀ w ∈ wsL_law_r12, w ∈ lw_tbl := memIn_r _ [607, 617, 620, 621, 622, 770, 772, 16, 773, 373, 374, 375, 376, 145, 143, 95, 98, 131, 377, 379, 2, 380, 381, 382] (by decide +kernel)
set_option maxRecDepth 20000 in
theorem lwi_13 : ∀ w ∈ wsL_law_r13, w ∈ lw_tbl := memIn_r _ [383, 384, 129, 385, 386, 387, 388, 389, 774, 775, 776, 777, 778, 780, 17, 781, 782, 784, 18, 785, 390, 391, 392, 393] (by decide +kernel)
set_option maxRecDepth 20000 in
theorem lwi_14 : ∀ w ∈ wsL_law_r14, w ∈ lw_tbl := memIn_r _ [147, 394, 395, 396, 397, 398, 399, 400, 786, 787, 788, 789, 401, 402, 403, 404, 405, 406, 407, 408, 409, 410, 411, 412] (by decide +kernel)
set_option maxRecDepth 20000 in
theorem lwi_15 : ∀ w ∈ wsL_law_r15, w ∈ lw_tbl := memIn_r _ [790, 791, 792, 793, 794, 796, 19, 797, 798, 800, 20, 801, 802, 803, 804, 413, 414, 415, 416, 417, 418, 419, 805, 806] (by decide +kernel)
set_option maxRecDepth 20000 in
theorem lwi_16 : ∀ w ∈ wsL_law_r16, w ∈ lw_tbl := memIn_r _ [807, 808, 420, 421, 422, 423, 156, 424, 426, 3, 427, 428, 430, 4, 431, 432, 433, 434, 435, 436, 437, 438, 439, 440] (by decide +kernel)
set_option maxRecDepth 20000 in
theorem lwi_17 : ∀ w ∈ wsL_law_r17, w ∈ lw_tbl := memIn_r _ [441, 442, 443, 444, 445, 446, 447, 448, 449, 450, 809, 810, 811, 812, 813, 815, 21, 816, 817, 819, 22, 820, 821, 823] (by decide +kernel)
set_option maxRecDepth 20000 in
theorem lwi_18 : ∀ w ∈ wsL_law_r18, w ∈ lw_tbl := memIn_r _ [23, 824, 825, 827, 24, 828, 829, 831, 25, 832, 833, 835, 26, 836, 837, 839, 27, 840, 451, 452, 453, 454, 841, 842] (by decide +kernel)
set_option maxRecDepth 20000 in
theorem lwi_19 : ∀ w ∈ wsL_law_r19, w ∈ lw_tbl := memIn_r _ [843, 844, 455, 456, 457, 458, 845, 846, 847, 848, 459, 460, 461, 462, 463, 464, 465, 466, 849, 850, 851, 852, 467, 468] (by decide +kernel)
set_option maxRecDepth 20000 in
theorem lwi_20 : ∀ w ∈ wsL_law_r20, w ∈ lw_tbl := memIn_r _ [469, 470, 471, 853, 854, 855, 856, 857, 859, 28, 860, 861, 863, 29, 864, 865, 867, 30, 868, 472, 473, 474, 475, 187] (by decide +kernel)
set_option maxRecDepth 20000 in
theorem lwi_21 : ∀ w ∈ wsL_law_r21, w ∈ lw_tbl := memIn_r _ [183, 476, 477, 478, 479, 480, 481, 482, 483, 869, 870, 871, 872, 873, 875, 31, 876, 877, 878, 880, 32, 881, 882, 884] (by decide +kernel)
set_option maxRecDepth 20000 in
theorem lwi_22 : ∀ w ∈ wsL_law_r22, w ∈ lw_tbl := memIn_r _ [33, 885, 886, 888, 34, 889, 890, 892, 35, 893, 894, 896, 36, 897, 898, 900, 37, 901, 484, 485, 486, 487, 154, 488] (by decide +kernel)
set_option maxRecDepth 20000 in
theorem lwi_23 : ∀ w ∈ wsL_law_r23, w ∈ lw_tbl := memIn_r _ [489, 490, 491, 902, 903, 904, 905, 492, 493, 494, 495, 906, 907, 908, 909, 496, 497, 498, 499, 210, 500, 501, 502, 503] (by decide +kernel)
set_option maxRecDepth 20000 in
theorem lwi_24 : ∀ w ∈ wsL_law_r24, w ∈ lw_tbl := memIn_r _ [207, 209, 511, 504, 505, 62, 506, 507, 509, 5, 510, 153, 149, 151, 512, 513, 514, 515, 517, 6, 518, 519, 521, 7] (by decide +kernel)
set_option maxRecDepth 20000 in
theorem lwi_25 : ∀ w ∈ wsL_law_r25, w ∈ lw_tbl := memIn_r _ [522, 910, 911, 912, 913, 914, 916, 38, 917, 918, 920, 39, 921, 523, 524, 525, 526, 206, 922, 923, 924, 925, 926, 928] (by decide +kernel)
set_option maxRecDepth 20000 in
theorem lwi_26 : ∀ w ∈ wsL_law_r26, w ∈ lw_tbl := memIn_r _ [40, 929, 527, 528, 529, 530, 232, 234, 230, 531, 532, 533, 534, 229, 231, 233, 102, 535, 536, 538, 8, 539, 540, 541] (by decide +kernel)
set_option maxRecDepth 20000 in
theorem lwi_27 : ∀ w ∈ wsL_law_r27, w ∈ lw_tbl := memIn_r _ [542, 543, 544, 546, 9, 547, 97, 94, 930, 931, 932, 933, 934, 936, 41, 937, 630, 631, 632, 938, 940, 42, 941, 942] (by decide +kernel)
set_option maxRecDepth 20000 in
theorem lwi_28 : ∀ w ∈ wsL_law_r28, w ∈ lw_tbl := memIn_r _ [944, 43, 945, 946, 947, 948, 949, 950, 952, 44, 953, 550, 551, 552, 553, 554, 555, 556, 557, 558, 559, 560, 561, 954] (by decide +kernel)
set_option maxRecDepth 20000 in
theorem lwi_29 : ∀ w ∈ wsL_law_r29, w ∈ lw_tbl := memIn_r _ [955, 956, 957, 633, 634, 635, 636, 637, 638, 562, 563, 564, 565, 958, 959, 960, 961, 566, 567, 568, 569, 158, 570, 571] (by decide +kernel)
set_option maxRecDepth 20000 in
theorem lwi_30 : ∀ w ∈ wsL_law_r30, w ∈ lw_tbl := memIn_r _ [572, 573, 574, 575, 576, 577, 578, 962, 963, 964, 965, 966, 968, 45, 969, 970, 972, 46, 973, 579, 580, 581, 582, 583] (by decide +kernel)
set_option maxRecDepth 20000 in
theorem lwi_31 : ∀ w ∈ wsL_law_r31, w ∈ lw_tbl := memIn_r _ [588, 584, 586, 10, 587, 589, 590, 591, 592, 594, 11, 595, 596, 597, 598, 599, 600, 974, 975, 976, 977, 978, 648, 979] (by decide +kernel)
set_option maxRecDepth 20000 in
theorem lwi_32 : ∀ w ∈ wsL_law_r32, w ∈ lw_tbl := memIn_r _ [981, 47, 982, 983, 985, 48, 986, 987, 988, 990, 49, 991] (by decide +kernel)
set_option maxRecDepth 20000 in
theorem inX0 : ∀ w ∈ wsX00, w ∈ lw_tbl := memIn_r _ [188, 190, 192, 194] (by decide +kernel)
set_option maxRecDepth 20000 in
theorem inX1 : ∀ w ∈ wsX10, w ∈ lw_tbl := memIn_r _ [80, 82] (by decide +kernel)
set_option maxRecDepth 20000 in
theorem inX2 : ∀ w ∈ wsX20, w ∈ lw_tbl := memIn_r _ [104, 106, 108, 110] (by decide +kernel)
set_option maxRecDepth 20000 in
theorem inX3 : ∀ w ∈ wsX30, w ∈ lw_tbl := memIn_r _ [132, 134, 136, 138] (by decide +kernel)
set_option maxRecDepth 20000 in
theorem inX4 : ∀ w ∈ wsX40, w ∈ lw_tbl := memIn_r _ [159, 161, 163, 165, 167, 169, 171, 173] (by decide +kernel)
set_option maxRecDepth 20000 in
theorem inX5 : ∀ w ∈ wsX50, w ∈ lw_tbl := memIn_r _ [235, 237, 239, 241] (by decide +kernel)
set_option maxRecDepth 20000 in
theorem inX6 : ∀ w ∈ wsX60, w ∈ lw_tbl := memIn_r _ [211, 213, 215, 217, 219] (by decide +kernel)
set_option maxRecDepth 20000 in
theorem inX7 : ∀ w ∈ wsX70, w ∈ lw_tbl := memIn_r _ [253, 255, 257, 259, 261, 263, 265, 267, 269] (by decide +kernel)
set_option maxRecDepth 20000 in
theorem inX8 : ∀ w ∈ wsX80, w ∈ lw_tbl := memIn_r _ [649, 651, 653, 655, 657, 659, 661, 663, 665, 667, 669, 671, 673, 675, 677, 679, 681, 683, 685, 687, 689, 691, 693, 695, 697, 699, 701, 703, 705, 707, 709, 711, 713, 715, 717, 719, 721, 723, 725, 727, 729, 731] (by decide +kernel)
theorem wsL_law_in : ∀ w ∈ wsL_law, w ∈ lw_tbl := memIn_app (memIn_app (memIn_app (memIn_app (memIn_app (memIn_app (memIn_app (memIn_app (memIn_app (memIn_app (memIn_app lwi_1 (memIn_app lwi_2 (memIn_app lwi_3 (memIn_app lwi_4 (memIn_app lwi_5 (memIn_app lwi_6 (memIn_app lwi_7 (memIn_app lwi_8 (memIn_app lwi_9 (memIn_app lwi_10 (memIn_app lwi_11 (memIn_app lwi_12 (memIn_app lwi_13 (memIn_app lwi_14 (memIn_app lwi_15 (memIn_app lwi_16 (memIn_app lwi_17 (memIn_app lwi_18 (memIn_app lwi_19 (memIn_app lwi_20 (memIn_app lwi_21 (memIn_app lwi_22 (memIn_app lwi_23 (memIn_app lwi_24 (memIn_app lwi_25 (memIn_app lwi_26 (memIn_app lwi_27 (memIn_app lwi_28 (memIn_app lwi_29 (memIn_app lwi_30 (memIn_app lwi_31 (lwi_32)))))))))))))))))))))))))))))))) inX7) inX8) inX1) inX2) inX4) inX0) inX6) inX5) inX3) (fun _ h => absurd h List.not_mem_nil)
