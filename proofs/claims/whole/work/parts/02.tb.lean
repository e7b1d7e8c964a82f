theorem mem_r {big : List Cond} (ws : List Cond) (ps : List Nat) (hp : ws = ps.filterMap (fun i => big[i]?)) : ∀ w ∈ ws, w ∈ big := by
  intro w hw
  rw [hp] at hw
  obtain ⟨i, -, hi⟩ := List.mem_filterMap.mp hw
  exact List.mem_of_getElem? hi
set_option maxRecDepth 100000 in
theorem tb_r1 : ∀ w ∈ wsL_law_r1, w ∈ lw_tbl := mem_r _ [64, 65, 49, 702, 703, 57, 983, 66, 67, 68, 69, 70, 71, 72, 73, 50, 254, 146, 255, 166, 95, 52, 256, 168] (by decide +kernel)
set_option maxRecDepth 100000 in
theorem tb_r2 : ∀ w ∈ wsL_law_r2, w ∈ lw_tbl := mem_r _ [169, 54, 257, 258, 236, 259, 202, 203, 55, 260, 237, 238, 56, 261, 262, 75, 76, 77, 78, 79, 51, 145, 94, 147] (by decide +kernel)
set_option maxRecDepth 100000 in
theorem tb_r3 : ∀ w ∈ wsL_law_r3, w ∈ lw_tbl := mem_r _ [149, 150, 151, 152, 81, 82, 83, 93, 84, 85, 96, 97, 98, 99, 103, 107, 111, 144, 114, 116, 119, 122, 123, 124] (by decide +kernel)
set_option maxRecDepth 100000 in
theorem tb_r4 : ∀ w ∈ wsL_law_r4, w ∈ lw_tbl := mem_r _ [100, 101, 53, 102, 167, 170, 171, 172, 173, 175, 177, 179, 181, 183, 185, 174, 205, 206, 207, 208, 209, 210, 211, 212] (by decide +kernel)
set_option maxRecDepth 100000 in
theorem tb_r5 : ∀ w ∈ wsL_law_r5, w ∈ lw_tbl := mem_r _ [213, 214, 215, 216, 240, 241, 242, 243, 245, 246, 704, 705, 706, 707, 764, 766, 767, 768, 769, 770, 775, 776, 777, 779] (by decide +kernel)
set_option maxRecDepth 100000 in
theorem tb_r6 : ∀ w ∈ wsL_law_r6, w ∈ lw_tbl := mem_r _ [780, 781, 708, 710, 25, 711, 771, 772, 712, 713, 714, 715, 717, 26, 718, 773, 774, 719, 721, 27, 722, 765, 723, 724] (by decide +kernel)
set_option maxRecDepth 100000 in
theorem tb_r7 : ∀ w ∈ wsL_law_r7, w ∈ lw_tbl := mem_r _ [725, 726, 728, 28, 729, 730, 731, 732, 733, 734, 735, 737, 29, 738, 739, 741, 30, 742, 743, 745, 31, 746, 747, 749] (by decide +kernel)
set_option maxRecDepth 100000 in
theorem tb_r8 : ∀ w ∈ wsL_law_r8, w ∈ lw_tbl := mem_r _ [32, 750, 751, 753, 33, 754, 755, 757, 34, 758, 759, 761, 35, 762, 282, 283, 284, 285, 86, 286, 287, 288, 289, 290] (by decide +kernel)
set_option maxRecDepth 100000 in
theorem tb_r9 : ∀ w ∈ wsL_law_r9, w ∈ lw_tbl := mem_r _ [291, 292, 821, 822, 823, 824, 825, 293, 294, 295, 296, 826, 827, 828, 829, 297, 298, 299, 300, 148, 301, 302, 303, 304] (by decide +kernel)
set_option maxRecDepth 100000 in
theorem tb_r10 : ∀ w ∈ wsL_law_r10, w ∈ lw_tbl := mem_r _ [305, 306, 307, 308, 309, 311, 0, 312, 87, 313, 314, 315, 316, 318, 319, 320, 321, 322, 323, 324, 325, 326, 328, 1] (by decide +kernel)
set_option maxRecDepth 100000 in
theorem tb_r11 : ∀ w ∈ wsL_law_r11, w ∈ lw_tbl := mem_r _ [329, 331, 332, 333, 334, 335, 336, 337, 58, 338, 984, 339, 340, 341, 342, 343, 985, 345, 346, 347, 348, 349, 350, 351] (by decide +kernel)
set_option maxRecDepth 100000 in
theorem tb_r12 : ∀ w ∈ wsL_law_r12, w ∈ lw_tbl := mem_r _ [352, 353, 354, 59, 355, 356, 357, 358, 359, 361, 362, 60, 363, 364, 365, 61, 366, 367, 368, 369, 370, 371, 372, 373] (by decide +kernel)
set_option maxRecDepth 100000 in
theorem tb_r13 : ∀ w ∈ wsL_law_r13, w ∈ lw_tbl := mem_r _ [374, 375, 376, 377, 379, 381, 383, 384, 386, 2, 387, 105, 388, 390, 3, 391, 393, 395, 4, 396, 397, 398, 399, 400] (by decide +kernel)
set_option maxRecDepth 100000 in
theorem tb_r14 : ∀ w ∈ wsL_law_r14, w ∈ lw_tbl := mem_r _ [402, 404, 5, 405, 109, 406, 407, 408, 409, 411, 413, 6, 414, 120, 416, 418, 7, 419, 112, 420, 421, 422, 423, 424] (by decide +kernel)
set_option maxRecDepth 100000 in
theorem tb_r15 : ∀ w ∈ wsL_law_r15, w ∈ lw_tbl := mem_r _ [425, 426, 427, 428, 430, 429, 62, 431, 432, 433, 434, 830, 831, 832, 833, 435, 436, 437, 438, 115, 439, 440, 441, 442] (by decide +kernel)
set_option maxRecDepth 100000 in
theorem tb_r16 : ∀ w ∈ wsL_law_r16, w ∈ lw_tbl := mem_r _ [834, 835, 836, 837, 838, 840, 36, 841, 444, 445, 446, 447, 118, 448, 449, 450, 451, 842, 843, 844, 845, 846, 848, 37] (by decide +kernel)
set_option maxRecDepth 100000 in
theorem tb_r17 : ∀ w ∈ wsL_law_r17, w ∈ lw_tbl := mem_r _ [849, 452, 453, 454, 455, 121, 456, 457, 458, 850, 851, 852, 853, 459, 460, 461, 462, 463, 464, 465, 466, 467, 468, 469] (by decide +kernel)
set_option maxRecDepth 100000 in
theorem tb_r18 : ∀ w ∈ wsL_law_r18, w ∈ lw_tbl := mem_r _ [470, 854, 855, 856, 857, 858, 860, 38, 861, 471, 472, 473, 474, 176, 475, 476, 477, 478, 862, 863, 864, 865, 479, 480] (by decide +kernel)
set_option maxRecDepth 100000 in
theorem tb_r19 : ∀ w ∈ wsL_law_r19, w ∈ lw_tbl := mem_r _ [481, 482, 866, 867, 868, 869, 483, 484, 485, 486, 178, 180, 182, 184, 870, 871, 872, 873, 487, 488, 489, 490, 491, 493] (by decide +kernel)
set_option maxRecDepth 100000 in
theorem tb_r20 : ∀ w ∈ wsL_law_r20, w ∈ lw_tbl := mem_r _ [8, 494, 500, 501, 63, 502, 495, 496, 497, 498, 499, 503, 504, 505, 506, 507, 874, 875, 876, 877, 878, 880, 39, 881] (by decide +kernel)
set_option maxRecDepth 100000 in
theorem tb_r21 : ∀ w ∈ wsL_law_r21, w ∈ lw_tbl := mem_r _ [882, 884, 40, 885, 508, 509, 510, 511, 187, 886, 887, 888, 889, 512, 513, 514, 515, 890, 891, 892, 893, 516, 517, 518] (by decide +kernel)
set_option maxRecDepth 100000 in
theorem tb_r22 : ∀ w ∈ wsL_law_r22, w ∈ lw_tbl := mem_r _ [519, 894, 895, 896, 897, 520, 521, 522, 523, 524, 525, 526, 527, 104, 108, 117, 528, 186, 529, 530, 531, 533, 9, 534] (by decide +kernel)
set_option maxRecDepth 100000 in
theorem tb_r23 : ∀ w ∈ wsL_law_r23, w ∈ lw_tbl := mem_r _ [535, 537, 10, 538, 539, 540, 541, 542, 544, 11, 545, 546, 547, 548, 549, 550, 552, 12, 553, 554, 555, 557, 13, 558] (by decide +kernel)
set_option maxRecDepth 100000 in
theorem tb_r24 : ∀ w ∈ wsL_law_r24, w ∈ lw_tbl := mem_r _ [559, 561, 14, 562, 898, 899, 900, 901, 778, 902, 904, 41, 905, 906, 908, 42, 909, 910, 912, 43, 913, 563, 564, 565] (by decide +kernel)
set_option maxRecDepth 100000 in
theorem tb_r25 : ∀ w ∈ wsL_law_r25, w ∈ lw_tbl := mem_r _ [566, 106, 567, 568, 569, 570, 571, 572, 573, 574, 914, 915, 916, 917, 918, 919, 920, 575, 576, 577, 578, 579, 580, 581] (by decide +kernel)
set_option maxRecDepth 100000 in
theorem tb_r26 : ∀ w ∈ wsL_law_r26, w ∈ lw_tbl := mem_r _ [921, 922, 923, 924, 582, 583, 584, 585, 586, 588, 15, 589, 590, 591, 592, 593, 925, 926, 927, 928, 929, 931, 44, 932] (by decide +kernel)
set_option maxRecDepth 100000 in
theorem tb_r27 : ∀ w ∈ wsL_law_r27, w ∈ lw_tbl := mem_r _ [933, 935, 45, 936, 594, 595, 596, 597, 937, 938, 939, 940, 598, 599, 600, 601, 602, 603, 604, 605, 611, 612, 613, 606] (by decide +kernel)
set_option maxRecDepth 100000 in
theorem tb_r28 : ∀ w ∈ wsL_law_r28, w ∈ lw_tbl := mem_r _ [608, 16, 609, 941, 942, 943, 944, 614, 615, 616, 617, 244, 618, 619, 620, 621, 622, 623, 624, 625, 626, 628, 17, 629] (by decide +kernel)
set_option maxRecDepth 100000 in
theorem tb_r29 : ∀ w ∈ wsL_law_r29, w ∈ lw_tbl := mem_r _ [634, 630, 632, 18, 633, 945, 946, 947, 948, 949, 951, 46, 952, 953, 955, 47, 956, 635, 636, 637, 638, 639, 640, 642] (by decide +kernel)
set_option maxRecDepth 100000 in
theorem tb_r30 : ∀ w ∈ wsL_law_r30, w ∈ lw_tbl := mem_r _ [19, 643, 644, 646, 20, 647, 648, 649, 650, 651, 652, 653, 655, 21, 656, 657, 658, 659, 660, 661, 662, 664, 22, 665] (by decide +kernel)
set_option maxRecDepth 100000 in
theorem tb_r31 : ∀ w ∈ wsL_law_r31, w ∈ lw_tbl := mem_r _ [666, 667, 669, 23, 670, 671, 672, 674, 24, 675, 676, 957, 958, 959, 960, 961, 763, 962, 963, 964, 965, 966, 677, 678] (by decide +kernel)
set_option maxRecDepth 100000 in
theorem tb_r32 : ∀ w ∈ wsL_law_r32, w ∈ lw_tbl := mem_r _ [679, 680, 681, 682, 683, 684, 685, 967, 968, 969, 970, 686, 687, 688, 689, 971, 972, 973, 974, 690, 691, 692, 693, 110] (by decide +kernel)
set_option maxRecDepth 100000 in
theorem tb_r33 : ∀ w ∈ wsL_law_r33, w ∈ lw_tbl := mem_r _ [113, 694, 695, 696, 697, 975, 976, 977, 978, 698, 699, 700, 701, 979, 980, 981, 982] (by decide +kernel)
theorem tb_c0 : ∀ w ∈ wsX00, w ∈ lw_tbl := mem_r _ [247, 249, 251] (by decide +kernel)
theorem tb_c1 : ∀ w ∈ wsX10, w ∈ lw_tbl := mem_r _ [188, 190, 192, 194, 196, 198] (by decide +kernel)
theorem tb_c2 : ∀ w ∈ wsX20, w ∈ lw_tbl := mem_r _ [125, 127, 129, 131, 133, 135, 137, 139, 141] (by decide +kernel)
theorem tb_c3 : ∀ w ∈ wsX30, w ∈ lw_tbl := mem_r _ [153, 155, 157, 159, 161, 163] (by decide +kernel)
theorem tb_c4 : ∀ w ∈ wsX40, w ∈ lw_tbl := mem_r _ [88, 90] (by decide +kernel)
theorem tb_c5 : ∀ w ∈ wsX50, w ∈ lw_tbl := mem_r _ [217, 219, 221, 223, 225, 227, 229, 231, 233] (by decide +kernel)
theorem tb_c6 : ∀ w ∈ wsX60, w ∈ lw_tbl := mem_r _ [263, 265, 267, 269, 271, 273, 275, 277, 279] (by decide +kernel)
theorem tb_c7 : ∀ w ∈ wsX70, w ∈ lw_tbl := mem_r _ [782, 784, 786, 788, 790, 792, 794, 796, 798, 800, 802, 804, 806, 808, 810, 812, 814, 816, 818] (by decide +kernel)
