theorem mem_r {big : List Cond} (ws : List Cond) (ps : List Nat) (hp : ws = ps.filterMap (fun i => big[i]?)) : ∀ w ∈ ws, w ∈ big := by
  intro w hw
  rw [hp] at hw
  obtain ⟨i, -, hi⟩ := List.mem_filterMap.mp hw
  exact List.mem_of_getElem? hi
set_option maxRecDepth 100000 in
theorem tb_r1 : ∀ w ∈ wsL_law_r1, w ∈ lw_tbl := mem_r _ [60, 61, 45, 694, 695, 53, 975, 62, 63, 64, 65, 66, 67, 68, 69, 46, 250, 142, 251, 162, 91, 48, 252, 164] (by decide +kernel)
set_option maxRecDepth 100000 in
theorem tb_r2 : ∀ w ∈ wsL_law_r2, w ∈ lw_tbl := mem_r _ [165, 50, 253, 254, 232, 255, 198, 199, 51, 256, 233, 234, 52, 257, 258, 71, 72, 73, 74, 75, 47, 141, 90, 143] (by decide +kernel)
set_option maxRecDepth 100000 in
theorem tb_r3 : ∀ w ∈ wsL_law_r3, w ∈ lw_tbl := mem_r _ [145, 146, 147, 148, 77, 78, 79, 89, 80, 81, 92, 93, 94, 95, 99, 103, 107, 140, 110, 112, 115, 118, 119, 120] (by decide +kernel)
set_option maxRecDepth 100000 in
theorem tb_r4 : ∀ w ∈ wsL_law_r4, w ∈ lw_tbl := mem_r _ [96, 97, 49, 98, 163, 166, 167, 168, 169, 171, 173, 175, 177, 179, 181, 170, 201, 202, 203, 204, 205, 206, 207, 208] (by decide +kernel)
set_option maxRecDepth 100000 in
theorem tb_r5 : ∀ w ∈ wsL_law_r5, w ∈ lw_tbl := mem_r _ [209, 210, 211, 212, 236, 237, 238, 239, 241, 242, 696, 697, 698, 699, 756, 758, 759, 760, 761, 762, 767, 768, 769, 771] (by decide +kernel)
set_option maxRecDepth 100000 in
theorem tb_r6 : ∀ w ∈ wsL_law_r6, w ∈ lw_tbl := mem_r _ [772, 773, 700, 702, 21, 703, 763, 764, 704, 705, 706, 707, 709, 22, 710, 765, 766, 711, 713, 23, 714, 757, 715, 716] (by decide +kernel)
set_option maxRecDepth 100000 in
theorem tb_r7 : ∀ w ∈ wsL_law_r7, w ∈ lw_tbl := mem_r _ [717, 718, 720, 24, 721, 722, 723, 724, 725, 726, 727, 729, 25, 730, 731, 733, 26, 734, 735, 737, 27, 738, 739, 741] (by decide +kernel)
set_option maxRecDepth 100000 in
theorem tb_r8 : ∀ w ∈ wsL_law_r8, w ∈ lw_tbl := mem_r _ [28, 742, 743, 745, 29, 746, 747, 749, 30, 750, 751, 753, 31, 754, 278, 279, 280, 281, 82, 282, 283, 284, 285, 286] (by decide +kernel)
set_option maxRecDepth 100000 in
theorem tb_r9 : ∀ w ∈ wsL_law_r9, w ∈ lw_tbl := mem_r _ [287, 288, 813, 814, 815, 816, 817, 289, 290, 291, 292, 818, 819, 820, 821, 293, 294, 295, 296, 144, 297, 298, 299, 300] (by decide +kernel)
set_option maxRecDepth 100000 in
theorem tb_r10 : ∀ w ∈ wsL_law_r10, w ∈ lw_tbl := mem_r _ [301, 302, 303, 304, 305, 307, 0, 308, 83, 309, 310, 311, 312, 314, 315, 316, 317, 318, 319, 320, 321, 322, 324, 1] (by decide +kernel)
set_option maxRecDepth 100000 in
theorem tb_r11 : ∀ w ∈ wsL_law_r11, w ∈ lw_tbl := mem_r _ [325, 327, 328, 329, 330, 331, 332, 333, 54, 334, 976, 335, 336, 337, 338, 339, 977, 341, 342, 343, 344, 345, 346, 347] (by decide +kernel)
set_option maxRecDepth 100000 in
theorem tb_r12 : ∀ w ∈ wsL_law_r12, w ∈ lw_tbl := mem_r _ [348, 349, 350, 55, 351, 352, 353, 354, 355, 357, 358, 56, 359, 360, 361, 57, 362, 363, 364, 365, 366, 367, 368, 369] (by decide +kernel)
set_option maxRecDepth 100000 in
theorem tb_r13 : ∀ w ∈ wsL_law_r13, w ∈ lw_tbl := mem_r _ [370, 371, 372, 373, 375, 377, 379, 380, 382, 2, 383, 101, 384, 386, 3, 387, 389, 391, 4, 392, 393, 394, 395, 396] (by decide +kernel)
set_option maxRecDepth 100000 in
theorem tb_r14 : ∀ w ∈ wsL_law_r14, w ∈ lw_tbl := mem_r _ [398, 400, 5, 401, 105, 402, 403, 404, 405, 407, 409, 6, 410, 116, 412, 414, 7, 415, 108, 416, 417, 418, 419, 420] (by decide +kernel)
set_option maxRecDepth 100000 in
theorem tb_r15 : ∀ w ∈ wsL_law_r15, w ∈ lw_tbl := mem_r _ [421, 422, 423, 424, 426, 425, 58, 427, 428, 429, 430, 822, 823, 824, 825, 431, 432, 433, 434, 111, 435, 436, 437, 438] (by decide +kernel)
set_option maxRecDepth 100000 in
theorem tb_r16 : ∀ w ∈ wsL_law_r16, w ∈ lw_tbl := mem_r _ [826, 827, 828, 829, 830, 832, 32, 833, 440, 441, 442, 443, 114, 444, 445, 446, 447, 834, 835, 836, 837, 838, 840, 33] (by decide +kernel)
set_option maxRecDepth 100000 in
theorem tb_r17 : ∀ w ∈ wsL_law_r17, w ∈ lw_tbl := mem_r _ [841, 448, 449, 450, 451, 117, 452, 453, 454, 842, 843, 844, 845, 455, 456, 457, 458, 459, 460, 461, 462, 463, 464, 465] (by decide +kernel)
set_option maxRecDepth 100000 in
theorem tb_r18 : ∀ w ∈ wsL_law_r18, w ∈ lw_tbl := mem_r _ [466, 846, 847, 848, 849, 850, 852, 34, 853, 467, 468, 469, 470, 172, 471, 472, 473, 474, 854, 855, 856, 857, 475, 476] (by decide +kernel)
set_option maxRecDepth 100000 in
theorem tb_r19 : ∀ w ∈ wsL_law_r19, w ∈ lw_tbl := mem_r _ [477, 478, 858, 859, 860, 861, 479, 480, 481, 482, 174, 176, 178, 180, 862, 863, 864, 865, 483, 484, 485, 486, 487, 489] (by decide +kernel)
set_option maxRecDepth 100000 in
theorem tb_r20 : ∀ w ∈ wsL_law_r20, w ∈ lw_tbl := mem_r _ [8, 490, 496, 497, 59, 498, 491, 492, 493, 494, 495, 499, 500, 501, 502, 503, 866, 867, 868, 869, 870, 872, 35, 873] (by decide +kernel)
set_option maxRecDepth 100000 in
theorem tb_r21 : ∀ w ∈ wsL_law_r21, w ∈ lw_tbl := mem_r _ [874, 876, 36, 877, 504, 505, 506, 507, 183, 878, 879, 880, 881, 508, 509, 510, 511, 882, 883, 884, 885, 512, 513, 514] (by decide +kernel)
set_option maxRecDepth 100000 in
theorem tb_r22 : ∀ w ∈ wsL_law_r22, w ∈ lw_tbl := mem_r _ [515, 886, 887, 888, 889, 516, 517, 518, 519, 520, 521, 522, 523, 100, 104, 113, 524, 182, 525, 526, 527, 529, 9, 530] (by decide +kernel)
set_option maxRecDepth 100000 in
theorem tb_r23 : ∀ w ∈ wsL_law_r23, w ∈ lw_tbl := mem_r _ [531, 532, 533, 534, 535, 536, 537, 539, 10, 540, 541, 542, 543, 544, 545, 547, 11, 548, 549, 550, 552, 12, 553, 554] (by decide +kernel)
set_option maxRecDepth 100000 in
theorem tb_r24 : ∀ w ∈ wsL_law_r24, w ∈ lw_tbl := mem_r _ [556, 13, 557, 890, 891, 892, 893, 770, 894, 896, 37, 897, 898, 900, 38, 901, 902, 904, 39, 905, 558, 559, 560, 561] (by decide +kernel)
set_option maxRecDepth 100000 in
theorem tb_r25 : ∀ w ∈ wsL_law_r25, w ∈ lw_tbl := mem_r _ [102, 562, 563, 564, 565, 566, 567, 568, 569, 906, 907, 908, 909, 910, 911, 912, 570, 571, 572, 573, 574, 575, 576, 913] (by decide +kernel)
set_option maxRecDepth 100000 in
theorem tb_r26 : ∀ w ∈ wsL_law_r26, w ∈ lw_tbl := mem_r _ [914, 915, 916, 577, 578, 579, 580, 581, 583, 14, 584, 585, 586, 587, 588, 917, 918, 919, 920, 921, 923, 40, 924, 925] (by decide +kernel)
set_option maxRecDepth 100000 in
theorem tb_r27 : ∀ w ∈ wsL_law_r27, w ∈ lw_tbl := mem_r _ [927, 41, 928, 589, 590, 591, 592, 929, 930, 931, 932, 593, 594, 595, 596, 597, 598, 599, 600, 605, 606, 607, 601, 602] (by decide +kernel)
set_option maxRecDepth 100000 in
theorem tb_r28 : ∀ w ∈ wsL_law_r28, w ∈ lw_tbl := mem_r _ [603, 933, 934, 935, 936, 608, 609, 610, 611, 240, 612, 613, 614, 615, 616, 617, 618, 619, 620, 621, 622, 626, 623, 624] (by decide +kernel)
set_option maxRecDepth 100000 in
theorem tb_r29 : ∀ w ∈ wsL_law_r29, w ∈ lw_tbl := mem_r _ [625, 937, 938, 939, 940, 941, 943, 42, 944, 945, 947, 43, 948, 627, 628, 629, 630, 631, 632, 634, 15, 635, 636, 638] (by decide +kernel)
set_option maxRecDepth 100000 in
theorem tb_r30 : ∀ w ∈ wsL_law_r30, w ∈ lw_tbl := mem_r _ [16, 639, 640, 641, 642, 643, 644, 645, 647, 17, 648, 649, 650, 651, 652, 653, 654, 656, 18, 657, 658, 659, 661, 19] (by decide +kernel)
set_option maxRecDepth 100000 in
theorem tb_r31 : ∀ w ∈ wsL_law_r31, w ∈ lw_tbl := mem_r _ [662, 663, 664, 666, 20, 667, 668, 949, 950, 951, 952, 953, 755, 954, 955, 956, 957, 958, 669, 670, 671, 672, 673, 674] (by decide +kernel)
set_option maxRecDepth 100000 in
theorem tb_r32 : ∀ w ∈ wsL_law_r32, w ∈ lw_tbl := mem_r _ [675, 676, 677, 959, 960, 961, 962, 678, 679, 680, 681, 963, 964, 965, 966, 682, 683, 684, 685, 106, 109, 686, 687, 688] (by decide +kernel)
set_option maxRecDepth 100000 in
theorem tb_r33 : ∀ w ∈ wsL_law_r33, w ∈ lw_tbl := mem_r _ [689, 967, 968, 969, 970, 690, 691, 692, 693, 971, 972, 973, 974] (by decide +kernel)
theorem tb_c0 : ∀ w ∈ wsX00, w ∈ lw_tbl := mem_r _ [243, 245, 247] (by decide +kernel)
theorem tb_c1 : ∀ w ∈ wsX10, w ∈ lw_tbl := mem_r _ [184, 186, 188, 190, 192, 194] (by decide +kernel)
theorem tb_c2 : ∀ w ∈ wsX20, w ∈ lw_tbl := mem_r _ [121, 123, 125, 127, 129, 131, 133, 135, 137] (by decide +kernel)
theorem tb_c3 : ∀ w ∈ wsX30, w ∈ lw_tbl := mem_r _ [149, 151, 153, 155, 157, 159] (by decide +kernel)
theorem tb_c4 : ∀ w ∈ wsX40, w ∈ lw_tbl := mem_r _ [84, 86] (by decide +kernel)
theorem tb_c5 : ∀ w ∈ wsX50, w ∈ lw_tbl := mem_r _ [213, 215, 217, 219, 221, 223, 225, 227, 229] (by decide +kernel)
theorem tb_c6 : ∀ w ∈ wsX60, w ∈ lw_tbl := mem_r _ [259, 261, 263, 265, 267, 269, 271, 273, 275] (by decide +kernel)
theorem tb_c7 : ∀ w ∈ wsX70, w ∈ lw_tbl := mem_r _ [774, 776, 778, 780, 782, 784, 786, 788, 790, 792, 794, 796, 798, 800, 802, 804, 806, 808, 810] (by decide +kernel)
