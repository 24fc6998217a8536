theorem mem_r {big ws : List Cond} (ps : List Nat) (h : ws = ps.filterMap (fun i => big[i]?)) : ∀ w ∈ ws, w ∈ big := by
  intro w hw
  rw [h] at hw
  obtain ⟨i, -, hi⟩ := List.mem_filterMap.mp hw
  exact List.mem_of_getElem? hi
theorem mem_a {P : Cond → Prop} {a b : List Cond} (h1 : ∀ w ∈ a, P w) (h2 : ∀ w ∈ b, P w) : ∀ w ∈ a ++ b, P w := fun w h => (List.mem_append.mp h).elim (h1 w) (h2 w)
set_option maxRecDepth 20000 in
theorem inLr1 : ∀ w ∈ wsL_law_r1, w ∈ lw_tbl := mem_r [84, 85, 72, 702, 703, 80, 86, 87, 88, 89, 90, 91, 92, 93, 73, 276, 107, 108, 74, 277, 124, 125, 75, 278] rfl
set_option maxRecDepth 20000 in
theorem inLr2 : ∀ w ∈ wsL_law_r2, w ∈ lw_tbl := mem_r [254, 255, 79, 279, 274, 201, 78, 280, 95, 96, 97, 106, 98, 110, 111, 112, 123, 113, 126, 127, 128, 129, 130, 131] rfl
set_option maxRecDepth 20000 in
theorem inLr3 : ∀ w ∈ wsL_law_r3, w ∈ lw_tbl := mem_r [76, 231, 165, 233, 234, 235, 236, 166, 167, 77, 237, 199, 238, 132, 133, 134, 135, 136, 139, 140, 150, 169, 170, 171] rfl
set_option maxRecDepth 20000 in
theorem inLr4 : ∀ w ∈ wsL_law_r4, w ∈ lw_tbl := mem_r [172, 203, 204, 205, 256, 257, 258, 259, 260, 263, 262, 704, 705, 706, 707, 708, 709, 710, 712, 713, 715, 717, 719, 720] rfl
set_option maxRecDepth 20000 in
theorem inLr5 : ∀ w ∈ wsL_law_r5, w ∈ lw_tbl := mem_r [721, 727, 728, 729, 730, 731, 732, 733, 734, 735, 736, 739, 740, 741, 301, 302, 303, 304, 100, 305, 307, 0, 308, 281] rfl
set_option maxRecDepth 20000 in
theorem inLr6 : ∀ w ∈ wsL_law_r6, w ∈ lw_tbl := mem_r [282, 283, 309, 310, 311, 312, 99, 811, 812, 813, 814, 714, 815, 816, 817, 818, 820, 23, 821, 313, 314, 315, 316, 822] rfl
set_option maxRecDepth 20000 in
theorem inLr7 : ∀ w ∈ wsL_law_r7, w ∈ lw_tbl := mem_r [823, 824, 825, 317, 318, 319, 320, 232, 142, 321, 322, 323, 324, 325, 326, 327, 328, 329, 330, 331, 332, 114, 333, 334] rfl
set_option maxRecDepth 20000 in
theorem inLr8 : ∀ w ∈ wsL_law_r8, w ∈ lw_tbl := mem_r [335, 336, 338, 339, 340, 341, 342, 343, 344, 345, 346, 347, 149, 348, 349, 81, 350, 217, 410, 411, 412, 351, 352, 353] rfl
set_option maxRecDepth 20000 in
theorem inLr9 : ∀ w ∈ wsL_law_r9, w ∈ lw_tbl := mem_r [354, 355, 356, 357, 358, 175, 206, 208, 210, 212, 115, 214, 177, 359, 361, 1, 362, 363, 364, 365, 366, 144, 367, 368] rfl
set_option maxRecDepth 20000 in
theorem inLr10 : ∀ w ∈ wsL_law_r10, w ∈ lw_tbl := mem_r [369, 370, 173, 174, 176, 178, 371, 373, 2, 374, 180, 182, 375, 376, 377, 378, 379, 380, 381, 382, 383, 385, 3, 386] rfl
set_option maxRecDepth 20000 in
theorem inLr11 : ∀ w ∈ wsL_law_r11, w ∈ lw_tbl := mem_r [387, 389, 4, 390, 391, 393, 5, 394, 395, 396, 397, 398, 399, 400, 401, 402, 403, 404, 82, 405, 406, 407, 83, 408] rfl
set_option maxRecDepth 20000 in
theorem inLr12 : ∀ w ∈ wsL_law_r12, w ∈ lw_tbl := mem_r [409, 413, 414, 415, 416, 417, 418, 419, 420, 421, 422, 145, 423, 424, 425, 426, 427, 428, 429, 430, 264, 265, 441, 431] rfl
set_option maxRecDepth 20000 in
theorem inLr13 : ∀ w ∈ wsL_law_r13, w ∈ lw_tbl := mem_r [432, 433, 434, 141, 147, 435, 436, 437, 438, 439, 440, 442, 443, 444, 445, 446, 447, 448, 449, 450, 451, 452, 453, 454] rfl
set_option maxRecDepth 20000 in
theorem inLr14 : ∀ w ∈ wsL_law_r14, w ∈ lw_tbl := mem_r [455, 457, 6, 458, 151, 459, 460, 461, 462, 463, 464, 465, 466, 143, 467, 469, 7, 470, 471, 473, 8, 474, 475, 477] rfl
set_option maxRecDepth 20000 in
theorem inLr15 : ∀ w ∈ wsL_law_r15, w ∈ lw_tbl := mem_r [9, 478, 479, 480, 481, 482, 826, 827, 828, 829, 830, 832, 24, 833, 716, 834, 835, 836, 837, 839, 25, 840, 841, 843] rfl
set_option maxRecDepth 20000 in
theorem inLr16 : ∀ w ∈ wsL_law_r16, w ∈ lw_tbl := mem_r [26, 844, 845, 847, 27, 848, 849, 851, 28, 852, 853, 855, 29, 856, 857, 859, 30, 860, 861, 863, 31, 864, 865, 867] rfl
set_option maxRecDepth 20000 in
theorem inLr17 : ∀ w ∈ wsL_law_r17, w ∈ lw_tbl := mem_r [32, 868, 869, 871, 33, 872, 873, 875, 34, 876, 877, 879, 35, 880, 881, 883, 36, 884, 885, 887, 37, 888, 723, 724] rfl
set_option maxRecDepth 20000 in
theorem inLr18 : ∀ w ∈ wsL_law_r18, w ∈ lw_tbl := mem_r [725, 726, 889, 891, 38, 892, 893, 895, 39, 896, 722, 718, 897, 899, 40, 900, 901, 903, 41, 904, 905, 907, 42, 908] rfl
set_option maxRecDepth 20000 in
theorem inLr19 : ∀ w ∈ wsL_law_r19, w ∈ lw_tbl := mem_r [909, 911, 43, 912, 913, 915, 44, 916, 917, 919, 45, 920, 921, 923, 46, 924, 925, 927, 47, 928, 711, 483, 484, 485] rfl
set_option maxRecDepth 20000 in
theorem inLr20 : ∀ w ∈ wsL_law_r20, w ∈ lw_tbl := mem_r [486, 487, 488, 489, 490, 491, 492, 493, 494, 495, 497, 10, 498, 499, 501, 11, 502, 503, 504, 505, 506, 507, 509, 12] rfl
set_option maxRecDepth 20000 in
theorem inLr21 : ∀ w ∈ wsL_law_r21, w ∈ lw_tbl := mem_r [510, 929, 930, 931, 932, 933, 935, 48, 936, 937, 939, 49, 940, 511, 512, 513, 514, 515, 516, 517, 518, 519, 520, 521] rfl
set_option maxRecDepth 20000 in
theorem inLr22 : ∀ w ∈ wsL_law_r22, w ∈ lw_tbl := mem_r [522, 523, 524, 525, 526, 527, 528, 529, 530, 531, 532, 941, 942, 943, 944, 945, 947, 50, 948, 949, 951, 51, 952, 533] rfl
set_option maxRecDepth 20000 in
theorem inLr23 : ∀ w ∈ wsL_law_r23, w ∈ lw_tbl := mem_r [534, 535, 536, 537, 538, 540, 13, 541, 549, 542, 543, 544, 545, 546, 547, 548, 550, 953, 954, 955, 956, 957, 964, 958] rfl
set_option maxRecDepth 20000 in
theorem inLr24 : ∀ w ∈ wsL_law_r24, w ∈ lw_tbl := mem_r [959, 960, 961, 962, 963, 551, 552, 553, 554, 146, 555, 556, 557, 558, 559, 561, 14, 562, 563, 564, 965, 966, 967, 968] rfl
set_option maxRecDepth 20000 in
theorem inLr25 : ∀ w ∈ wsL_law_r25, w ∈ lw_tbl := mem_r [969, 971, 52, 972, 973, 975, 53, 976, 565, 566, 567, 568, 569, 570, 571, 572, 977, 978, 979, 980, 573, 574, 575, 576] rfl
set_option maxRecDepth 20000 in
theorem inLr26 : ∀ w ∈ wsL_law_r26, w ∈ lw_tbl := mem_r [577, 578, 579, 580, 981, 982, 983, 984, 985, 987, 54, 988, 581, 582, 583, 584, 148, 207, 209, 211, 213, 215, 216, 585] rfl
set_option maxRecDepth 20000 in
theorem inLr27 : ∀ w ∈ wsL_law_r27, w ∈ lw_tbl := mem_r [989, 990, 991, 992, 993, 995, 55, 996, 586, 587, 588, 589, 590, 591, 592, 593, 594, 997, 998, 999, 1000, 1001, 1003, 56] rfl
set_option maxRecDepth 20000 in
theorem inLr28 : ∀ w ∈ wsL_law_r28, w ∈ lw_tbl := mem_r [1004, 1005, 1007, 57, 1008, 1009, 1011, 58, 1012, 595, 596, 597, 598, 599, 600, 601, 602, 116, 603, 604, 606, 15, 607, 1013] rfl
set_option maxRecDepth 20000 in
theorem inLr29 : ∀ w ∈ wsL_law_r29, w ∈ lw_tbl := mem_r [1014, 1015, 1016, 1017, 1019, 59, 1020, 608, 609, 610, 611, 1021, 1022, 1023, 1024, 1025, 1027, 60, 1028, 612, 613, 614, 615, 117] rfl
set_option maxRecDepth 20000 in
theorem inLr30 : ∀ w ∈ wsL_law_r30, w ∈ lw_tbl := mem_r [616, 617, 618, 619, 620, 1029, 1030, 1031, 1032, 621, 622, 623, 624, 625, 1033, 1034, 1035, 1036, 626, 627, 628, 629, 630, 631] rfl
set_option maxRecDepth 20000 in
theorem inLr31 : ∀ w ∈ wsL_law_r31, w ∈ lw_tbl := mem_r [632, 633, 634, 636, 16, 637, 638, 640, 17, 641, 179, 642, 643, 644, 645, 646, 648, 18, 649, 1037, 1038, 1039, 1040, 1041] rfl
set_option maxRecDepth 20000 in
theorem inLr32 : ∀ w ∈ wsL_law_r32, w ∈ lw_tbl := mem_r [1043, 61, 1044, 738, 1045, 1047, 62, 1048, 1049, 1051, 63, 1052, 737, 1053, 1055, 64, 1056, 1057, 1059, 65, 1060, 650, 651, 652] rfl
set_option maxRecDepth 20000 in
theorem inLr33 : ∀ w ∈ wsL_law_r33, w ∈ lw_tbl := mem_r [653, 654, 655, 656, 657, 658, 181, 183, 1061, 1062, 1063, 1064, 1065, 1067, 66, 1068, 659, 660, 661, 662, 663, 664, 665, 666] rfl
set_option maxRecDepth 20000 in
theorem inLr34 : ∀ w ∈ wsL_law_r34, w ∈ lw_tbl := mem_r [667, 669, 19, 670, 671, 672, 674, 20, 675, 1069, 1070, 1071, 1072, 1073, 1075, 67, 1076, 1077, 1079, 68, 1080, 1081, 1083, 69] rfl
set_option maxRecDepth 20000 in
theorem inLr35 : ∀ w ∈ wsL_law_r35, w ∈ lw_tbl := mem_r [1084, 676, 677, 678, 679, 266, 680, 681, 682, 683, 1085, 1086, 1087, 1088, 684, 685, 686, 687, 688, 690, 21, 691, 1089, 1090] rfl
set_option maxRecDepth 20000 in
theorem inLr36 : ∀ w ∈ wsL_law_r36, w ∈ lw_tbl := mem_r [1091, 1092, 1093, 1095, 70, 1096, 692, 693, 694, 695, 696, 697, 698, 700, 22, 701, 1097, 1098, 1099, 1100, 1101, 1102] rfl
set_option maxRecDepth 20000 in
theorem inX0 : ∀ w ∈ wsX00, w ∈ lw_tbl := mem_r [239, 241, 243, 245, 247, 249, 251] rfl
set_option maxRecDepth 20000 in
theorem inX1 : ∀ w ∈ wsX10, w ∈ lw_tbl := mem_r [218, 220, 222, 224, 226, 228] rfl
set_option maxRecDepth 20000 in
theorem inX2 : ∀ w ∈ wsX20, w ∈ lw_tbl := mem_r [267, 269, 271] rfl
set_option maxRecDepth 20000 in
theorem inX3 : ∀ w ∈ wsX30, w ∈ lw_tbl := mem_r [152, 154, 156, 158, 160, 162] rfl
set_option maxRecDepth 20000 in
theorem inX4 : ∀ w ∈ wsX40, w ∈ lw_tbl := mem_r [101, 103] rfl
set_option maxRecDepth 20000 in
theorem inX5 : ∀ w ∈ wsX50, w ∈ lw_tbl := mem_r [184, 186, 188, 190, 192, 194, 196] rfl
set_option maxRecDepth 20000 in
theorem inX6 : ∀ w ∈ wsX60, w ∈ lw_tbl := mem_r [118, 120] rfl
set_option maxRecDepth 20000 in
theorem inX7 : ∀ w ∈ wsX70, w ∈ lw_tbl := mem_r [284, 286, 288, 290, 292, 294, 296, 298] rfl
set_option maxRecDepth 20000 in
theorem inX8 : ∀ w ∈ wsX80, w ∈ lw_tbl := mem_r [742, 744, 746, 748, 750, 752, 754, 756, 758, 760, 762, 764, 766, 768, 770, 772, 774, 776, 778, 780, 782, 784, 786, 788, 790, 792, 794, 796, 798, 800, 802, 804, 806, 808] rfl
theorem wsL_law_in : ∀ w ∈ wsL_law, w ∈ lw_tbl := mem_a (mem_a (mem_a (mem_a (mem_a (mem_a (mem_a (mem_a (mem_a (mem_a (mem_a inLr1 (mem_a inLr2 (mem_a inLr3 (mem_a inLr4 (mem_a inLr5 (mem_a inLr6 (mem_a inLr7 (mem_a inLr8 (mem_a inLr9 (mem_a inLr10 (mem_a inLr11 (mem_a inLr12 (mem_a inLr13 (mem_a inLr14 (mem_a inLr15 (mem_a inLr16 (mem_a inLr17 (mem_a inLr18 (mem_a inLr19 (mem_a inLr20 (mem_a inLr21 (mem_a inLr22 (mem_a inLr23 (mem_a inLr24 (mem_a inLr25 (mem_a inLr26 (mem_a inLr27 (mem_a inLr28 (mem_a inLr29 (mem_a inLr30 (mem_a inLr31 (mem_a inLr32 (mem_a inLr33 (mem_a inLr34 (mem_a inLr35 (inLr36)))))))))))))))))))))))))))))))))))) inX7) inX8) inX4) inX6) inX0) inX2) inX1) inX3) inX5) (fun _ h => absurd h List.not_mem_nil)
