/-! the law's words among the tables, by their places -/
theorem inapp {a b big : List Cond} (ha : ∀ w ∈ a, w ∈ big) (hb : ∀ w ∈ b, w ∈ big) : ∀ w ∈ a ++ b, w ∈ big := fun w h => (List.mem_append.mp h).elim (ha w) (hb w)
set_option maxRecDepth 20000 in
theorem wLi_1 : ∀ w ∈ wsL_law_r1, w ∈ lw_tbl := by
  intro w hw
  rw [show wsL_law_r1 = [61, 62, 47, 635, 636, 58, 63, 64, 65, 66, 67, 68, 69, 70, 48, 288, 97, 98, 49, 289, 113, 114, 50, 290].filterMap (fun i => lw_tbl[i]?) from by decide +kernel] at hw
  obtain ⟨i, -, hi⟩ := List.mem_filterMap.mp hw
  exact List.mem_of_getElem? hi
set_option maxRecDepth 20000 in
theorem wLi_2 : ∀ w ∈ wsL_law_r2, w ∈ lw_tbl := by
  intro w hw
  rw [show wsL_law_r2 = [146, 147, 51, 291, 206, 207, 53, 292, 216, 217, 54, 293, 233, 234, 55, 294, 251, 252, 56, 295, 265, 266, 57, 296].filterMap (fun i => lw_tbl[i]?) from by decide +kernel] at hw
  obtain ⟨i, -, hi⟩ := List.mem_filterMap.mp hw
  exact List.mem_of_getElem? hi
set_option maxRecDepth 20000 in
theorem wLi_3 : ∀ w ∈ wsL_law_r3, w ∈ lw_tbl := by
  intro w hw
  rw [show wsL_law_r3 = [297, 72, 73, 74, 96, 75, 77, 79, 100, 101, 102, 103, 116, 117, 118, 119, 121, 148, 149, 150, 151, 191, 192, 193].filterMap (fun i => lw_tbl[i]?) from by decide +kernel] at hw
  obtain ⟨i, -, hi⟩ := List.mem_filterMap.mp hw
  exact List.mem_of_getElem? hi
set_option maxRecDepth 20000 in
theorem wLi_4 : ∀ w ∈ wsL_law_r4, w ∈ lw_tbl := by
  intro w hw
  rw [show wsL_law_r4 = [205, 195, 152, 154, 0, 155, 156, 157, 158, 159, 160, 161, 52, 162, 163, 172, 165, 166, 167, 168, 169, 170, 174, 175].filterMap (fun i => lw_tbl[i]?) from by decide +kernel] at hw
  obtain ⟨i, -, hi⟩ := List.mem_filterMap.mp hw
  exact List.mem_of_getElem? hi
set_option maxRecDepth 20000 in
theorem wLi_5 : ∀ w ∈ wsL_law_r5, w ∈ lw_tbl := by
  intro w hw
  rw [show wsL_law_r5 = [176, 177, 179, 181, 1, 182, 190, 183, 184, 185, 186, 187, 188, 189, 209, 210, 211, 212, 219, 220, 221, 222, 223, 236].filterMap (fun i => lw_tbl[i]?) from by decide +kernel] at hw
  obtain ⟨i, -, hi⟩ := List.mem_filterMap.mp hw
  exact List.mem_of_getElem? hi
set_option maxRecDepth 20000 in
theorem wLi_6 : ∀ w ∈ wsL_law_r6, w ∈ lw_tbl := by
  intro w hw
  rw [show wsL_law_r6 = [237, 238, 239, 241, 253, 254, 255, 256, 261, 257, 258, 259, 260, 268, 269, 270, 271, 275, 273, 277, 637, 638, 639, 640].filterMap (fun i => lw_tbl[i]?) from by decide +kernel] at hw
  obtain ⟨i, -, hi⟩ := List.mem_filterMap.mp hw
  exact List.mem_of_getElem? hi
set_option maxRecDepth 20000 in
theorem wLi_7 : ∀ w ∈ wsL_law_r7, w ∈ lw_tbl := by
  intro w hw
  rw [show wsL_law_r7 = [641, 642, 643, 644, 647, 648, 650, 652, 653, 657, 662, 663, 664, 665, 732, 666, 667, 668, 319, 320, 321, 322, 323, 324].filterMap (fun i => lw_tbl[i]?) from by decide +kernel] at hw
  obtain ⟨i, -, hi⟩ := List.mem_filterMap.mp hw
  exact List.mem_of_getElem? hi
set_option maxRecDepth 20000 in
theorem wLi_8 : ∀ w ∈ wsL_law_r8, w ∈ lw_tbl := by
  intro w hw
  rw [show wsL_law_r8 = [325, 326, 327, 733, 734, 735, 736, 758, 737, 738, 739, 740, 741, 742, 743, 744, 746, 12, 747, 748, 749, 750, 751, 752].filterMap (fun i => lw_tbl[i]?) from by decide +kernel] at hw
  obtain ⟨i, -, hi⟩ := List.mem_filterMap.mp hw
  exact List.mem_of_getElem? hi
set_option maxRecDepth 20000 in
theorem wLi_9 : ∀ w ∈ wsL_law_r9, w ∈ lw_tbl := by
  intro w hw
  rw [show wsL_law_r9 = [753, 754, 755, 756, 757, 328, 329, 330, 331, 332, 333, 334, 335, 759, 760, 761, 762, 645, 336, 337, 338, 339, 340, 341].filterMap (fun i => lw_tbl[i]?) from by decide +kernel] at hw
  obtain ⟨i, -, hi⟩ := List.mem_filterMap.mp hw
  exact List.mem_of_getElem? hi
set_option maxRecDepth 20000 in
theorem wLi_10 : ∀ w ∈ wsL_law_r10, w ∈ lw_tbl := by
  intro w hw
  rw [show wsL_law_r10 = [342, 343, 105, 763, 764, 765, 766, 767, 768, 651, 344, 345, 346, 347, 348, 349, 350, 351, 769, 770, 771, 772, 352, 353].filterMap (fun i => lw_tbl[i]?) from by decide +kernel] at hw
  obtain ⟨i, -, hi⟩ := List.mem_filterMap.mp hw
  exact List.mem_of_getElem? hi
set_option maxRecDepth 20000 in
theorem wLi_11 : ∀ w ∈ wsL_law_r11, w ∈ lw_tbl := by
  intro w hw
  rw [show wsL_law_r11 = [354, 355, 356, 357, 358, 359, 360, 361, 362, 363, 364, 365, 367, 368, 369, 773, 774, 775, 776, 654, 777, 779, 13, 780].filterMap (fun i => lw_tbl[i]?) from by decide +kernel] at hw
  obtain ⟨i, -, hi⟩ := List.mem_filterMap.mp hw
  exact List.mem_of_getElem? hi
set_option maxRecDepth 20000 in
theorem wLi_12 : ∀ w ∈ wsL_law_r12, w ∈ lw_tbl := by
  intro w hw
  rw [show wsL_law_r12 = [781, 782, 787, 788, 783, 785, 14, 786, 789, 791, 15, 792, 371, 372, 373, 374, 375, 376, 377, 378, 125, 379, 381, 2].filterMap (fun i => lw_tbl[i]?) from by decide +kernel] at hw
  obtain ⟨i, -, hi⟩ := List.mem_filterMap.mp hw
  exact List.mem_of_getElem? hi
set_option maxRecDepth 20000 in
theorem wLi_13 : ∀ w ∈ wsL_law_r13, w ∈ lw_tbl := by
  intro w hw
  rw [show wsL_law_r13 = [382, 123, 127, 129, 131, 383, 384, 385, 386, 80, 83, 387, 388, 389, 391, 3, 392, 393, 394, 395, 396, 397, 398, 399].filterMap (fun i => lw_tbl[i]?) from by decide +kernel] at hw
  obtain ⟨i, -, hi⟩ := List.mem_filterMap.mp hw
  exact List.mem_of_getElem? hi
set_option maxRecDepth 20000 in
theorem wLi_14 : ∀ w ∈ wsL_law_r14, w ∈ lw_tbl := by
  intro w hw
  rw [show wsL_law_r14 = [400, 401, 402, 403, 404, 405, 406, 407, 415, 416, 59, 417, 408, 410, 4, 411, 412, 413, 414, 418, 419, 420, 421, 422].filterMap (fun i => lw_tbl[i]?) from by decide +kernel] at hw
  obtain ⟨i, -, hi⟩ := List.mem_filterMap.mp hw
  exact List.mem_of_getElem? hi
set_option maxRecDepth 20000 in
theorem wLi_15 : ∀ w ∈ wsL_law_r15, w ∈ lw_tbl := by
  intro w hw
  rw [show wsL_law_r15 = [423, 424, 425, 426, 427, 428, 429, 430, 431, 432, 434, 5, 435, 436, 793, 794, 795, 796, 797, 658, 659, 655, 798, 800].filterMap (fun i => lw_tbl[i]?) from by decide +kernel] at hw
  obtain ⟨i, -, hi⟩ := List.mem_filterMap.mp hw
  exact List.mem_of_getElem? hi
set_option maxRecDepth 20000 in
theorem wLi_16 : ∀ w ∈ wsL_law_r16, w ∈ lw_tbl := by
  intro w hw
  rw [show wsL_law_r16 = [16, 801, 802, 804, 17, 805, 646, 806, 807, 809, 18, 810, 660, 661, 811, 813, 19, 814, 815, 816, 818, 20, 819, 820].filterMap (fun i => lw_tbl[i]?) from by decide +kernel] at hw
  obtain ⟨i, -, hi⟩ := List.mem_filterMap.mp hw
  exact List.mem_of_getElem? hi
set_option maxRecDepth 20000 in
theorem wLi_17 : ∀ w ∈ wsL_law_r17, w ∈ lw_tbl := by
  intro w hw
  rw [show wsL_law_r17 = [822, 21, 823, 656, 824, 826, 22, 827, 828, 830, 23, 831, 832, 834, 24, 835, 836, 838, 25, 839, 840, 841, 842, 843].filterMap (fun i => lw_tbl[i]?) from by decide +kernel] at hw
  obtain ⟨i, -, hi⟩ := List.mem_filterMap.mp hw
  exact List.mem_of_getElem? hi
set_option maxRecDepth 20000 in
theorem wLi_18 : ∀ w ∈ wsL_law_r18, w ∈ lw_tbl := by
  intro w hw
  rw [show wsL_law_r18 = [845, 26, 846, 847, 848, 849, 850, 851, 852, 853, 855, 27, 856, 857, 859, 28, 860, 437, 438, 439, 440, 441, 861, 862].filterMap (fun i => lw_tbl[i]?) from by decide +kernel] at hw
  obtain ⟨i, -, hi⟩ := List.mem_filterMap.mp hw
  exact List.mem_of_getElem? hi
set_option maxRecDepth 20000 in
theorem wLi_19 : ∀ w ∈ wsL_law_r19, w ∈ lw_tbl := by
  intro w hw
  rw [show wsL_law_r19 = [863, 864, 865, 866, 868, 29, 869, 442, 443, 444, 445, 446, 447, 448, 449, 450, 451, 452, 453, 870, 871, 872, 873, 874].filterMap (fun i => lw_tbl[i]?) from by decide +kernel] at hw
  obtain ⟨i, -, hi⟩ := List.mem_filterMap.mp hw
  exact List.mem_of_getElem? hi
set_option maxRecDepth 20000 in
theorem wLi_20 : ∀ w ∈ wsL_law_r20, w ∈ lw_tbl := by
  intro w hw
  rw [show wsL_law_r20 = [876, 30, 877, 878, 880, 31, 881, 882, 884, 32, 885, 454, 455, 456, 457, 886, 887, 888, 889, 458, 459, 460, 461, 462].filterMap (fun i => lw_tbl[i]?) from by decide +kernel] at hw
  obtain ⟨i, -, hi⟩ := List.mem_filterMap.mp hw
  exact List.mem_of_getElem? hi
set_option maxRecDepth 20000 in
theorem wLi_21 : ∀ w ∈ wsL_law_r21, w ∈ lw_tbl := by
  intro w hw
  rw [show wsL_law_r21 = [890, 891, 892, 893, 463, 464, 465, 466, 467, 468, 469, 470, 471, 472, 474, 6, 475, 894, 895, 896, 897, 898, 900, 33].filterMap (fun i => lw_tbl[i]?) from by decide +kernel] at hw
  obtain ⟨i, -, hi⟩ := List.mem_filterMap.mp hw
  exact List.mem_of_getElem? hi
set_option maxRecDepth 20000 in
theorem wLi_22 : ∀ w ∈ wsL_law_r22, w ∈ lw_tbl := by
  intro w hw
  rw [show wsL_law_r22 = [901, 902, 904, 34, 905, 906, 908, 35, 909, 476, 477, 478, 479, 480, 481, 482, 483, 484, 485, 487, 7, 488, 489, 490].filterMap (fun i => lw_tbl[i]?) from by decide +kernel] at hw
  obtain ⟨i, -, hi⟩ := List.mem_filterMap.mp hw
  exact List.mem_of_getElem? hi
set_option maxRecDepth 20000 in
theorem wLi_23 : ∀ w ∈ wsL_law_r23, w ∈ lw_tbl := by
  intro w hw
  rw [show wsL_law_r23 = [491, 492, 493, 494, 910, 911, 912, 913, 914, 915, 916, 917, 919, 36, 920, 921, 922, 923, 495, 496, 497, 498, 499, 500].filterMap (fun i => lw_tbl[i]?) from by decide +kernel] at hw
  obtain ⟨i, -, hi⟩ := List.mem_filterMap.mp hw
  exact List.mem_of_getElem? hi
set_option maxRecDepth 20000 in
theorem wLi_24 : ∀ w ∈ wsL_law_r24, w ∈ lw_tbl := by
  intro w hw
  rw [show wsL_law_r24 = [501, 502, 503, 504, 506, 8, 507, 924, 925, 926, 927, 928, 929, 930, 508, 509, 510, 511, 512, 513, 60, 514, 516, 517].filterMap (fun i => lw_tbl[i]?) from by decide +kernel] at hw
  obtain ⟨i, -, hi⟩ := List.mem_filterMap.mp hw
  exact List.mem_of_getElem? hi
set_option maxRecDepth 20000 in
theorem wLi_25 : ∀ w ∈ wsL_law_r25, w ∈ lw_tbl := by
  intro w hw
  rw [show wsL_law_r25 = [518, 519, 520, 521, 522, 523, 524, 525, 526, 527, 528, 529, 530, 931, 932, 933, 934, 935, 936, 937, 938, 939, 940, 941].filterMap (fun i => lw_tbl[i]?) from by decide +kernel] at hw
  obtain ⟨i, -, hi⟩ := List.mem_filterMap.mp hw
  exact List.mem_of_getElem? hi
set_option maxRecDepth 20000 in
theorem wLi_26 : ∀ w ∈ wsL_law_r26, w ∈ lw_tbl := by
  intro w hw
  rw [show wsL_law_r26 = [942, 943, 944, 945, 946, 947, 948, 949, 950, 951, 952, 953, 954, 955, 956, 957, 531, 532, 533, 534, 535, 536, 537, 538].filterMap (fun i => lw_tbl[i]?) from by decide +kernel] at hw
  obtain ⟨i, -, hi⟩ := List.mem_filterMap.mp hw
  exact List.mem_of_getElem? hi
set_option maxRecDepth 20000 in
theorem wLi_27 : ∀ w ∈ wsL_law_r27, w ∈ lw_tbl := by
  intro w hw
  rw [show wsL_law_r27 = [224, 958, 959, 960, 961, 649, 539, 540, 541, 542, 543, 544, 545, 546, 962, 963, 964, 965, 547, 548, 549, 550, 551, 552].filterMap (fun i => lw_tbl[i]?) from by decide +kernel] at hw
  obtain ⟨i, -, hi⟩ := List.mem_filterMap.mp hw
  exact List.mem_of_getElem? hi
set_option maxRecDepth 20000 in
theorem wLi_28 : ∀ w ∈ wsL_law_r28, w ∈ lw_tbl := by
  intro w hw
  rw [show wsL_law_r28 = [553, 554, 242, 555, 556, 557, 558, 559, 560, 966, 967, 968, 969, 970, 972, 37, 973, 561, 562, 563, 564, 565, 566, 567].filterMap (fun i => lw_tbl[i]?) from by decide +kernel] at hw
  obtain ⟨i, -, hi⟩ := List.mem_filterMap.mp hw
  exact List.mem_of_getElem? hi
set_option maxRecDepth 20000 in
theorem wLi_29 : ∀ w ∈ wsL_law_r29, w ∈ lw_tbl := by
  intro w hw
  rw [show wsL_law_r29 = [568, 569, 570, 571, 572, 575, 576, 577, 573, 578, 579, 974, 975, 976, 977, 978, 980, 38, 981, 580, 581, 582, 583, 584].filterMap (fun i => lw_tbl[i]?) from by decide +kernel] at hw
  obtain ⟨i, -, hi⟩ := List.mem_filterMap.mp hw
  exact List.mem_of_getElem? hi
set_option maxRecDepth 20000 in
theorem wLi_30 : ∀ w ∈ wsL_law_r30, w ∈ lw_tbl := by
  intro w hw
  rw [show wsL_law_r30 = [982, 983, 984, 985, 986, 988, 39, 989, 585, 586, 587, 588, 589, 590, 591, 592, 593, 594, 595, 596, 597, 598, 599, 600].filterMap (fun i => lw_tbl[i]?) from by decide +kernel] at hw
  obtain ⟨i, -, hi⟩ := List.mem_filterMap.mp hw
  exact List.mem_of_getElem? hi
set_option maxRecDepth 20000 in
theorem wLi_31 : ∀ w ∈ wsL_law_r31, w ∈ lw_tbl := by
  intro w hw
  rw [show wsL_law_r31 = [990, 991, 992, 993, 994, 995, 996, 997, 998, 1000, 40, 1001, 1002, 1004, 41, 1005, 601, 602, 603, 604, 605, 607, 9, 608].filterMap (fun i => lw_tbl[i]?) from by decide +kernel] at hw
  obtain ⟨i, -, hi⟩ := List.mem_filterMap.mp hw
  exact List.mem_of_getElem? hi
set_option maxRecDepth 20000 in
theorem wLi_32 : ∀ w ∈ wsL_law_r32, w ∈ lw_tbl := by
  intro w hw
  rw [show wsL_law_r32 = [609, 610, 611, 612, 279, 613, 614, 615, 616, 617, 1006, 1007, 1008, 1009, 669, 670, 1010, 1012, 42, 1013, 1014, 1016, 43, 1017].filterMap (fun i => lw_tbl[i]?) from by decide +kernel] at hw
  obtain ⟨i, -, hi⟩ := List.mem_filterMap.mp hw
  exact List.mem_of_getElem? hi
set_option maxRecDepth 20000 in
theorem wLi_33 : ∀ w ∈ wsL_law_r33, w ∈ lw_tbl := by
  intro w hw
  rw [show wsL_law_r33 = [1018, 1020, 44, 1021, 618, 619, 620, 621, 622, 1022, 1023, 1024, 1025, 623, 624, 625, 626, 627, 629, 10, 630, 631, 633, 11].filterMap (fun i => lw_tbl[i]?) from by decide +kernel] at hw
  obtain ⟨i, -, hi⟩ := List.mem_filterMap.mp hw
  exact List.mem_of_getElem? hi
set_option maxRecDepth 20000 in
theorem wLi_34 : ∀ w ∈ wsL_law_r34, w ∈ lw_tbl := by
  intro w hw
  rw [show wsL_law_r34 = [634, 1026, 1027, 1028, 1029, 1030, 1031, 1032, 1034, 45, 1035].filterMap (fun i => lw_tbl[i]?) from by decide +kernel] at hw
  obtain ⟨i, -, hi⟩ := List.mem_filterMap.mp hw
  exact List.mem_of_getElem? hi
set_option maxRecDepth 20000 in
theorem wLc_X11 : ∀ w ∈ wsX110, w ∈ lw_tbl := by
  intro w hw
  rw [show wsX110 = [298, 300, 302, 304, 306, 308, 310, 312, 314, 316].filterMap (fun i => lw_tbl[i]?) from by decide +kernel] at hw
  obtain ⟨i, -, hi⟩ := List.mem_filterMap.mp hw
  exact List.mem_of_getElem? hi
set_option maxRecDepth 20000 in
theorem wLc_X12 : ∀ w ∈ wsX120, w ∈ lw_tbl := by
  intro w hw
  rw [show wsX120 = [671, 673, 675, 677, 679, 681, 683, 685, 687, 689, 691, 693, 695, 697, 699, 701, 703, 705, 707, 709, 711, 713, 715, 717, 719, 721, 723, 725, 727, 729].filterMap (fun i => lw_tbl[i]?) from by decide +kernel] at hw
  obtain ⟨i, -, hi⟩ := List.mem_filterMap.mp hw
  exact List.mem_of_getElem? hi
set_option maxRecDepth 20000 in
theorem wLc_X9 : ∀ w ∈ wsX90, w ∈ lw_tbl := by
  intro w hw
  rw [show wsX90 = [85, 87, 89, 91, 93].filterMap (fun i => lw_tbl[i]?) from by decide +kernel] at hw
  obtain ⟨i, -, hi⟩ := List.mem_filterMap.mp hw
  exact List.mem_of_getElem? hi
set_option maxRecDepth 20000 in
theorem wLc_X5 : ∀ w ∈ wsX50, w ∈ lw_tbl := by
  intro w hw
  rw [show wsX50 = [108, 110].filterMap (fun i => lw_tbl[i]?) from by decide +kernel] at hw
  obtain ⟨i, -, hi⟩ := List.mem_filterMap.mp hw
  exact List.mem_of_getElem? hi
set_option maxRecDepth 20000 in
theorem wLc_X4 : ∀ w ∈ wsX40, w ∈ lw_tbl := by
  intro w hw
  rw [show wsX40 = [133, 135, 137, 139, 141, 143].filterMap (fun i => lw_tbl[i]?) from by decide +kernel] at hw
  obtain ⟨i, -, hi⟩ := List.mem_filterMap.mp hw
  exact List.mem_of_getElem? hi
set_option maxRecDepth 20000 in
theorem wLc_X6 : ∀ w ∈ wsX60, w ∈ lw_tbl := by
  intro w hw
  rw [show wsX60 = [196, 198, 200, 202].filterMap (fun i => lw_tbl[i]?) from by decide +kernel] at hw
  obtain ⟨i, -, hi⟩ := List.mem_filterMap.mp hw
  exact List.mem_of_getElem? hi
set_option maxRecDepth 20000 in
theorem wLc_X8 : ∀ w ∈ wsX80, w ∈ lw_tbl := by
  intro w hw
  rw [show wsX80 = [213].filterMap (fun i => lw_tbl[i]?) from by decide +kernel] at hw
  obtain ⟨i, -, hi⟩ := List.mem_filterMap.mp hw
  exact List.mem_of_getElem? hi
set_option maxRecDepth 20000 in
theorem wLc_X7 : ∀ w ∈ wsX70, w ∈ lw_tbl := by
  intro w hw
  rw [show wsX70 = [226, 228, 230].filterMap (fun i => lw_tbl[i]?) from by decide +kernel] at hw
  obtain ⟨i, -, hi⟩ := List.mem_filterMap.mp hw
  exact List.mem_of_getElem? hi
set_option maxRecDepth 20000 in
theorem wLc_X2 : ∀ w ∈ wsX20, w ∈ lw_tbl := by
  intro w hw
  rw [show wsX20 = [244, 246, 248].filterMap (fun i => lw_tbl[i]?) from by decide +kernel] at hw
  obtain ⟨i, -, hi⟩ := List.mem_filterMap.mp hw
  exact List.mem_of_getElem? hi
set_option maxRecDepth 20000 in
theorem wLc_X10 : ∀ w ∈ wsX100, w ∈ lw_tbl := by
  intro w hw
  rw [show wsX100 = [262].filterMap (fun i => lw_tbl[i]?) from by decide +kernel] at hw
  obtain ⟨i, -, hi⟩ := List.mem_filterMap.mp hw
  exact List.mem_of_getElem? hi
set_option maxRecDepth 20000 in
theorem wLc_X3 : ∀ w ∈ wsX30, w ∈ lw_tbl := by
  intro w hw
  rw [show wsX30 = [281, 283, 285].filterMap (fun i => lw_tbl[i]?) from by decide +kernel] at hw
  obtain ⟨i, -, hi⟩ := List.mem_filterMap.mp hw
  exact List.mem_of_getElem? hi
theorem wsL_law_in : ∀ w ∈ wsL_law, w ∈ lw_tbl := (inapp (inapp (inapp (inapp (inapp (inapp (inapp (inapp (inapp (inapp (inapp (inapp (inapp wLi_1 (inapp wLi_2 (inapp wLi_3 (inapp wLi_4 (inapp wLi_5 (inapp wLi_6 (inapp wLi_7 (inapp wLi_8 (inapp wLi_9 (inapp wLi_10 (inapp wLi_11 (inapp wLi_12 (inapp wLi_13 (inapp wLi_14 (inapp wLi_15 (inapp wLi_16 (inapp wLi_17 (inapp wLi_18 (inapp wLi_19 (inapp wLi_20 (inapp wLi_21 (inapp wLi_22 (inapp wLi_23 (inapp wLi_24 (inapp wLi_25 (inapp wLi_26 (inapp wLi_27 (inapp wLi_28 (inapp wLi_29 (inapp wLi_30 (inapp wLi_31 (inapp wLi_32 (inapp wLi_33 wLi_34))))))))))))))))))))))))))))))))) wLc_X11) wLc_X12) wLc_X9) wLc_X5) wLc_X4) wLc_X6) wLc_X8) wLc_X7) wLc_X2) wLc_X10) wLc_X3) (fun _ h => absurd h List.not_mem_nil))
