theorem wl_pl {big ws : List Cond} (ps : List Nat) (h : ws = ps.filterMap (fun i => big[i]?)) : ∀ w ∈ ws, w ∈ big := by
  intro w hw
  rw [h] at hw
  obtain ⟨i, -, hi⟩ := List.mem_filterMap.mp hw
  exact List.mem_of_getElem? hi
theorem wl_app {big a b : List Cond} (ha : ∀ w ∈ a, w ∈ big) (hb : ∀ w ∈ b, w ∈ big) : ∀ w ∈ a ++ b, w ∈ big := fun w h => (List.mem_append.mp h).elim (ha w) (hb w)
set_option maxRecDepth 20000 in
theorem in_wsL_law_r1 : ∀ w ∈ wsL_law_r1, w ∈ lw_tbl := wl_pl [61, 62, 51, 573, 574, 57, 63, 64, 65, 66, 67, 68, 69, 70, 52, 181, 83, 84, 53, 182, 114, 115, 54, 183] (by decide +kernel)
set_option maxRecDepth 20000 in
theorem in_wsL_law_r2 : ∀ w ∈ wsL_law_r2, w ∈ lw_tbl := wl_pl [137, 138, 55, 184, 147, 148, 56, 185, 71, 72, 73, 74, 82, 75, 85, 86, 87, 88, 91, 92, 93, 94, 95, 96] (by decide +kernel)
set_option maxRecDepth 20000 in
theorem in_wsL_law_r3 : ∀ w ∈ wsL_law_r3, w ∈ lw_tbl := wl_pl [116, 117, 118, 119, 120, 121, 122, 136, 124, 139, 140, 141, 142, 143, 150, 151, 152, 575, 576, 577, 578, 580, 583, 584] (by decide +kernel)
set_option maxRecDepth 20000 in
theorem in_wsL_law_r4 : ∀ w ∈ wsL_law_r4, w ∈ lw_tbl := wl_pl [585, 586, 587, 588, 598, 599, 600, 602, 604, 212, 213, 214, 215, 216, 217, 218, 219, 76, 220, 221, 222, 223, 224, 225] (by decide +kernel)
set_option maxRecDepth 20000 in
theorem in_wsL_law_r5 : ∀ w ∈ wsL_law_r5, w ∈ lw_tbl := wl_pl [226, 227, 682, 683, 684, 685, 579, 686, 687, 688, 228, 229, 230, 231, 232, 233, 234, 235, 689, 690, 691, 692, 236, 237] (by decide +kernel)
set_option maxRecDepth 20000 in
theorem in_wsL_law_r6 : ∀ w ∈ wsL_law_r6, w ∈ lw_tbl := wl_pl [238, 239, 240, 241, 242, 243, 244, 246, 0, 247, 248, 249, 250, 251, 252, 253, 254, 255, 256, 258, 1, 259, 260, 262] (by decide +kernel)
set_option maxRecDepth 20000 in
theorem in_wsL_law_r7 : ∀ w ∈ wsL_law_r7, w ∈ lw_tbl := wl_pl [2, 263, 264, 265, 266, 267, 268, 269, 270, 271, 693, 694, 695, 696, 697, 699, 22, 700, 594, 595, 596, 701, 703, 23] (by decide +kernel)
set_option maxRecDepth 20000 in
theorem in_wsL_law_r8 : ∀ w ∈ wsL_law_r8, w ∈ lw_tbl := wl_pl [704, 705, 707, 24, 708, 597, 709, 711, 25, 712, 272, 273, 274, 275, 186, 276, 277, 278, 279, 280, 281, 282, 283, 284] (by decide +kernel)
set_option maxRecDepth 20000 in
theorem in_wsL_law_r9 : ∀ w ∈ wsL_law_r9, w ∈ lw_tbl := wl_pl [293, 294, 58, 295, 89, 285, 287, 3, 288, 90, 289, 290, 291, 292, 296, 297, 298, 299, 300, 301, 302, 304, 4, 305] (by decide +kernel)
set_option maxRecDepth 20000 in
theorem in_wsL_law_r10 : ∀ w ∈ wsL_law_r10, w ∈ lw_tbl := wl_pl [306, 307, 308, 309, 310, 312, 5, 313, 314, 316, 6, 317, 318, 319, 320, 321, 322, 323, 324, 325, 326, 327, 328, 329] (by decide +kernel)
set_option maxRecDepth 20000 in
theorem in_wsL_law_r11 : ∀ w ∈ wsL_law_r11, w ∈ lw_tbl := wl_pl [123, 330, 332, 7, 333, 334, 336, 8, 337, 338, 339, 340, 341, 713, 714, 715, 716, 581, 582, 589, 717, 719, 26, 720] (by decide +kernel)
set_option maxRecDepth 20000 in
theorem in_wsL_law_r12 : ∀ w ∈ wsL_law_r12, w ∈ lw_tbl := wl_pl [601, 721, 723, 27, 724, 725, 726, 727, 728, 342, 343, 344, 345, 346, 347, 348, 349, 350, 351, 352, 353, 354, 355, 356] (by decide +kernel)
set_option maxRecDepth 20000 in
theorem in_wsL_law_r13 : ∀ w ∈ wsL_law_r13, w ∈ lw_tbl := wl_pl [357, 729, 730, 731, 732, 358, 359, 360, 361, 366, 370, 362, 363, 364, 365, 367, 368, 369, 371, 372, 373, 374, 733, 734] (by decide +kernel)
set_option maxRecDepth 20000 in
theorem in_wsL_law_r14 : ∀ w ∈ wsL_law_r14, w ∈ lw_tbl := wl_pl [735, 736, 741, 745, 737, 739, 28, 740, 742, 743, 744, 376, 377, 378, 379, 380, 381, 382, 383, 384, 385, 386, 387, 388] (by decide +kernel)
set_option maxRecDepth 20000 in
theorem in_wsL_law_r15 : ∀ w ∈ wsL_law_r15, w ∈ lw_tbl := wl_pl [389, 390, 391, 746, 747, 748, 749, 750, 752, 29, 753, 754, 756, 30, 757, 758, 759, 760, 392, 393, 394, 395, 396, 397] (by decide +kernel)
set_option maxRecDepth 20000 in
theorem in_wsL_law_r16 : ∀ w ∈ wsL_law_r16, w ∈ lw_tbl := wl_pl [398, 399, 400, 761, 762, 763, 764, 603, 765, 767, 31, 768, 769, 771, 32, 772, 773, 775, 33, 776, 777, 779, 34, 780] (by decide +kernel)
set_option maxRecDepth 20000 in
theorem in_wsL_law_r17 : ∀ w ∈ wsL_law_r17, w ∈ lw_tbl := wl_pl [401, 402, 403, 404, 405, 406, 407, 408, 409, 410, 411, 412, 413, 414, 415, 416, 781, 782, 783, 784, 785, 787, 35, 788] (by decide +kernel)
set_option maxRecDepth 20000 in
theorem in_wsL_law_r18 : ∀ w ∈ wsL_law_r18, w ∈ lw_tbl := wl_pl [789, 791, 36, 792, 793, 795, 37, 796, 417, 418, 419, 420, 421, 422, 423, 424, 425, 426, 427, 428, 429, 430, 431, 433] (by decide +kernel)
set_option maxRecDepth 20000 in
theorem in_wsL_law_r19 : ∀ w ∈ wsL_law_r19, w ∈ lw_tbl := wl_pl [434, 435, 436, 437, 438, 59, 439, 440, 441, 442, 797, 798, 799, 800, 801, 802, 803, 804, 805, 806, 443, 444, 445, 446] (by decide +kernel)
set_option maxRecDepth 20000 in
theorem in_wsL_law_r20 : ∀ w ∈ wsL_law_r20, w ∈ lw_tbl := wl_pl [447, 807, 808, 809, 810, 448, 449, 450, 451, 452, 453, 454, 455, 811, 812, 813, 814, 457, 458, 459, 460, 461, 463, 9] (by decide +kernel)
set_option maxRecDepth 20000 in
theorem in_wsL_law_r21 : ∀ w ∈ wsL_law_r21, w ∈ lw_tbl := wl_pl [464, 815, 816, 817, 818, 819, 821, 38, 822, 465, 466, 467, 468, 469, 471, 10, 472, 153, 473, 475, 11, 476, 477, 478] (by decide +kernel)
set_option maxRecDepth 20000 in
theorem in_wsL_law_r22 : ∀ w ∈ wsL_law_r22, w ∈ lw_tbl := wl_pl [479, 480, 481, 154, 156, 158, 160, 162, 164, 482, 483, 485, 12, 486, 487, 488, 489, 490, 491, 60, 492, 493, 494, 495] (by decide +kernel)
set_option maxRecDepth 20000 in
theorem in_wsL_law_r23 : ∀ w ∈ wsL_law_r23, w ∈ lw_tbl := wl_pl [496, 498, 13, 499, 155, 157, 159, 161, 163, 165, 500, 501, 502, 503, 504, 506, 14, 507, 508, 510, 15, 511, 512, 513] (by decide +kernel)
set_option maxRecDepth 20000 in
theorem in_wsL_law_r24 : ∀ w ∈ wsL_law_r24, w ∈ lw_tbl := wl_pl [514, 515, 823, 824, 825, 826, 827, 829, 39, 830, 605, 606, 607, 608, 609, 611, 610, 831, 833, 40, 834, 835, 836, 838] (by decide +kernel)
set_option maxRecDepth 20000 in
theorem in_wsL_law_r25 : ∀ w ∈ wsL_law_r25, w ∈ lw_tbl := wl_pl [41, 839, 840, 842, 42, 843, 844, 846, 43, 847, 848, 849, 850, 516, 517, 518, 519, 520, 522, 16, 523, 851, 852, 853] (by decide +kernel)
set_option maxRecDepth 20000 in
theorem in_wsL_law_r26 : ∀ w ∈ wsL_law_r26, w ∈ lw_tbl := wl_pl [854, 855, 857, 44, 858, 524, 525, 526, 527, 187, 188, 189, 190, 859, 860, 861, 862, 863, 865, 45, 866, 590, 591, 592] (by decide +kernel)
set_option maxRecDepth 20000 in
theorem in_wsL_law_r27 : ∀ w ∈ wsL_law_r27, w ∈ lw_tbl := wl_pl [593, 528, 529, 530, 531, 532, 533, 534, 535, 536, 537, 538, 539, 540, 867, 868, 869, 870, 871, 873, 46, 874, 875, 877] (by decide +kernel)
set_option maxRecDepth 20000 in
theorem in_wsL_law_r28 : ∀ w ∈ wsL_law_r28, w ∈ lw_tbl := wl_pl [47, 878, 541, 542, 543, 544, 545, 546, 548, 17, 549, 550, 551, 552, 553, 554, 556, 18, 557, 558, 560, 19, 561, 562] (by decide +kernel)
set_option maxRecDepth 20000 in
theorem in_wsL_law_r29 : ∀ w ∈ wsL_law_r29, w ∈ lw_tbl := wl_pl [563, 565, 20, 566, 567, 568, 570, 21, 571, 572, 879, 880, 881, 882, 883, 612, 884, 886, 48, 887, 888, 889, 891, 49] (by decide +kernel)
set_option maxRecDepth 20000 in
theorem in_wsL_law_r30 : ∀ w ∈ wsL_law_r30, w ∈ lw_tbl := wl_pl [892] (by decide +kernel)
set_option maxRecDepth 20000 in
theorem in_wsX00 : ∀ w ∈ wsX00, w ∈ lw_tbl := wl_pl [144] (by decide +kernel)
set_option maxRecDepth 20000 in
theorem in_wsX10 : ∀ w ∈ wsX10, w ∈ lw_tbl := wl_pl [166, 168, 170, 172, 174, 176, 178] (by decide +kernel)
set_option maxRecDepth 20000 in
theorem in_wsX20 : ∀ w ∈ wsX20, w ∈ lw_tbl := wl_pl [97, 99, 101, 103, 105, 107, 109, 111] (by decide +kernel)
set_option maxRecDepth 20000 in
theorem in_wsX30 : ∀ w ∈ wsX30, w ∈ lw_tbl := wl_pl [125, 127, 129, 131, 133] (by decide +kernel)
set_option maxRecDepth 20000 in
theorem in_wsX40 : ∀ w ∈ wsX40, w ∈ lw_tbl := wl_pl [77, 79] (by decide +kernel)
set_option maxRecDepth 20000 in
theorem in_wsX50 : ∀ w ∈ wsX50, w ∈ lw_tbl := wl_pl [191, 193, 195, 197, 199, 201, 203, 205, 207, 209] (by decide +kernel)
set_option maxRecDepth 20000 in
theorem in_wsX60 : ∀ w ∈ wsX60, w ∈ lw_tbl := wl_pl [613, 615, 617, 619, 621, 623, 625, 627, 629, 631, 633, 635, 637, 639, 641, 643, 645, 647, 649, 651, 653, 655, 657, 659, 661, 663, 665, 667, 669, 671, 673, 675, 677, 679] (by decide +kernel)
theorem wsL_law_in : ∀ w ∈ wsL_law, w ∈ lw_tbl := wl_app (wl_app (wl_app (wl_app (wl_app (wl_app (wl_app (wl_app (wl_app in_wsL_law_r1 (wl_app in_wsL_law_r2 (wl_app in_wsL_law_r3 (wl_app in_wsL_law_r4 (wl_app in_wsL_law_r5 (wl_app in_wsL_law_r6 (wl_app in_wsL_law_r7 (wl_app in_wsL_law_r8 (wl_app in_wsL_law_r9 (wl_app in_wsL_law_r10 (wl_app in_wsL_law_r11 (wl_app in_wsL_law_r12 (wl_app in_wsL_law_r13 (wl_app in_wsL_law_r14 (wl_app in_wsL_law_r15 (wl_app in_wsL_law_r16 (wl_app in_wsL_law_r17 (wl_app in_wsL_law_r18 (wl_app in_wsL_law_r19 (wl_app in_wsL_law_r20 (wl_app in_wsL_law_r21 (wl_app in_wsL_law_r22 (wl_app in_wsL_law_r23 (wl_app in_wsL_law_r24 (wl_app in_wsL_law_r25 (wl_app in_wsL_law_r26 (wl_app in_wsL_law_r27 (wl_app in_wsL_law_r28 (wl_app in_wsL_law_r29 (in_wsL_law_r30)))))))))))))))))))))))))))))) in_wsX50) in_wsX60) in_wsX40) in_wsX20) in_wsX30) in_wsX00) in_wsX10) (fun _ h => absurd h List.not_mem_nil)
