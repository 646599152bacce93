/-! The law's words are the tables'. -/
theorem in_r {big ws : List Cond} (ps : List Nat) (hp : ws = ps.filterMap (fun i => big[i]?)) : ∀ w ∈ ws, w ∈ big := by
  intro w hw
  rw [hp] at hw
  obtain ⟨i, -, hi⟩ := List.mem_filterMap.mp hw
  exact List.mem_of_getElem? hi
set_option maxRecDepth 100000 in
set_option maxHeartbeats 4000000 in
theorem lwi_1 : ∀ w ∈ wsL_law0_r1, w ∈ lw_tbl := in_r [40, 41, 28, 563, 564, 31, 818, 42, 43, 44, 45, 46, 47, 48, 49, 29, 125, 88, 89, 30, 126, 87, 127, 128] rfl
set_option maxRecDepth 100000 in
set_option maxHeartbeats 4000000 in
theorem lwi_2 : ∀ w ∈ wsL_law0_r2, w ∈ lw_tbl := in_r [129, 51, 52, 53, 54, 55, 56, 57, 58, 60, 62, 64, 66, 91, 92, 93, 94, 96, 98, 99, 101, 102, 104, 106] rfl
set_option maxRecDepth 100000 in
set_option maxHeartbeats 4000000 in
theorem lwi_3 : ∀ w ∈ wsL_law0_r3, w ∈ lw_tbl := in_r [565, 566, 567, 568, 571, 573, 574, 575, 576, 577, 578, 579, 636, 580, 581, 582, 584, 585, 586, 587, 588, 589, 590, 569] rfl
set_option maxRecDepth 100000 in
set_option maxHeartbeats 4000000 in
theorem lwi_4 : ∀ w ∈ wsL_law0_r4, w ∈ lw_tbl := in_r [181, 182, 27, 183, 184, 185, 186, 187, 188, 189, 190, 266, 36, 288, 37, 191, 193, 0, 194, 195, 35, 67, 263, 264] rfl
set_option maxRecDepth 100000 in
set_option maxHeartbeats 4000000 in
theorem lwi_5 : ∀ w ∈ wsL_law0_r5, w ∈ lw_tbl := in_r [265, 284, 285, 286, 287, 304, 305, 306, 307, 308, 309, 310, 311, 316, 317, 38, 318, 319, 320, 321, 312, 313, 314, 315] rfl
set_option maxRecDepth 100000 in
set_option maxHeartbeats 4000000 in
theorem lwi_6 : ∀ w ∈ wsL_law0_r6, w ∈ lw_tbl := in_r [641, 642, 643, 644, 572, 645, 646, 647, 648, 650, 11, 651, 637, 638, 639, 640, 322, 323, 324, 325, 326, 327, 328, 63] rfl
set_option maxRecDepth 100000 in
set_option maxHeartbeats 4000000 in
theorem lwi_7 : ∀ w ∈ wsL_law0_r7, w ∈ lw_tbl := in_r [330, 331, 332, 333, 335, 336, 337, 338, 652, 653, 654, 655, 656, 658, 12, 659, 660, 662, 13, 663, 339, 340, 341, 342] rfl
set_option maxRecDepth 100000 in
set_option maxHeartbeats 4000000 in
theorem lwi_8 : ∀ w ∈ wsL_law0_r8, w ∈ lw_tbl := in_r [343, 344, 345, 61, 664, 665, 666, 667, 668, 669, 670, 346, 347, 348, 349, 350, 351, 352, 353, 354, 355, 671, 672, 673] rfl
set_option maxRecDepth 100000 in
set_option maxHeartbeats 4000000 in
theorem lwi_9 : ∀ w ∈ wsL_law0_r9, w ∈ lw_tbl := in_r [674, 675, 676, 677, 141, 142, 143, 144, 678, 679, 680, 681, 358, 359, 360, 361, 362, 363, 364, 367, 369, 2, 370, 371] rfl
set_option maxRecDepth 100000 in
set_option maxHeartbeats 4000000 in
theorem lwi_10 : ∀ w ∈ wsL_law0_r10, w ∈ lw_tbl := in_r [372, 373, 374, 375, 377, 3, 378, 59, 379, 380, 381, 382, 383, 384, 385, 387, 389, 4, 390, 391, 392, 393, 394, 395] rfl
set_option maxRecDepth 100000 in
set_option maxHeartbeats 4000000 in
theorem lwi_11 : ∀ w ∈ wsL_law0_r11, w ∈ lw_tbl := in_r [396, 397, 398, 399, 400, 401, 402, 403, 404, 405, 406, 407, 408, 411, 413, 5, 414, 415, 417, 6, 418, 419, 420, 421] rfl
set_option maxRecDepth 100000 in
set_option maxHeartbeats 4000000 in
theorem lwi_12 : ∀ w ∈ wsL_law0_r12, w ∈ lw_tbl := in_r [422, 423, 682, 683, 684, 685, 686, 688, 14, 689, 570, 583, 690, 692, 15, 693, 694, 696, 16, 697, 698, 699, 700, 701] rfl
set_option maxRecDepth 100000 in
set_option maxHeartbeats 4000000 in
theorem lwi_13 : ∀ w ∈ wsL_law0_r13, w ∈ lw_tbl := in_r [703, 17, 704, 705, 424, 425, 426, 427, 428, 429, 430, 433, 435, 7, 436, 105, 95, 97, 103, 100, 161, 162, 163, 164] rfl
set_option maxRecDepth 100000 in
set_option maxHeartbeats 4000000 in
theorem lwi_14 : ∀ w ∈ wsL_law0_r14, w ∈ lw_tbl := in_r [165, 166, 167, 168, 169, 170, 171, 172, 173, 174, 175, 176, 177, 178, 179, 180, 706, 707, 708, 709, 710, 712, 18, 713] rfl
set_option maxRecDepth 100000 in
set_option maxHeartbeats 4000000 in
theorem lwi_15 : ∀ w ∈ wsL_law0_r15, w ∈ lw_tbl := in_r [714, 716, 19, 717, 718, 720, 20, 721, 722, 724, 21, 725, 726, 728, 22, 729, 730, 732, 23, 733, 145, 146, 147, 148] rfl
set_option maxRecDepth 100000 in
set_option maxHeartbeats 4000000 in
theorem lwi_16 : ∀ w ∈ wsL_law0_r16, w ∈ lw_tbl := in_r [734, 735, 736, 737, 149, 150, 151, 152, 738, 739, 740, 741, 153, 154, 155, 156, 107, 742, 743, 744, 745, 437, 438, 439] rfl
set_option maxRecDepth 100000 in
set_option maxHeartbeats 4000000 in
theorem lwi_17 : ∀ w ∈ wsL_law0_r17, w ∈ lw_tbl := in_r [440, 441, 442, 443, 444, 446, 8, 447, 746, 747, 748, 749, 750, 752, 24, 753, 449, 450, 451, 452, 453, 454, 455, 456] rfl
set_option maxRecDepth 100000 in
set_option maxHeartbeats 4000000 in
theorem lwi_18 : ∀ w ∈ wsL_law0_r18, w ∈ lw_tbl := in_r [754, 755, 756, 757, 457, 458, 459, 460, 461, 462, 463, 464, 758, 759, 760, 761, 465, 466, 467, 468, 469, 470, 471, 762] rfl
set_option maxRecDepth 100000 in
set_option maxHeartbeats 4000000 in
theorem lwi_19 : ∀ w ∈ wsL_law0_r19, w ∈ lw_tbl := in_r [763, 764, 765, 157, 158, 159, 160, 766, 767, 768, 769, 472, 473, 474, 475, 476, 477, 478, 770, 771, 772, 773, 480, 481] rfl
set_option maxRecDepth 100000 in
set_option maxHeartbeats 4000000 in
theorem lwi_20 : ∀ w ∈ wsL_law0_r20, w ∈ lw_tbl := in_r [482, 483, 484, 485, 486, 774, 775, 776, 777, 487, 488, 489, 490, 491, 492, 493, 778, 779, 780, 781, 494, 495, 496, 497] rfl
set_option maxRecDepth 100000 in
set_option maxHeartbeats 4000000 in
theorem lwi_21 : ∀ w ∈ wsL_law0_r21, w ∈ lw_tbl := in_r [498, 499, 500, 782, 783, 784, 785, 501, 502, 503, 504, 505, 506, 507, 65, 786, 787, 788, 789, 790, 792, 25, 793, 508] rfl
set_option maxRecDepth 100000 in
set_option maxHeartbeats 4000000 in
theorem lwi_22 : ∀ w ∈ wsL_law0_r22, w ∈ lw_tbl := in_r [509, 510, 511, 512, 513, 514, 515, 517, 9, 518, 519, 520, 521, 522, 794, 795, 796, 797, 798, 800, 26, 801, 525, 526] rfl
set_option maxRecDepth 100000 in
set_option maxHeartbeats 4000000 in
theorem lwi_23 : ∀ w ∈ wsL_law0_r23, w ∈ lw_tbl := in_r [527, 528, 529, 530, 531, 802, 803, 804, 805, 532, 533, 534, 535, 536, 537, 538, 806, 807, 808, 809, 539, 540, 541, 542] rfl
set_option maxRecDepth 100000 in
set_option maxHeartbeats 4000000 in
theorem lwi_24 : ∀ w ∈ wsL_law0_r24, w ∈ lw_tbl := in_r [543, 544, 545, 546, 548, 10, 549, 810, 811, 812, 813, 550, 551, 552, 553, 554, 555, 556, 557, 558, 39, 559, 560, 561] rfl
set_option maxRecDepth 100000 in
set_option maxHeartbeats 4000000 in
theorem lwi_25 : ∀ w ∈ wsL_law0_r25, w ∈ lw_tbl := in_r [562, 814, 815, 816, 817] rfl
set_option maxRecDepth 100000 in
set_option maxHeartbeats 4000000 in
theorem inX0 : ∀ w ∈ wsX00, w ∈ lw_tbl := in_r [108, 110, 112, 114, 116, 118, 120, 122] rfl
set_option maxRecDepth 100000 in
set_option maxHeartbeats 4000000 in
theorem inX1 : ∀ w ∈ wsX10, w ∈ lw_tbl := in_r [68, 70, 72, 74, 76, 78, 80, 82, 84] rfl
set_option maxRecDepth 100000 in
set_option maxHeartbeats 4000000 in
theorem inX2 : ∀ w ∈ wsX20, w ∈ lw_tbl := in_r [130, 132, 134, 136, 138] rfl
set_option maxRecDepth 100000 in
set_option maxHeartbeats 4000000 in
theorem inX3 : ∀ w ∈ wsX30, w ∈ lw_tbl := in_r [591, 593, 595, 597, 599, 601, 603, 605, 607, 609, 611, 613, 615, 617, 619, 621, 623, 625, 627, 629, 631, 633] rfl
set_option maxRecDepth 100000 in
theorem lwi_x0 : ∀ w ∈ (vx_atS RX2 45 "java/lang/IllegalArgumentException" ["java/lang/RuntimeException", "java/lang/Exception"]).filter goodWord, w ∈ lw_tbl := by decide +kernel
set_option maxRecDepth 100000 in
theorem lwi_x1 : ∀ w ∈ (vx_atS RX2 58 "java/lang/IllegalStateException" ["java/lang/RuntimeException", "java/lang/Exception"]).filter goodWord, w ∈ lw_tbl := by decide +kernel
set_option maxRecDepth 100000 in
theorem lwi_x2 : ∀ w ∈ (vx_atS RX2 134 "java/lang/IndexOutOfBoundsException" ["java/lang/RuntimeException", "java/lang/Exception"]).filter goodWord, w ∈ lw_tbl := by decide +kernel
theorem in_a {a b : List Cond} (h1 : ∀ w ∈ a, w ∈ lw_tbl) (h2 : ∀ w ∈ b, w ∈ lw_tbl) : ∀ w ∈ a ++ b, w ∈ lw_tbl := fun w h => (List.mem_append.mp h).elim (h1 w) (h2 w)
theorem wsL_law_in : ∀ w ∈ wsL_law, w ∈ lw_tbl := in_a (in_a (in_a (in_a (in_a (in_a (in_a (in_a (in_a lwi_1 (in_a lwi_2 (in_a lwi_3 (in_a lwi_4 (in_a lwi_5 (in_a lwi_6 (in_a lwi_7 (in_a lwi_8 (in_a lwi_9 (in_a lwi_10 (in_a lwi_11 (in_a lwi_12 (in_a lwi_13 (in_a lwi_14 (in_a lwi_15 (in_a lwi_16 (in_a lwi_17 (in_a lwi_18 (in_a lwi_19 (in_a lwi_20 (in_a lwi_21 (in_a lwi_22 (in_a lwi_23 (in_a lwi_24 lwi_25)))))))))))))))))))))))) inX2) inX3) inX1) inX0) (fun w h => absurd h List.not_mem_nil)) lwi_x0) lwi_x1) lwi_x2
