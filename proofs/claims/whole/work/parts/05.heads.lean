set_option maxRecDepth 100000 in
theorem xqX0_init : xhc (xhX0_init, 78, 57, 77, 0) := rfl
set_option maxRecDepth 100000 in
theorem xqX0_has : xhc (xhX0_has, 253, 57, 251, 252) := rfl
set_option maxRecDepth 100000 in
theorem xqX5_isPoint : xhc (xhX5_isPoint, 260, 56, 259, 0) := rfl
set_option maxRecDepth 100000 in
theorem xqX0_add : xhc (xhX0_add, 257, 57, 255, 256) := rfl
set_option maxRecDepth 100000 in
theorem xqX0_number : xhc (xhX0_number, 353, 57, 351, 352) := rfl
set_option maxRecDepth 100000 in
theorem xqX0_sum : xhc (xhX0_sum, 294, 57, 292, 293) := rfl
set_option maxRecDepth 100000 in
theorem xqX0_swing : xhc (xhX0_swing, 280, 57, 278, 279) := rfl
set_option maxRecDepth 100000 in
theorem xqX0_spread : xhc (xhX0_spread, 314, 57, 312, 313) := rfl
set_option maxRecDepth 100000 in
theorem xqX0_distance : xhc (xhX0_distance, 537, 57, 535, 536) := rfl
set_option maxRecDepth 100000 in
theorem xqX0_box : xhc (xhX0_box, 348, 57, 346, 347) := rfl
set_option maxRecDepth 100000 in
theorem xqX3_init : xhc (xhX3_init, 108, 59, 107, 0) := rfl
set_option maxRecDepth 100000 in
theorem xqX1_init : xhc (xhX1_init, 101, 58, 100, 0) := rfl
set_option maxRecDepth 100000 in
theorem xqX1_hasFace : xhc (xhX1_hasFace, 389, 58, 387, 388) := rfl
set_option maxRecDepth 100000 in
theorem xqX1_isCorner : xhc (xhX1_isCorner, 441, 58, 439, 440) := rfl
set_option maxRecDepth 100000 in
theorem xqX1_isKnown : xhc (xhX1_isKnown, 272, 58, 271, 1) := rfl
set_option maxRecDepth 100000 in
theorem xqX5_divisor : xhc (xhX5_divisor, 283, 56, 282, 0) := rfl
set_option maxRecDepth 100000 in
theorem xqX3_look : xhc (xhX3_look, 290, 59, 288, 289) := rfl
set_option maxRecDepth 100000 in
theorem xqX3_sidesTaken : xhc (xhX3_sidesTaken, 298, 59, 297, 2) := rfl
set_option maxRecDepth 100000 in
theorem xqX3_turnOutward : xhc (xhX3_turnOutward, 302, 59, 301, 3) := rfl
set_option maxRecDepth 100000 in
theorem xqX3_face : xhc (xhX3_face, 276, 59, 274, 275) := rfl
set_option maxRecDepth 100000 in
theorem xqJ6_numberOfTrailingZeros_0f7a4 : xhc (xhJ6_numberOfTrailingZeros_0f7a4, 309, 64, 308, 0) := rfl
set_option maxRecDepth 100000 in
theorem xqX3_rim : xhc (xhX3_rim, 306, 59, 304, 305) := rfl
set_option maxRecDepth 100000 in
theorem xqX3_following : xhc (xhX3_following, 322, 59, 321, 4) := rfl
set_option maxRecDepth 100000 in
theorem xqX3_trace : xhc (xhX3_trace, 318, 59, 316, 317) := rfl
set_option maxRecDepth 100000 in
theorem xqX3_leads : xhc (xhX3_leads, 331, 59, 329, 330) := rfl
set_option maxRecDepth 100000 in
theorem xqX1_settle : xhc (xhX1_settle, 327, 58, 326, 5) := rfl
set_option maxRecDepth 100000 in
theorem xqX1_tryFace : xhc (xhX1_tryFace, 268, 58, 267, 0) := rfl
set_option maxRecDepth 100000 in
theorem xqX1_join : xhc (xhX1_join, 335, 58, 334, 6) := rfl
set_option maxRecDepth 100000 in
theorem xqX1_weighOne : xhc (xhX1_weighOne, 344, 58, 343, 8) := rfl
set_option maxRecDepth 100000 in
theorem xqX1_weigh : xhc (xhX1_weigh, 340, 58, 339, 7) := rfl
set_option maxRecDepth 100000 in
theorem xqX1_build : xhc (xhX1_build, 264, 58, 262, 263) := rfl
set_option maxRecDepth 100000 in
theorem xqX1_place : xhc (xhX1_place, 426, 58, 424, 425) := rfl
set_option maxRecDepth 100000 in
theorem xqX1_greatest : xhc (xhX1_greatest, 483, 58, 481, 482) := rfl
set_option maxRecDepth 100000 in
theorem xqX1_cornersAt : xhc (xhX1_cornersAt, 493, 58, 491, 492) := rfl
set_option maxRecDepth 100000 in
theorem xqX1_besideAny : xhc (xhX1_besideAny, 506, 58, 505, 14) := rfl
set_option maxRecDepth 100000 in
theorem xqX1_steps : xhc (xhX1_steps, 502, 58, 500, 501) := rfl
set_option maxRecDepth 100000 in
theorem xqX2_init : xhc (xhX2_init, 209, 61, 208, 0) := rfl
set_option maxRecDepth 100000 in
theorem xqX2_image : xhc (xhX2_image, 549, 61, 547, 548) := rfl
set_option maxRecDepth 100000 in
theorem xqX2_keep : xhc (xhX2_keep, 527, 61, 526, 17) := rfl
set_option maxRecDepth 100000 in
theorem xqX2_fits : xhc (xhX2_fits, 533, 61, 532, 18) := rfl
set_option maxRecDepth 100000 in
theorem xqX2_extend : xhc (xhX2_extend, 522, 61, 521, 16) := rfl
set_option maxRecDepth 100000 in
theorem xqX2_list : xhc (xhX2_list, 518, 61, 516, 517) := rfl
set_option maxRecDepth 100000 in
theorem xqX2_keepsHands : xhc (xhX2_keepsHands, 557, 61, 555, 556) := rfl
set_option maxRecDepth 100000 in
theorem xqX2_ringLength : xhc (xhX2_ringLength, 572, 61, 571, 20) := rfl
set_option maxRecDepth 100000 in
theorem xqX2_period : xhc (xhX2_period, 568, 61, 566, 567) := rfl
set_option maxRecDepth 100000 in
theorem xqX4_init : xhc (xhX4_init, 195, 60, 194, 0) := rfl
set_option maxRecDepth 100000 in
theorem xqX4_number : xhc (xhX4_number, 459, 60, 457, 458) := rfl
set_option maxRecDepth 100000 in
theorem xqX4_leads : xhc (xhX4_leads, 455, 60, 454, 13) := rfl
set_option maxRecDepth 100000 in
theorem xqX4_insert : xhc (xhX4_insert, 451, 60, 450, 12) := rfl
set_option maxRecDepth 100000 in
theorem xqX4_mix : xhc (xhX4_mix, 446, 60, 445, 11) := rfl
set_option maxRecDepth 100000 in
theorem xqX4_slice : xhc (xhX4_slice, 437, 60, 435, 436) := rfl
set_option maxRecDepth 100000 in
theorem xqX5_init : xhc (xhX5_init, 70, 56, 69, 0) := rfl
set_option maxRecDepth 100000 in
theorem xqX5_within : xhc (xhX5_within, 249, 56, 248, 0) := rfl
set_option maxRecDepth 100000 in
theorem xqX5_forget : xhc (xhX5_forget, 357, 56, 356, 9) := rfl
set_option maxRecDepth 100000 in
theorem xqX5_point : xhc (xhX5_point, 246, 56, 244, 245) := rfl
set_option maxRecDepth 100000 in
theorem xqX5_clear : xhc (xhX5_clear, 361, 56, 359, 360) := rfl
set_option maxRecDepth 100000 in
theorem xqX5_stands : xhc (xhX5_stands, 369, 56, 368, 10) := rfl
set_option maxRecDepth 100000 in
theorem xqX5_flat : xhc (xhX5_flat, 365, 56, 363, 364) := rfl
set_option maxRecDepth 100000 in
theorem xqX5_corners : xhc (xhX5_corners, 373, 56, 371, 372) := rfl
set_option maxRecDepth 100000 in
theorem xqX5_edges : xhc (xhX5_edges, 377, 56, 375, 376) := rfl
set_option maxRecDepth 100000 in
theorem xqX5_faces : xhc (xhX5_faces, 381, 56, 379, 380) := rfl
set_option maxRecDepth 100000 in
theorem xqX5_size : xhc (xhX5_size, 385, 56, 383, 384) := rfl
set_option maxRecDepth 100000 in
theorem xqX5_at : xhc (xhX5_at, 393, 56, 391, 392) := rfl
set_option maxRecDepth 100000 in
theorem xqX5_normal : xhc (xhX5_normal, 397, 56, 395, 396) := rfl
set_option maxRecDepth 100000 in
theorem xqX5_volume : xhc (xhX5_volume, 402, 56, 400, 401) := rfl
set_option maxRecDepth 100000 in
theorem xqX5_isAxis : xhc (xhX5_isAxis, 409, 56, 408, 0) := rfl
set_option maxRecDepth 100000 in
theorem xqX5_isPart : xhc (xhX5_isPart, 412, 56, 411, 0) := rfl
set_option maxRecDepth 100000 in
theorem xqX5_fraction : xhc (xhX5_fraction, 416, 56, 415, 0) := rfl
set_option maxRecDepth 100000 in
theorem xqX5_middle : xhc (xhX5_middle, 406, 56, 404, 405) := rfl
set_option maxRecDepth 100000 in
theorem xqX5_where : xhc (xhX5_where, 421, 56, 419, 420) := rfl
set_option maxRecDepth 100000 in
theorem xqX5_isDirection : xhc (xhX5_isDirection, 433, 56, 432, 0) := rfl
set_option maxRecDepth 100000 in
theorem xqX5_cut : xhc (xhX5_cut, 430, 56, 428, 429) := rfl
set_option maxRecDepth 100000 in
theorem xqX5_cutAt : xhc (xhX5_cutAt, 467, 56, 465, 466) := rfl
set_option maxRecDepth 100000 in
theorem xqX5_shadow : xhc (xhX5_shadow, 472, 56, 470, 471) := rfl
set_option maxRecDepth 100000 in
theorem xqX5_far : xhc (xhX5_far, 479, 56, 477, 478) := rfl
set_option maxRecDepth 100000 in
theorem xqX5_way : xhc (xhX5_way, 497, 56, 495, 496) := rfl
set_option maxRecDepth 100000 in
theorem xqX5_listed : xhc (xhX5_listed, 514, 56, 513, 15) := rfl
set_option maxRecDepth 100000 in
theorem xqX5_symmetries : xhc (xhX5_symmetries, 510, 56, 508, 509) := rfl
set_option maxRecDepth 100000 in
theorem xqX5_isSymmetry : xhc (xhX5_isSymmetry, 545, 56, 544, 19) := rfl
set_option maxRecDepth 100000 in
theorem xqX5_symmetry : xhc (xhX5_symmetry, 541, 56, 539, 540) := rfl
set_option maxRecDepth 100000 in
theorem xqX5_turn : xhc (xhX5_turn, 553, 56, 551, 552) := rfl
set_option maxRecDepth 100000 in
theorem xqX5_order : xhc (xhX5_order, 564, 56, 562, 563) := rfl
set_option maxRecDepth 100000 in
theorem xqX5_regular : xhc (xhX5_regular, 577, 56, 575, 576) := rfl
set_option maxRecDepth 100000 in
theorem xqX6_init : xhc (xhX6_init, 582, 62, 581, 0) := rfl
set_option maxRecDepth 100000 in
theorem xqX6_in : xhc (xhX6_in, 699, 62, 698, 0) := rfl
set_option maxRecDepth 100000 in
theorem xqX6_point : xhc (xhX6_point, 696, 62, 694, 695) := rfl
set_option maxRecDepth 100000 in
theorem xqX6_clear : xhc (xhX6_clear, 703, 62, 701, 702) := rfl
set_option maxRecDepth 100000 in
theorem xqX6_cross : xhc (xhX6_cross, 723, 62, 722, 24) := rfl
set_option maxRecDepth 100000 in
theorem xqX6_height : xhc (xhX6_height, 727, 62, 726, 25) := rfl
set_option maxRecDepth 100000 in
theorem xqX6_divisor : xhc (xhX6_divisor, 730, 62, 729, 0) := rfl
set_option maxRecDepth 100000 in
theorem xqX6_tryPlane : xhc (xhX6_tryPlane, 719, 62, 718, 23) := rfl
set_option maxRecDepth 100000 in
theorem xqX6_facesOf : xhc (xhX6_facesOf, 734, 62, 733, 26) := rfl
set_option maxRecDepth 100000 in
theorem xqX6_isNext : xhc (xhX6_isNext, 742, 62, 741, 28) := rfl
set_option maxRecDepth 100000 in
theorem xqX6_layRound : xhc (xhX6_layRound, 738, 62, 737, 27) := rfl
set_option maxRecDepth 100000 in
theorem xqX6_isBefore : xhc (xhX6_isBefore, 746, 62, 745, 29) := rfl
set_option maxRecDepth 100000 in
theorem xqX6_build : xhc (xhX6_build, 715, 62, 714, 22) := rfl
set_option maxRecDepth 100000 in
theorem xqX6_noSolid : xhc (xhX6_noSolid, 711, 62, 710, 21) := rfl
set_option maxRecDepth 100000 in
theorem xqX6_flat : xhc (xhX6_flat, 707, 62, 705, 706) := rfl
set_option maxRecDepth 100000 in
theorem xqX6_isCorner : xhc (xhX6_isCorner, 762, 62, 761, 31) := rfl
set_option maxRecDepth 100000 in
theorem xqX6_isEdge : xhc (xhX6_isEdge, 758, 62, 757, 30) := rfl
set_option maxRecDepth 100000 in
theorem xqX6_corners : xhc (xhX6_corners, 750, 62, 748, 749) := rfl
set_option maxRecDepth 100000 in
theorem xqX6_edges : xhc (xhX6_edges, 754, 62, 752, 753) := rfl
set_option maxRecDepth 100000 in
theorem xqX6_faces : xhc (xhX6_faces, 766, 62, 764, 765) := rfl
set_option maxRecDepth 100000 in
theorem xqX6_size : xhc (xhX6_size, 770, 62, 768, 769) := rfl
set_option maxRecDepth 100000 in
theorem xqX6_at : xhc (xhX6_at, 774, 62, 772, 773) := rfl
set_option maxRecDepth 100000 in
theorem xqX6_normal : xhc (xhX6_normal, 778, 62, 776, 777) := rfl
set_option maxRecDepth 100000 in
theorem xqX6_tetrahedron : xhc (xhX6_tetrahedron, 791, 62, 790, 33) := rfl
set_option maxRecDepth 100000 in
theorem xqX6_weigh : xhc (xhX6_weigh, 787, 62, 786, 32) := rfl
set_option maxRecDepth 100000 in
theorem xqX6_volume : xhc (xhX6_volume, 783, 62, 781, 782) := rfl
set_option maxRecDepth 100000 in
theorem xqX6_part : xhc (xhX6_part, 799, 62, 798, 0) := rfl
set_option maxRecDepth 100000 in
theorem xqX6_middle : xhc (xhX6_middle, 795, 62, 793, 794) := rfl
set_option maxRecDepth 100000 in
theorem xqX6_where : xhc (xhX6_where, 804, 62, 802, 803) := rfl
set_option maxRecDepth 100000 in
theorem xqX6_isDirection : xhc (xhX6_isDirection, 813, 62, 812, 0) := rfl
set_option maxRecDepth 100000 in
theorem xqX6_lies : xhc (xhX6_lies, 817, 62, 816, 34) := rfl
set_option maxRecDepth 100000 in
theorem xqX6_compare : xhc (xhX6_compare, 825, 62, 824, 36) := rfl
set_option maxRecDepth 100000 in
theorem xqX6_swap : xhc (xhX6_swap, 829, 62, 828, 37) := rfl
set_option maxRecDepth 100000 in
theorem xqX6_addCut : xhc (xhX6_addCut, 821, 62, 820, 35) := rfl
set_option maxRecDepth 100000 in
theorem xqX6_cut : xhc (xhX6_cut, 810, 62, 808, 809) := rfl
set_option maxRecDepth 100000 in
theorem xqX6_cutAt : xhc (xhX6_cutAt, 833, 62, 831, 832) := rfl
set_option maxRecDepth 100000 in
theorem xqX6_side : xhc (xhX6_side, 853, 62, 852, 41) := rfl
set_option maxRecDepth 100000 in
theorem xqX6_isSame : xhc (xhX6_isSame, 845, 62, 844, 39) := rfl
set_option maxRecDepth 100000 in
theorem xqX6_isBetween : xhc (xhX6_isBetween, 849, 62, 848, 40) := rfl
set_option maxRecDepth 100000 in
theorem xqX6_isInTriangle : xhc (xhX6_isInTriangle, 857, 62, 856, 42) := rfl
set_option maxRecDepth 100000 in
theorem xqX6_stands : xhc (xhX6_stands, 841, 62, 840, 38) := rfl
set_option maxRecDepth 100000 in
theorem xqX6_shadow : xhc (xhX6_shadow, 837, 62, 835, 836) := rfl
set_option maxRecDepth 100000 in
theorem xqX6_far : xhc (xhX6_far, 861, 62, 859, 860) := rfl
set_option maxRecDepth 100000 in
theorem xqX6_way : xhc (xhX6_way, 865, 62, 863, 864) := rfl
set_option maxRecDepth 100000 in
theorem xqX6_apart : xhc (xhX6_apart, 893, 62, 892, 48) := rfl
set_option maxRecDepth 100000 in
theorem xqX6_sense : xhc (xhX6_sense, 881, 62, 880, 45) := rfl
set_option maxRecDepth 100000 in
theorem xqX6_findBase : xhc (xhX6_findBase, 877, 62, 876, 44) := rfl
set_option maxRecDepth 100000 in
theorem xqX6_fits : xhc (xhX6_fits, 889, 62, 888, 47) := rfl
set_option maxRecDepth 100000 in
theorem xqX6_imageOf : xhc (xhX6_imageOf, 901, 62, 900, 50) := rfl
set_option maxRecDepth 100000 in
theorem xqX6_addTurn : xhc (xhX6_addTurn, 897, 62, 896, 49) := rfl
set_option maxRecDepth 100000 in
theorem xqX6_tryGoals : xhc (xhX6_tryGoals, 885, 62, 884, 46) := rfl
set_option maxRecDepth 100000 in
theorem xqX6_isEarlier : xhc (xhX6_isEarlier, 905, 62, 904, 51) := rfl
set_option maxRecDepth 100000 in
theorem xqX6_buildTurns : xhc (xhX6_buildTurns, 873, 62, 872, 43) := rfl
set_option maxRecDepth 100000 in
theorem xqX6_symmetries : xhc (xhX6_symmetries, 869, 62, 867, 868) := rfl
set_option maxRecDepth 100000 in
theorem xqX6_noTurn : xhc (xhX6_noTurn, 913, 62, 912, 52) := rfl
set_option maxRecDepth 100000 in
theorem xqX6_symmetry : xhc (xhX6_symmetry, 909, 62, 907, 908) := rfl
set_option maxRecDepth 100000 in
theorem xqX6_turn : xhc (xhX6_turn, 917, 62, 915, 916) := rfl
set_option maxRecDepth 100000 in
theorem xqX6_order : xhc (xhX6_order, 921, 62, 919, 920) := rfl
set_option maxRecDepth 100000 in
theorem xqX6_imageBits : xhc (xhX6_imageBits, 933, 62, 932, 54) := rfl
set_option maxRecDepth 100000 in
theorem xqX6_isTaken : xhc (xhX6_isTaken, 929, 62, 928, 53) := rfl
set_option maxRecDepth 100000 in
theorem xqX6_regular : xhc (xhX6_regular, 925, 62, 923, 924) := rfl
set_option maxRecDepth 100000 in
theorem xqJ9_abs_067f4 : xhc (xhJ9_abs_067f4, 286, 63, 285, 0) := rfl
set_option maxRecDepth 100000 in
theorem xqJ9_max_f86c9 : xhc (xhJ9_max_f86c9, 489, 63, 488, 0) := rfl
theorem xHt_code : ∀ q ∈ xHt, xhc q := List.forall_mem_cons.mpr ⟨xqX0_init, List.forall_mem_cons.mpr ⟨xqX0_has, List.forall_mem_cons.mpr ⟨xqX5_isPoint, List.forall_mem_cons.mpr ⟨xqX0_add, List.forall_mem_cons.mpr ⟨xqX0_number, List.forall_mem_cons.mpr ⟨xqX0_sum, List.forall_mem_cons.mpr ⟨xqX0_swing, List.forall_mem_cons.mpr ⟨xqX0_spread, List.forall_mem_cons.mpr ⟨xqX0_distance, List.forall_mem_cons.mpr ⟨xqX0_box, List.forall_mem_cons.mpr ⟨xqX3_init, List.forall_mem_cons.mpr ⟨xqX1_init, List.forall_mem_cons.mpr ⟨xqX1_hasFace, List.forall_mem_cons.mpr ⟨xqX1_isCorner, List.forall_mem_cons.mpr ⟨xqX1_isKnown, List.forall_mem_cons.mpr ⟨xqX5_divisor, List.forall_mem_cons.mpr ⟨xqX3_look, List.forall_mem_cons.mpr ⟨xqX3_sidesTaken, List.forall_mem_cons.mpr ⟨xqX3_turnOutward, List.forall_mem_cons.mpr ⟨xqX3_face, List.forall_mem_cons.mpr ⟨xqJ6_numberOfTrailingZeros_0f7a4, List.forall_mem_cons.mpr ⟨xqX3_rim, List.forall_mem_cons.mpr ⟨xqX3_following, List.forall_mem_cons.mpr ⟨xqX3_trace, List.forall_mem_cons.mpr ⟨xqX3_leads, List.forall_mem_cons.mpr ⟨xqX1_settle, List.forall_mem_cons.mpr ⟨xqX1_tryFace, List.forall_mem_cons.mpr ⟨xqX1_join, List.forall_mem_cons.mpr ⟨xqX1_weighOne, List.forall_mem_cons.mpr ⟨xqX1_weigh, List.forall_mem_cons.mpr ⟨xqX1_build, List.forall_mem_cons.mpr ⟨xqX1_place, List.forall_mem_cons.mpr ⟨xqX1_greatest, List.forall_mem_cons.mpr ⟨xqX1_cornersAt, List.forall_mem_cons.mpr ⟨xqX1_besideAny, List.forall_mem_cons.mpr ⟨xqX1_steps, List.forall_mem_cons.mpr ⟨xqX2_init, List.forall_mem_cons.mpr ⟨xqX2_image, List.forall_mem_cons.mpr ⟨xqX2_keep, List.forall_mem_cons.mpr ⟨xqX2_fits, List.forall_mem_cons.mpr ⟨xqX2_extend, List.forall_mem_cons.mpr ⟨xqX2_list, List.forall_mem_cons.mpr ⟨xqX2_keepsHands, List.forall_mem_cons.mpr ⟨xqX2_ringLength, List.forall_mem_cons.mpr ⟨xqX2_period, List.forall_mem_cons.mpr ⟨xqX4_init, List.forall_mem_cons.mpr ⟨xqX4_number, List.forall_mem_cons.mpr ⟨xqX4_leads, List.forall_mem_cons.mpr ⟨xqX4_insert, List.forall_mem_cons.mpr ⟨xqX4_mix, List.forall_mem_cons.mpr ⟨xqX4_slice, List.forall_mem_cons.mpr ⟨xqX5_init, List.forall_mem_cons.mpr ⟨xqX5_within, List.forall_mem_cons.mpr ⟨xqX5_forget, List.forall_mem_cons.mpr ⟨xqX5_point, List.forall_mem_cons.mpr ⟨xqX5_clear, List.forall_mem_cons.mpr ⟨xqX5_stands, List.forall_mem_cons.mpr ⟨xqX5_flat, List.forall_mem_cons.mpr ⟨xqX5_corners, List.forall_mem_cons.mpr ⟨xqX5_edges, List.forall_mem_cons.mpr ⟨xqX5_faces, List.forall_mem_cons.mpr ⟨xqX5_size, List.forall_mem_cons.mpr ⟨xqX5_at, List.forall_mem_cons.mpr ⟨xqX5_normal, List.forall_mem_cons.mpr ⟨xqX5_volume, List.forall_mem_cons.mpr ⟨xqX5_isAxis, List.forall_mem_cons.mpr ⟨xqX5_isPart, List.forall_mem_cons.mpr ⟨xqX5_fraction, List.forall_mem_cons.mpr ⟨xqX5_middle, List.forall_mem_cons.mpr ⟨xqX5_where, List.forall_mem_cons.mpr ⟨xqX5_isDirection, List.forall_mem_cons.mpr ⟨xqX5_cut, List.forall_mem_cons.mpr ⟨xqX5_cutAt, List.forall_mem_cons.mpr ⟨xqX5_shadow, List.forall_mem_cons.mpr ⟨xqX5_far, List.forall_mem_cons.mpr ⟨xqX5_way, List.forall_mem_cons.mpr ⟨xqX5_listed, List.forall_mem_cons.mpr ⟨xqX5_symmetries, List.forall_mem_cons.mpr ⟨xqX5_isSymmetry, List.forall_mem_cons.mpr ⟨xqX5_symmetry, List.forall_mem_cons.mpr ⟨xqX5_turn, List.forall_mem_cons.mpr ⟨xqX5_order, List.forall_mem_cons.mpr ⟨xqX5_regular, List.forall_mem_cons.mpr ⟨xqX6_init, List.forall_mem_cons.mpr ⟨xqX6_in, List.forall_mem_cons.mpr ⟨xqX6_point, List.forall_mem_cons.mpr ⟨xqX6_clear, List.forall_mem_cons.mpr ⟨xqX6_cross, List.forall_mem_cons.mpr ⟨xqX6_height, List.forall_mem_cons.mpr ⟨xqX6_divisor, List.forall_mem_cons.mpr ⟨xqX6_tryPlane, List.forall_mem_cons.mpr ⟨xqX6_facesOf, List.forall_mem_cons.mpr ⟨xqX6_isNext, List.forall_mem_cons.mpr ⟨xqX6_layRound, List.forall_mem_cons.mpr ⟨xqX6_isBefore, List.forall_mem_cons.mpr ⟨xqX6_build, List.forall_mem_cons.mpr ⟨xqX6_noSolid, List.forall_mem_cons.mpr ⟨xqX6_flat, List.forall_mem_cons.mpr ⟨xqX6_isCorner, List.forall_mem_cons.mpr ⟨xqX6_isEdge, List.forall_mem_cons.mpr ⟨xqX6_corners, List.forall_mem_cons.mpr ⟨xqX6_edges, List.forall_mem_cons.mpr ⟨xqX6_faces, List.forall_mem_cons.mpr ⟨xqX6_size, List.forall_mem_cons.mpr ⟨xqX6_at, List.forall_mem_cons.mpr ⟨xqX6_normal, List.forall_mem_cons.mpr ⟨xqX6_tetrahedron, List.forall_mem_cons.mpr ⟨xqX6_weigh, List.forall_mem_cons.mpr ⟨xqX6_volume, List.forall_mem_cons.mpr ⟨xqX6_part, List.forall_mem_cons.mpr ⟨xqX6_middle, List.forall_mem_cons.mpr ⟨xqX6_where, List.forall_mem_cons.mpr ⟨xqX6_isDirection, List.forall_mem_cons.mpr ⟨xqX6_lies, List.forall_mem_cons.mpr ⟨xqX6_compare, List.forall_mem_cons.mpr ⟨xqX6_swap, List.forall_mem_cons.mpr ⟨xqX6_addCut, List.forall_mem_cons.mpr ⟨xqX6_cut, List.forall_mem_cons.mpr ⟨xqX6_cutAt, List.forall_mem_cons.mpr ⟨xqX6_side, List.forall_mem_cons.mpr ⟨xqX6_isSame, List.forall_mem_cons.mpr ⟨xqX6_isBetween, List.forall_mem_cons.mpr ⟨xqX6_isInTriangle, List.forall_mem_cons.mpr ⟨xqX6_stands, List.forall_mem_cons.mpr ⟨xqX6_shadow, List.forall_mem_cons.mpr ⟨xqX6_far, List.forall_mem_cons.mpr ⟨xqX6_way, List.forall_mem_cons.mpr ⟨xqX6_apart, List.forall_mem_cons.mpr ⟨xqX6_sense, List.forall_mem_cons.mpr ⟨xqX6_findBase, List.forall_mem_cons.mpr ⟨xqX6_fits, List.forall_mem_cons.mpr ⟨xqX6_imageOf, List.forall_mem_cons.mpr ⟨xqX6_addTurn, List.forall_mem_cons.mpr ⟨xqX6_tryGoals, List.forall_mem_cons.mpr ⟨xqX6_isEarlier, List.forall_mem_cons.mpr ⟨xqX6_buildTurns, List.forall_mem_cons.mpr ⟨xqX6_symmetries, List.forall_mem_cons.mpr ⟨xqX6_noTurn, List.forall_mem_cons.mpr ⟨xqX6_symmetry, List.forall_mem_cons.mpr ⟨xqX6_turn, List.forall_mem_cons.mpr ⟨xqX6_order, List.forall_mem_cons.mpr ⟨xqX6_imageBits, List.forall_mem_cons.mpr ⟨xqX6_isTaken, List.forall_mem_cons.mpr ⟨xqX6_regular, List.forall_mem_cons.mpr ⟨xqJ9_abs_067f4, List.forall_mem_cons.mpr ⟨xqJ9_max_f86c9, fun _ h => absurd h List.not_mem_nil⟩⟩⟩⟩⟩⟩⟩⟩⟩⟩⟩⟩⟩⟩⟩⟩⟩⟩⟩⟩⟩⟩⟩⟩⟩⟩⟩⟩⟩⟩⟩⟩⟩⟩⟩⟩⟩⟩⟩⟩⟩⟩⟩⟩⟩⟩⟩⟩⟩⟩⟩⟩⟩⟩⟩⟩⟩⟩⟩⟩⟩⟩⟩⟩⟩⟩⟩⟩⟩⟩⟩⟩⟩⟩⟩⟩⟩⟩⟩⟩⟩⟩⟩⟩⟩⟩⟩⟩⟩⟩⟩⟩⟩⟩⟩⟩⟩⟩⟩⟩⟩⟩⟩⟩⟩⟩⟩⟩⟩⟩⟩⟩⟩⟩⟩⟩⟩⟩⟩⟩⟩⟩⟩⟩⟩⟩⟩⟩⟩⟩⟩⟩⟩⟩⟩⟩⟩⟩⟩⟩⟩⟩⟩⟩⟩⟩
set_option maxRecDepth 100000 in
theorem xHt_ok : ∀ q ∈ xHt, xhd q = true := by decide +kernel
