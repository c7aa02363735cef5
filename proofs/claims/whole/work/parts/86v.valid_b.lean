set_option maxRecDepth 100000 in
theorem lk_vd_1 : ∀ (pc : Nat) (E : lk_E), lk_b1[pc]? = some (some E) → lk_vd1 (yX0_toldKind, cX0_toldKind, 1, ((some FieldType.int))) pc E := lk_vd_of [] (by decide +kernel) (by decide +kernel)
set_option maxRecDepth 100000 in
theorem lk_vd_4 : ∀ (pc : Nat) (E : lk_E), lk_b4[pc]? = some (some E) → lk_vd1 (yX1_searched, cX1_searched, 2, ((some (FieldType.object "LonelyDots$LonelyList")))) pc E := lk_vd_of [467, 468, 66, 471, 66, 469, 470, 493, 66, 491, 492] (by decide +kernel) (by decide +kernel)
set_option maxRecDepth 100000 in
theorem lk_vd_7 : ∀ (pc : Nat) (E : lk_E), lk_b7[pc]? = some (some E) → lk_vd1 (yX1_isLonelyUpTo, cX1_isLonelyUpTo, 5, ((some FieldType.boolean))) pc E := lk_vd_of [473, 473, 473, 473] (by decide +kernel) (by decide +kernel)
set_option maxRecDepth 100000 in
theorem lk_vd_13 : ∀ (pc : Nat) (E : lk_E), lk_b13[pc]? = some (some E) → lk_vd1 (yX2_rise, cX2_rise, 6, ((some FieldType.boolean))) pc E := lk_vd_of [] (by decide +kernel) (by decide +kernel)
set_option maxRecDepth 100000 in
theorem lk_vd_19 : ∀ (pc : Nat) (E : lk_E), lk_b19[pc]? = some (some E) → lk_vd1 (yX3_init, cX3_init, 1, ((none))) pc E := lk_vd_of [98, 73, 74, 92, 99, 92, 100] (by decide +kernel) (by decide +kernel)
set_option maxRecDepth 100000 in
theorem lk_vd_22 : ∀ (pc : Nat) (E : lk_E), lk_b22[pc]? = some (some E) → lk_vd1 (yX3_mostWithItself, cX3_mostWithItself, 4, ((some FieldType.int))) pc E := lk_vd_of [636, 53, 633, 635, 21, 638, 619, 59, 620] (by decide +kernel) (by decide +kernel)
set_option maxRecDepth 100000 in
theorem lk_vd_25 : ∀ (pc : Nat) (E : lk_E), lk_b25[pc]? = some (some E) → lk_vd1 (yX3_tallyFits, cX3_tallyFits, 7, ((none))) pc E := lk_vd_of [100] (by decide +kernel) (by decide +kernel)
set_option maxRecDepth 100000 in
theorem lk_vd_30 : ∀ (pc : Nat) (E : lk_E), lk_b30[pc]? = some (some E) → lk_vd1 (yX4_turnInto, cX4_turnInto, 7, ((none))) pc E := lk_vd_of [] (by decide +kernel) (by decide +kernel)
set_option maxRecDepth 100000 in
theorem lk_vd_38 : ∀ (pc : Nat) (E : lk_E), lk_b38[pc]? = some (some E) → lk_vd1 (yX4_isRight, cX4_isRight, 1, ((some FieldType.boolean))) pc E := lk_vd_of [] (by decide +kernel) (by decide +kernel)
set_option maxRecDepth 100000 in
theorem lk_vd_42 : ∀ (pc : Nat) (E : lk_E), lk_b42[pc]? = some (some E) → lk_vd1 (yX6_init, cX6_init, 2, ((none))) pc E := lk_vd_of [353, 63, 375, 352] (by decide +kernel) (by decide +kernel)
set_option maxRecDepth 100000 in
theorem lk_vd_43 : ∀ (pc : Nat) (E : lk_E), lk_b43[pc]? = some (some E) → lk_vd1 (yX6_toldKind, cX6_toldKind, 1, ((some FieldType.int))) pc E := lk_vd_of [] (by decide +kernel) (by decide +kernel)
set_option maxRecDepth 100000 in
theorem lk_vd_44 : ∀ (pc : Nat) (E : lk_E), lk_b44[pc]? = some (some E) → lk_vd1 (yX6_askSize, cX6_askSize, 2, ((some FieldType.int))) pc E := lk_vd_of [555, 52, 569, 553, 554, 558, 63, 570, 1005, 382, 557] (by decide +kernel) (by decide +kernel)
set_option maxRecDepth 100000 in
theorem lk_vd_46 : ∀ (pc : Nat) (E : lk_E), lk_b46[pc]? = some (some E) → lk_vd1 (yX7_leastGreatestMark, cX7_leastGreatestMark, 2, ((some FieldType.int))) pc E := lk_vd_of [117, 120, 677, 54, 675, 676, 117, 120, 117] (by decide +kernel) (by decide +kernel)
set_option maxRecDepth 100000 in
theorem lk_vd_49 : ∀ (pc : Nat) (E : lk_E), lk_b49[pc]? = some (some E) → lk_vd1 (yX7_mindDistances, cX7_mindDistances, 5, ((none))) pc E := lk_vd_of [119, 118] (by decide +kernel) (by decide +kernel)
set_option maxRecDepth 100000 in
theorem lk_vd_53 : ∀ (pc : Nat) (E : lk_E), lk_b53[pc]? = some (some E) → lk_vd1 (yX8_narrowed, cX8_narrowed, 2, ((some FieldType.int))) pc E := lk_vd_of [140] (by decide +kernel) (by decide +kernel)
set_option maxRecDepth 100000 in
theorem lk_vd_56 : ∀ (pc : Nat) (E : lk_E), lk_b56[pc]? = some (some E) → lk_vd1 (yX9_askSize, cX9_askSize, 2, ((some FieldType.int))) pc E := lk_vd_of [555, 52, 579, 553, 554] (by decide +kernel) (by decide +kernel)
set_option maxRecDepth 100000 in
theorem lk_vd_59 : ∀ (pc : Nat) (E : lk_E), lk_b59[pc]? = some (some E) → lk_vd1 (yX9_laterFirst, cX9_laterFirst, 4, ((some FieldType.int))) pc E := lk_vd_of [270, 270, 270, 270, 270, 296, 61, 291, 293, 294, 295, 292, 299, 63, 291, 293, 297, 298, 292, 296, 61, 291, 293, 300, 295, 292, 299, 63, 291, 293, 301, 298, 292, 299, 63, 291, 293, 302, 298, 292] (by decide +kernel) (by decide +kernel)
set_option maxRecDepth 100000 in
theorem lk_vd_65 : ∀ (pc : Nat) (E : lk_E), lk_b65[pc]? = some (some E) → lk_vd1 (yX11_init, cX11_init, 2, ((none))) pc E := lk_vd_of [72, 73, 74, 75, 76, 153, 77, 78, 154, 79, 80, 52, 83, 52, 81, 82, 155, 93, 94, 53, 97, 53, 95, 96, 156, 106, 107, 157, 108, 109, 54, 112, 54, 110, 111, 158, 159, 153, 75, 131, 56, 134, 56, 132, 133] (by decide +kernel) (by decide +kernel)
set_option maxRecDepth 100000 in
theorem lk_vd_70 : ∀ (pc : Nat) (E : lk_E), lk_b70[pc]? = some (some E) → lk_vd1 (yX11_order, cX11_order, 7, ((some FieldType.int))) pc E := lk_vd_of [226, 51, 224, 225, 181, 51, 179, 180, 182, 230, 51, 227, 229, 12, 186, 51, 183, 185, 10, 153, 234, 56, 231, 232, 233, 257, 61, 255, 256, 260, 61, 258, 259, 320, 51, 317, 319, 13, 182] (by decide +kernel) (by decide +kernel)
set_option maxRecDepth 100000 in
theorem lk_vd_74 : ∀ (pc : Nat) (E : lk_E), lk_b74[pc]? = some (some E) → lk_vd1 (yX11_take, cX11_take, 5, ((some FieldType.int))) pc E := lk_vd_of [226, 51, 224, 225, 226, 51, 224, 225, 182, 413, 51, 410, 412, 15, 418, 51, 415, 417, 16, 186, 51, 183, 185, 10, 275, 274, 275, 274, 275, 274, 275, 274, 275, 274, 424, 61, 419, 422, 423, 420, 420, 424, 424, 61, 419, 422, 421, 420, 420, 424, 431, 196, 51, 193, 195, 11, 437, 61, 432, 435, 436, 433, 433, 437, 437, 61, 432, 435, 434, 433, 433, 437, 260, 61, 258, 259, 320, 51, 317, 319, 13] (by decide +kernel) (by decide +kernel)
set_option maxRecDepth 100000 in
theorem lk_vd_79 : ∀ (pc : Nat) (E : lk_E), lk_b79[pc]? = some (some E) → lk_vd1 (yX11_kind, cX11_kind, 3, ((some FieldType.int))) pc E := lk_vd_of [226, 51, 224, 225, 182, 154, 186, 51, 183, 185, 10, 326, 62, 321, 323, 324, 325, 322, 329, 63, 321, 323, 327, 328, 322, 332, 61, 321, 323, 330, 331, 322, 335, 65, 321, 323, 333, 334, 322, 338, 64, 321, 323, 336, 337, 322, 196, 51, 193, 195, 11] (by decide +kernel) (by decide +kernel)
set_option maxRecDepth 100000 in
theorem lk_vd_83 : ∀ (pc : Nat) (E : lk_E), lk_b83[pc]? = some (some E) → lk_vd1 (yX11_trace, cX11_trace, 2, ((some FieldType.int))) pc E := lk_vd_of [155, 603, 52, 600, 601, 602] (by decide +kernel) (by decide +kernel)
set_option maxRecDepth 100000 in
theorem lk_vd_85 : ∀ (pc : Nat) (E : lk_E), lk_b85[pc]? = some (some E) → lk_vd1 (yX11_alike, cX11_alike, 4, ((some FieldType.int))) pc E := lk_vd_of [226, 51, 224, 225, 182, 154, 186, 51, 183, 185, 10, 286, 60, 613, 1006, 1007, 285, 282, 286, 60, 613, 1006, 1008, 285, 282, 286, 60, 613, 1006, 1009, 285, 282, 286, 60, 613, 1006, 1010, 285, 282, 286, 60, 613, 1006, 1011, 285, 282, 196, 51, 193, 195, 11] (by decide +kernel) (by decide +kernel)
set_option maxRecDepth 100000 in
theorem lk_vd_87 : ∀ (pc : Nat) (E : lk_E), lk_b87[pc]? = some (some E) → lk_vd1 (yX11_most, cX11_most, 3, ((some FieldType.int))) pc E := lk_vd_of [226, 51, 224, 225, 182, 413, 51, 410, 412, 15, 418, 51, 415, 417, 16, 186, 51, 183, 185, 10, 156, 275, 274, 275, 274, 275, 274, 275, 274, 275, 274, 632, 53, 629, 630, 631, 196, 51, 193, 195, 11] (by decide +kernel) (by decide +kernel)
set_option maxRecDepth 100000 in
theorem lk_vd_90 : ∀ (pc : Nat) (E : lk_E), lk_b90[pc]? = some (some E) → lk_vd1 (yX11_lonely, cX11_lonely, 4, ((some FieldType.int))) pc E := lk_vd_of [182, 463, 51, 460, 462, 17, 477, 479] (by decide +kernel) (by decide +kernel)
set_option maxRecDepth 100000 in
theorem lk_vd_94 : ∀ (pc : Nat) (E : lk_E), lk_b94[pc]? = some (some E) → lk_vd1 (yX11_isSheet, cX11_isSheet, 1, ((some FieldType.boolean))) pc E := lk_vd_of [] (by decide +kernel) (by decide +kernel)
set_option maxRecDepth 100000 in
theorem lk_vd_96 : ∀ (pc : Nat) (E : lk_E), lk_b96[pc]? = some (some E) → lk_vd1 (yX11_found, cX11_found, 2, ((some FieldType.int))) pc E := lk_vd_of [159, 187] (by decide +kernel) (by decide +kernel)
set_option maxRecDepth 100000 in
theorem lk_vd_101 : ∀ (pc : Nat) (E : lk_E), lk_b101[pc]? = some (some E) → lk_vd1 (yX11_findingOfNoOrder, cX11_findingOfNoOrder, 2, ((some FieldType.int))) pc E := lk_vd_of [154] (by decide +kernel) (by decide +kernel)
set_option maxRecDepth 100000 in
theorem lk_vd_103 : ∀ (pc : Nat) (E : lk_E), lk_b103[pc]? = some (some E) → lk_vd1 (yX11_sheetsThere, cX11_sheetsThere, 3, ((some FieldType.int))) pc E := lk_vd_of [153, 139] (by decide +kernel) (by decide +kernel)
set_option maxRecDepth 100000 in
theorem lk_vd_106 : ∀ (pc : Nat) (E : lk_E), lk_b106[pc]? = some (some E) → lk_vd1 (yX11_isPrime, cX11_isPrime, 2, ((some FieldType.boolean))) pc E := lk_vd_of [] (by decide +kernel) (by decide +kernel)
set_option maxRecDepth 100000 in
theorem lk_vd_111 : ∀ (pc : Nat) (E : lk_E), lk_b111[pc]? = some (some E) → lk_vd1 (yX12_init, cX12_init, 1, ((none))) pc E := lk_vd_of [707, 73, 74, 92, 708, 92, 709, 92, 710, 92, 711, 92, 712, 92, 713, 92, 714, 92, 716, 92, 718, 130, 719, 92, 720, 92, 721, 92, 723, 92, 724] (by decide +kernel) (by decide +kernel)
set_option maxRecDepth 100000 in
theorem lk_vd_119 : ∀ (pc : Nat) (E : lk_E), lk_b119[pc]? = some (some E) → lk_vd1 (yX12_drop, cX12_drop, 2, ((some FieldType.int))) pc E := lk_vd_of [766, 57, 764, 765, 772, 708, 776, 57, 773, 775, 28, 708, 709, 781, 57, 778, 780, 29] (by decide +kernel) (by decide +kernel)
set_option maxRecDepth 100000 in
theorem lk_vd_121 : ∀ (pc : Nat) (E : lk_E), lk_b121[pc]? = some (some E) → lk_vd1 (yX12_isOf, cX12_isOf, 2, ((some FieldType.boolean))) pc E := lk_vd_of [] (by decide +kernel) (by decide +kernel)
set_option maxRecDepth 100000 in
theorem lk_vd_125 : ∀ (pc : Nat) (E : lk_E), lk_b125[pc]? = some (some E) → lk_vd1 (yX12_hasAll, cX12_hasAll, 7, ((some FieldType.boolean))) pc E := lk_vd_of [713, 822, 57, 819, 821, 34, 822, 57, 819, 821, 34, 822, 57, 819, 821, 34, 822, 57, 819, 821, 34] (by decide +kernel) (by decide +kernel)
set_option maxRecDepth 100000 in
theorem lk_vd_130 : ∀ (pc : Nat) (E : lk_E), lk_b130[pc]? = some (some E) → lk_vd1 (yX12_marks, cX12_marks, 7, ((some FieldType.int))) pc E := lk_vd_of [800, 57, 798, 799, 766, 57, 764, 765, 836, 770, 57, 768, 769, 772, 708, 776, 57, 773, 775, 28, 709, 776, 57, 773, 775, 28, 710, 837, 770, 57, 768, 769, 710, 772, 806, 57, 803, 805, 30, 713, 810, 57, 807, 809, 31] (by decide +kernel) (by decide +kernel)
set_option maxRecDepth 100000 in
theorem lk_vd_136 : ∀ (pc : Nat) (E : lk_E), lk_b136[pc]? = some (some E) → lk_vd1 (yX12_refusal, cX12_refusal, 3, ((some FieldType.int))) pc E := lk_vd_of [712, 776, 57, 773, 775, 28, 712, 867, 57, 865, 866, 776, 57, 773, 775, 28] (by decide +kernel) (by decide +kernel)
set_option maxRecDepth 100000 in
theorem lk_vd_140 : ∀ (pc : Nat) (E : lk_E), lk_b140[pc]? = some (some E) → lk_vd1 (yX12_turned4, cX12_turned4, 6, ((some FieldType.int))) pc E := lk_vd_of [713, 822, 57, 819, 821, 34] (by decide +kernel) (by decide +kernel)
set_option maxRecDepth 100000 in
theorem lk_vd_141 : ∀ (pc : Nat) (E : lk_E), lk_b141[pc]? = some (some E) → lk_vd1 (yX12_turn, cX12_turn, 6, ((some FieldType.int))) pc E := lk_vd_of [800, 57, 798, 799, 800, 57, 798, 799, 767, 770, 57, 768, 769, 772, 864, 57, 861, 863, 37, 713, 713, 713, 880, 57, 877, 879, 38, 806, 57, 803, 805, 30, 810, 57, 807, 809, 31] (by decide +kernel) (by decide +kernel)
set_option maxRecDepth 100000 in
theorem lk_vd_146 : ∀ (pc : Nat) (E : lk_E), lk_b146[pc]? = some (some E) → lk_vd1 (yX12_kind, cX12_kind, 2, ((some FieldType.int))) pc E := lk_vd_of [800, 57, 798, 799, 772, 712, 776, 57, 773, 775, 28, 712, 781, 57, 778, 780, 29] (by decide +kernel) (by decide +kernel)
set_option maxRecDepth 100000 in
theorem lk_vd_148 : ∀ (pc : Nat) (E : lk_E), lk_b148[pc]? = some (some E) → lk_vd1 (yX12_as, cX12_as, 4, ((some FieldType.int))) pc E := lk_vd_of [800, 57, 798, 799, 909, 770, 57, 768, 769, 772, 864, 57, 861, 863, 37, 713, 781, 57, 778, 780, 29] (by decide +kernel) (by decide +kernel)
set_option maxRecDepth 100000 in
theorem lk_vd_151 : ∀ (pc : Nat) (E : lk_E), lk_b151[pc]? = some (some E) → lk_vd1 (yX12_sizeOf, cX12_sizeOf, 4, ((some FieldType.int))) pc E := lk_vd_of [712, 925, 57, 922, 924, 43, 713, 925, 57, 922, 924, 43, 925, 57, 922, 924, 43, 925, 57, 922, 924, 43, 925, 57, 922, 924, 43, 713, 822, 57, 819, 821, 34, 929, 57, 926, 928, 44] (by decide +kernel) (by decide +kernel)
set_option maxRecDepth 100000 in
theorem lk_vd_158 : ∀ (pc : Nat) (E : lk_E), lk_b158[pc]? = some (some E) → lk_vd1 (yX12_isMove, cX12_isMove, 1, ((some FieldType.boolean))) pc E := lk_vd_of [953, 954, 770, 57, 768, 769] (by decide +kernel) (by decide +kernel)
set_option maxRecDepth 100000 in
theorem lk_vd_159 : ∀ (pc : Nat) (E : lk_E), lk_b159[pc]? = some (some E) → lk_vd1 (yX12_meeting, cX12_meeting, 6, ((some FieldType.int))) pc E := lk_vd_of [800, 57, 798, 799, 800, 57, 798, 799, 952, 57, 950, 951, 952, 57, 950, 951, 772, 864, 57, 861, 863, 37, 864, 57, 861, 863, 37, 958, 57, 955, 957, 46, 781, 57, 778, 780, 29] (by decide +kernel) (by decide +kernel)
set_option maxRecDepth 100000 in
theorem lk_vd_165 : ∀ (pc : Nat) (E : lk_E), lk_b165[pc]? = some (some E) → lk_vd1 (yX12_lonely, cX12_lonely, 4, ((some FieldType.int))) pc E := lk_vd_of [767, 770, 57, 768, 769, 770, 57, 768, 769, 772, 720, 892, 57, 889, 891, 40, 814, 57, 811, 813, 32, 720, 721, 983, 57, 980, 982, 48, 896, 57, 893, 895, 41, 720, 721] (by decide +kernel) (by decide +kernel)
set_option maxRecDepth 100000 in
theorem lk_vd_168 : ∀ (pc : Nat) (E : lk_E), lk_b168[pc]? = some (some E) → lk_vd1 (yX12_count, cX12_count, 4, ((some FieldType.int))) pc E := lk_vd_of [909, 770, 57, 768, 769, 772, 708, 712, 712, 867, 57, 865, 866] (by decide +kernel) (by decide +kernel)
