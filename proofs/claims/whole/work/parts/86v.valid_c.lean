set_option maxRecDepth 100000 in
theorem lk_vd_2 : ∀ (pc : Nat) (E : lk_E), lk_b2[pc]? = some (some E) → lk_vd1 (yX0_askMark, cX0_askMark, 2, ((some FieldType.int))) pc E := lk_vd_of [555, 52, 586, 553, 554, 594, 60, 587, 588, 316, 581, 279] (by decide +kernel) (by decide +kernel)
set_option maxRecDepth 100000 in
theorem lk_vd_6 : ∀ (pc : Nat) (E : lk_E), lk_b6[pc]? = some (some E) → lk_vd1 (yX1_search, cX1_search, 3, ((none))) pc E := lk_vd_of [473, 497, 66, 494, 496, 18, 473, 473, 509, 66, 506, 508, 20, 493, 66, 491, 492] (by decide +kernel) (by decide +kernel)
set_option maxRecDepth 100000 in
theorem lk_vd_10 : ∀ (pc : Nat) (E : lk_E), lk_b10[pc]? = some (some E) → lk_vd1 (yX1_code, cX1_code, 6, ((some FieldType.int))) pc E := lk_vd_of [] (by decide +kernel) (by decide +kernel)
set_option maxRecDepth 100000 in
theorem lk_vd_15 : ∀ (pc : Nat) (E : lk_E), lk_b15[pc]? = some (some E) → lk_vd1 (yX2_toldKind, cX2_toldKind, 1, ((some FieldType.int))) pc E := lk_vd_of [] (by decide +kernel) (by decide +kernel)
set_option maxRecDepth 100000 in
theorem lk_vd_16 : ∀ (pc : Nat) (E : lk_E), lk_b16[pc]? = some (some E) → lk_vd1 (yX2_secondAlike, cX2_secondAlike, 6, ((some FieldType.int))) pc E := lk_vd_of [271, 272, 271, 272, 271, 272, 271, 272, 271, 272, 271, 272, 271, 272, 271, 272, 271, 272, 271, 272, 271, 272, 271, 272, 271, 272, 271, 272, 271, 272, 271, 272, 271, 272, 271, 272, 271, 272, 271, 272, 271, 272, 271, 272, 271, 272, 271, 272, 271, 272] (by decide +kernel) (by decide +kernel)
set_option maxRecDepth 100000 in
theorem lk_vd_23 : ∀ (pc : Nat) (E : lk_E), lk_b23[pc]? = some (some E) → lk_vd1 (yX3_mostMovedByRows, cX3_mostMovedByRows, 8, ((some FieldType.int))) pc E := lk_vd_of [99, 116, 55, 637, 115, 99, 99, 638, 619, 59, 620] (by decide +kernel) (by decide +kernel)
set_option maxRecDepth 100000 in
theorem lk_vd_29 : ∀ (pc : Nat) (E : lk_E), lk_b29[pc]? = some (some E) → lk_vd1 (yX4_hasEachColumnOnce, cX4_hasEachColumnOnce, 6, ((some FieldType.boolean))) pc E := lk_vd_of [] (by decide +kernel) (by decide +kernel)
set_option maxRecDepth 100000 in
theorem lk_vd_35 : ∀ (pc : Nat) (E : lk_E), lk_b35[pc]? = some (some E) → lk_vd1 (yX4_columnsWithoutCorner, cX4_columnsWithoutCorner, 6, ((some (FieldType.array FieldType.int)))) pc E := lk_vd_of [273, 274, 273, 274, 273, 274, 273, 274, 273, 274, 92, 427, 61, 425, 426, 430, 61, 428, 429, 273, 274, 273, 274, 273, 274, 273, 274, 273, 274] (by decide +kernel) (by decide +kernel)
set_option maxRecDepth 100000 in
theorem lk_vd_47 : ∀ (pc : Nat) (E : lk_E), lk_b47[pc]? = some (some E) → lk_vd1 (yX7_search, cX7_search, 5, ((none))) pc E := lk_vd_of [118, 120, 120, 681, 54, 678, 680, 24, 118, 685, 54, 682, 684, 25, 677, 54, 675, 676, 685, 54, 682, 684, 25] (by decide +kernel) (by decide +kernel)
set_option maxRecDepth 100000 in
theorem lk_vd_57 : ∀ (pc : Nat) (E : lk_E), lk_b57[pc]? = some (some E) → lk_vd1 (yX9_askMark, cX9_askMark, 2, ((some FieldType.int))) pc E := lk_vd_of [555, 52, 579, 553, 554, 551, 61, 595, 548, 549, 550, 547, 578, 558, 63, 595, 548, 556, 557, 547, 578, 551, 61, 595, 548, 561, 550, 547, 578, 564, 65, 595, 548, 562, 563, 547, 578, 568, 64, 595, 548, 577, 567, 547, 578] (by decide +kernel) (by decide +kernel)
set_option maxRecDepth 100000 in
theorem lk_vd_61 : ∀ (pc : Nat) (E : lk_E), lk_b61[pc]? = some (some E) → lk_vd1 (yX10_init, cX10_init, 1, ((none))) pc E := lk_vd_of [84, 73, 74, 92, 85] (by decide +kernel) (by decide +kernel)
set_option maxRecDepth 100000 in
theorem lk_vd_62 : ∀ (pc : Nat) (E : lk_E), lk_b62[pc]? = some (some E) → lk_vd1 (yX10_empty, cX10_empty, 1, ((none))) pc E := lk_vd_of [86] (by decide +kernel) (by decide +kernel)
set_option maxRecDepth 100000 in
theorem lk_vd_64 : ∀ (pc : Nat) (E : lk_E), lk_b64[pc]? = some (some E) → lk_vd1 (yX10_number, cX10_number, 2, ((some FieldType.int))) pc E := lk_vd_of [86, 85, 604] (by decide +kernel) (by decide +kernel)
set_option maxRecDepth 100000 in
theorem lk_vd_66 : ∀ (pc : Nat) (E : lk_E), lk_b66[pc]? = some (some E) → lk_vd1 (yX11_sheet, cX11_sheet, 4, ((some FieldType.int))) pc E := lk_vd_of [181, 51, 179, 180, 182, 186, 51, 183, 185, 10, 153, 191, 56, 188, 189, 190, 196, 51, 193, 195, 11] (by decide +kernel) (by decide +kernel)
set_option maxRecDepth 100000 in
theorem lk_vd_69 : ∀ (pc : Nat) (E : lk_E), lk_b69[pc]? = some (some E) → lk_vd1 (yX11_drop, cX11_drop, 3, ((some FieldType.int))) pc E := lk_vd_of [181, 51, 179, 180, 182, 153, 139, 186, 51, 183, 185, 10, 139, 143, 196, 51, 193, 195, 11] (by decide +kernel) (by decide +kernel)
set_option maxRecDepth 100000 in
theorem lk_vd_72 : ∀ (pc : Nat) (E : lk_E), lk_b72[pc]? = some (some E) → lk_vd1 (yX11_powers, cX11_powers, 5, ((some FieldType.int))) pc E := lk_vd_of [226, 51, 224, 225, 389, 51, 387, 388, 392, 51, 390, 391, 182, 398, 51, 396, 397, 260, 61, 258, 259, 320, 51, 317, 319, 13] (by decide +kernel) (by decide +kernel)
set_option maxRecDepth 100000 in
theorem lk_vd_75 : ∀ (pc : Nat) (E : lk_E), lk_b75[pc]? = some (some E) → lk_vd1 (yX11_put, cX11_put, 5, ((some FieldType.int))) pc E := lk_vd_of [226, 51, 224, 225, 226, 51, 224, 225, 182, 413, 51, 410, 412, 15, 418, 51, 415, 417, 16, 186, 51, 183, 185, 10, 275, 274, 275, 274, 275, 274, 275, 274, 275, 274, 442, 448, 61, 443, 446, 447, 444, 444, 448, 448, 61, 443, 446, 445, 444, 444, 448, 260, 61, 258, 259, 320, 51, 317, 319, 13] (by decide +kernel) (by decide +kernel)
set_option maxRecDepth 100000 in
theorem lk_vd_78 : ∀ (pc : Nat) (E : lk_E), lk_b78[pc]? = some (some E) → lk_vd1 (yX11_clear, cX11_clear, 3, ((some FieldType.int))) pc E := lk_vd_of [226, 51, 224, 225, 182, 154, 154] (by decide +kernel) (by decide +kernel)
set_option maxRecDepth 100000 in
theorem lk_vd_82 : ∀ (pc : Nat) (E : lk_E), lk_b82[pc]? = some (some E) → lk_vd1 (yX11_ask, cX11_ask, 4, ((some FieldType.int))) pc E := lk_vd_of [226, 51, 224, 225, 182, 155, 545, 52, 542, 543, 544, 154, 186, 51, 183, 185, 10, 155, 551, 61, 546, 548, 549, 550, 547, 578, 558, 63, 546, 548, 556, 557, 547, 578, 551, 61, 546, 548, 561, 550, 547, 578, 564, 65, 546, 548, 562, 563, 547, 578, 568, 64, 546, 548, 577, 567, 547, 578, 155, 585, 62, 580, 582, 583, 584, 589, 576, 63, 580, 582, 590, 575, 589, 594, 60, 580, 582, 591, 581, 589, 576, 63, 580, 582, 592, 575, 589, 576, 63, 580, 582, 593, 575, 589, 196, 51, 193, 195, 11] (by decide +kernel) (by decide +kernel)
set_option maxRecDepth 100000 in
theorem lk_vd_89 : ∀ (pc : Nat) (E : lk_E), lk_b89[pc]? = some (some E) → lk_vd1 (yX11_echo, cX11_echo, 8, ((some FieldType.int))) pc E := lk_vd_of [226, 51, 224, 225, 181, 51, 179, 180, 182, 413, 51, 410, 412, 15, 418, 51, 415, 417, 16, 186, 51, 183, 185, 10, 230, 51, 227, 229, 12, 186, 51, 183, 185, 10, 156, 275, 274, 275, 274, 275, 274, 275, 274, 275, 274, 153, 137, 654, 53, 651, 652, 653, 196, 51, 193, 195, 11] (by decide +kernel) (by decide +kernel)
set_option maxRecDepth 100000 in
theorem lk_vd_99 : ∀ (pc : Nat) (E : lk_E), lk_b99[pc]? = some (some E) → lk_vd1 (yX11_findingOfItems, cX11_findingOfItems, 4, ((some FieldType.int))) pc E := lk_vd_of [153, 139, 153, 204, 56, 201, 202, 203] (by decide +kernel) (by decide +kernel)
set_option maxRecDepth 100000 in
theorem lk_vd_105 : ∀ (pc : Nat) (E : lk_E), lk_b105[pc]? = some (some E) → lk_vd1 (yX11_lonelyList, cX11_lonelyList, 2, ((some (FieldType.object "LonelyDots$LonelyList")))) pc E := lk_vd_of [157, 157, 466, 66, 464, 465, 157] (by decide +kernel) (by decide +kernel)
set_option maxRecDepth 100000 in
theorem lk_vd_109 : ∀ (pc : Nat) (E : lk_E), lk_b109[pc]? = some (some E) → lk_vd1 (yX11_columnsByPowers, cX11_columnsByPowers, 6, ((some (FieldType.array FieldType.int)))) pc E := lk_vd_of [92] (by decide +kernel) (by decide +kernel)
set_option maxRecDepth 100000 in
theorem lk_vd_115 : ∀ (pc : Nat) (E : lk_E), lk_b115[pc]? = some (some E) → lk_vd1 (yX12_isSheet, cX12_isSheet, 1, ((some FieldType.boolean))) pc E := lk_vd_of [767, 770, 57, 768, 769] (by decide +kernel) (by decide +kernel)
set_option maxRecDepth 100000 in
theorem lk_vd_117 : ∀ (pc : Nat) (E : lk_E), lk_b117[pc]? = some (some E) → lk_vd1 (yX12_set, cX12_set, 5, ((some FieldType.int))) pc E := lk_vd_of [766, 57, 764, 765, 772, 708, 776, 57, 773, 775, 28, 709, 770, 57, 768, 769, 776, 57, 773, 775, 28, 708, 708, 710, 781, 57, 778, 780, 29] (by decide +kernel) (by decide +kernel)
set_option maxRecDepth 100000 in
theorem lk_vd_123 : ∀ (pc : Nat) (E : lk_E), lk_b123[pc]? = some (some E) → lk_vd1 (yX12_areAlike, cX12_areAlike, 7, ((some FieldType.boolean))) pc E := lk_vd_of [822, 57, 819, 821, 34, 822, 57, 819, 821, 34, 822, 57, 819, 821, 34, 822, 57, 819, 821, 34] (by decide +kernel) (by decide +kernel)
set_option maxRecDepth 100000 in
theorem lk_vd_126 : ∀ (pc : Nat) (E : lk_E), lk_b126[pc]? = some (some E) → lk_vd1 (yX12_copyThing, cX12_copyThing, 4, ((none))) pc E := lk_vd_of [712, 712, 713, 713, 714, 714] (by decide +kernel) (by decide +kernel)
set_option maxRecDepth 100000 in
theorem lk_vd_128 : ∀ (pc : Nat) (E : lk_E), lk_b128[pc]? = some (some E) → lk_vd1 (yX12_make, cX12_make, 3, ((none))) pc E := lk_vd_of [714] (by decide +kernel) (by decide +kernel)
set_option maxRecDepth 100000 in
theorem lk_vd_129 : ∀ (pc : Nat) (E : lk_E), lk_b129[pc]? = some (some E) → lk_vd1 (yX12_order, cX12_order, 7, ((some FieldType.int))) pc E := lk_vd_of [800, 57, 798, 799, 766, 57, 764, 765, 802, 770, 57, 768, 769, 772, 708, 776, 57, 773, 775, 28, 709, 776, 57, 773, 775, 28, 719, 710, 770, 57, 768, 769, 719, 772, 719, 806, 57, 803, 805, 30, 713, 810, 57, 807, 809, 31] (by decide +kernel) (by decide +kernel)
set_option maxRecDepth 100000 in
theorem lk_vd_138 : ∀ (pc : Nat) (E : lk_E), lk_b138[pc]? = some (some E) → lk_vd1 (yX12_put, cX12_put, 7, ((some FieldType.int))) pc E := lk_vd_of [800, 57, 798, 799, 800, 57, 798, 799, 860, 770, 57, 768, 769, 772, 864, 57, 861, 863, 37, 713, 872, 713, 822, 57, 819, 821, 34, 806, 57, 803, 805, 30, 806, 57, 803, 805, 30, 810, 57, 807, 809, 31] (by decide +kernel) (by decide +kernel)
set_option maxRecDepth 100000 in
theorem lk_vd_144 : ∀ (pc : Nat) (E : lk_E), lk_b144[pc]? = some (some E) → lk_vd1 (yX12_nth, cX12_nth, 6, ((some FieldType.int))) pc E := lk_vd_of [800, 57, 798, 799, 767, 770, 57, 768, 769, 772, 892, 57, 889, 891, 40, 814, 57, 811, 813, 32, 810, 57, 807, 809, 31, 896, 57, 893, 895, 41, 823, 781, 57, 778, 780, 29] (by decide +kernel) (by decide +kernel)
set_option maxRecDepth 100000 in
theorem lk_vd_149 : ∀ (pc : Nat) (E : lk_E), lk_b149[pc]? = some (some E) → lk_vd1 (yX12_begins, cX12_begins, 2, ((none))) pc E := lk_vd_of [717, 716, 717, 717, 717] (by decide +kernel) (by decide +kernel)
set_option maxRecDepth 100000 in
theorem lk_vd_152 : ∀ (pc : Nat) (E : lk_E), lk_b152[pc]? = some (some E) → lk_vd1 (yX12_mark, cX12_mark, 4, ((some FieldType.int))) pc E := lk_vd_of [712, 929, 57, 926, 928, 44, 925, 57, 922, 924, 43, 925, 57, 922, 924, 43, 921, 57, 918, 920, 42] (by decide +kernel) (by decide +kernel)
set_option maxRecDepth 100000 in
theorem lk_vd_155 : ∀ (pc : Nat) (E : lk_E), lk_b155[pc]? = some (some E) → lk_vd1 (yX12_at, cX12_at, 3, ((some FieldType.int))) pc E := lk_vd_of [800, 57, 798, 799, 772, 712, 776, 57, 773, 775, 28, 713, 770, 57, 768, 769, 822, 57, 819, 821, 34, 781, 57, 778, 780, 29, 772] (by decide +kernel) (by decide +kernel)
set_option maxRecDepth 100000 in
theorem lk_vd_160 : ∀ (pc : Nat) (E : lk_E), lk_b160[pc]? = some (some E) → lk_vd1 (yX12_greatest, cX12_greatest, 8, ((some FieldType.int))) pc E := lk_vd_of [958, 57, 955, 957, 46] (by decide +kernel) (by decide +kernel)
set_option maxRecDepth 100000 in
theorem lk_vd_164 : ∀ (pc : Nat) (E : lk_E), lk_b164[pc]? = some (some E) → lk_vd1 (yX12_isLeast, cX12_isLeast, 4, ((some FieldType.boolean))) pc E := lk_vd_of [713, 880, 57, 877, 879, 38, 822, 57, 819, 821, 34] (by decide +kernel) (by decide +kernel)
set_option maxRecDepth 100000 in
theorem lk_vd_167 : ∀ (pc : Nat) (E : lk_E), lk_b167[pc]? = some (some E) → lk_vd1 (yX12_shortest, cX12_shortest, 3, ((some FieldType.int))) pc E := lk_vd_of [988, 770, 57, 768, 769, 772, 722, 722, 722, 992, 57, 989, 991, 49, 723, 723] (by decide +kernel) (by decide +kernel)
set_option maxRecDepth 100000 in
theorem lk_vd_169 : ∀ (pc : Nat) (E : lk_E), lk_b169[pc]? = some (some E) → lk_vd1 (yX12_status, cX12_status, 1, ((some FieldType.int))) pc E := lk_vd_of [715] (by decide +kernel) (by decide +kernel)
set_option maxRecDepth 100000 in
theorem lk_vd_170 : ∀ (pc : Nat) (E : lk_E), lk_b170[pc]? = some (some E) → lk_vd1 (yJ7_fill_53178, cJ7_fill_53178, 4, ((none))) pc E := lk_vd_of [] (by decide +kernel) (by decide +kernel)
set_option maxRecDepth 100000 in
theorem lk_vd_171 : ∀ (pc : Nat) (E : lk_E), lk_b171[pc]? = some (some E) → lk_vd1 (yJ7_checkLength_df160, cJ7_checkLength_df160, 2, ((none))) pc E := lk_vd_of [] (by decide +kernel) (by decide +kernel)
set_option maxRecDepth 100000 in
theorem lk_vd_172 : ∀ (pc : Nat) (E : lk_E), lk_b172[pc]? = some (some E) → lk_vd1 (yJ7_copyOfRange_feecc, cJ7_copyOfRange_feecc, 3, ((some (FieldType.array FieldType.int)))) pc E := lk_vd_of [240, 55, 238, 239] (by decide +kernel) (by decide +kernel)
