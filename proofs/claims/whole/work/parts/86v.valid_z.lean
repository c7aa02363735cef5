set_option maxRecDepth 100000 in
theorem lk_vd_3 : ∀ (pc : Nat) (E : lk_E), lk_b3[pc]? = some (some E) → lk_vd1 (yX1_init, cX1_init, 2, ((none))) pc E := lk_vd_of [472, 73, 74, 92, 475, 92, 473, 92, 474] (by decide +kernel) (by decide +kernel)
set_option maxRecDepth 100000 in
theorem lk_vd_8 : ∀ (pc : Nat) (E : lk_E), lk_b8[pc]? = some (some E) → lk_vd1 (yX1_keep, cX1_keep, 1, ((none))) pc E := lk_vd_of [476, 475, 476, 473, 500, 66, 498, 499, 476, 476, 504, 66, 501, 503, 19, 478, 478] (by decide +kernel) (by decide +kernel)
set_option maxRecDepth 100000 in
theorem lk_vd_11 : ∀ (pc : Nat) (E : lk_E), lk_b11[pc]? = some (some E) → lk_vd1 (yX2_init, cX2_init, 2, ((none))) pc E := lk_vd_of [268, 60, 354, 267] (by decide +kernel) (by decide +kernel)
set_option maxRecDepth 100000 in
theorem lk_vd_12 : ∀ (pc : Nat) (E : lk_E), lk_b12[pc]? = some (some E) → lk_vd1 (yX2_told, cX2_told, 2, ((some (FieldType.object "LonelyDots$Marks")))) pc E := lk_vd_of [349, 350, 63, 353, 63, 351, 352, 286, 60, 357, 358, 359, 285, 282, 286, 60, 357, 358, 360, 285, 282, 286, 60, 357, 358, 361, 285, 282, 362, 366, 63, 363, 1003, 14, 365, 365, 366, 367, 368, 65, 371, 65, 369, 370, 378, 379, 64, 374, 64, 380, 373] (by decide +kernel) (by decide +kernel)
set_option maxRecDepth 100000 in
theorem lk_vd_17 : ∀ (pc : Nat) (E : lk_E), lk_b17[pc]? = some (some E) → lk_vd1 (yX2_askSize, cX2_askSize, 2, ((some FieldType.int))) pc E := lk_vd_of [555, 52, 559, 553, 554, 578, 60, 560, 548, 356, 547, 271, 272, 271, 272, 271, 272, 271, 272, 271, 272, 271, 272, 271, 272, 271, 272, 271, 272, 271, 272] (by decide +kernel) (by decide +kernel)
set_option maxRecDepth 100000 in
theorem lk_vd_20 : ∀ (pc : Nat) (E : lk_E), lk_b20[pc]? = some (some E) → lk_vd1 (yX3_meetingDots, cX3_meetingDots, 7, ((some FieldType.int))) pc E := lk_vd_of [] (by decide +kernel) (by decide +kernel)
set_option maxRecDepth 100000 in
theorem lk_vd_26 : ∀ (pc : Nat) (E : lk_E), lk_b26[pc]? = some (some E) → lk_vd1 (yX3_firstBest, cX3_firstBest, 3, ((some FieldType.int))) pc E := lk_vd_of [100, 100, 100] (by decide +kernel) (by decide +kernel)
set_option maxRecDepth 100000 in
theorem lk_vd_27 : ∀ (pc : Nat) (E : lk_E), lk_b27[pc]? = some (some E) → lk_vd1 (yX4_init, cX4_init, 2, ((none))) pc E := lk_vd_of [268, 60, 266, 267] (by decide +kernel) (by decide +kernel)
set_option maxRecDepth 100000 in
theorem lk_vd_28 : ∀ (pc : Nat) (E : lk_E), lk_b28[pc]? = some (some E) → lk_vd1 (yX4_told, cX4_told, 2, ((some (FieldType.object "LonelyDots$Order")))) pc E := lk_vd_of [261, 262, 61, 265, 61, 263, 264, 286, 60, 280, 281, 283, 285, 282, 286, 60, 280, 281, 284, 285, 282, 308, 309, 310, 62, 313, 62, 311, 312] (by decide +kernel) (by decide +kernel)
set_option maxRecDepth 100000 in
theorem lk_vd_32 : ∀ (pc : Nat) (E : lk_E), lk_b32[pc]? = some (some E) → lk_vd1 (yX4_secondAlike, cX4_secondAlike, 5, ((some FieldType.int))) pc E := lk_vd_of [273, 274, 273, 274, 273, 274, 273, 274, 273, 274, 273, 274, 273, 274, 273, 274, 273, 274, 273, 274, 273, 274, 273, 274, 273, 274, 273, 274, 273, 274, 273, 274, 273, 274, 273, 274, 273, 274, 273, 274, 273, 274, 273, 274, 273, 274, 273, 274, 273, 274] (by decide +kernel) (by decide +kernel)
set_option maxRecDepth 100000 in
theorem lk_vd_36 : ∀ (pc : Nat) (E : lk_E), lk_b36[pc]? = some (some E) → lk_vd1 (yX4_columnsWithCorner, cX4_columnsWithCorner, 7, ((some (FieldType.array FieldType.int)))) pc E := lk_vd_of [273, 274, 273, 274, 273, 274, 273, 274, 273, 274, 92, 427, 61, 425, 426, 430, 61, 428, 429, 273, 274, 273, 274, 273, 274, 273, 274, 273, 274, 427, 61, 425, 426, 430, 61, 428, 429] (by decide +kernel) (by decide +kernel)
set_option maxRecDepth 100000 in
theorem lk_vd_50 : ∀ (pc : Nat) (E : lk_E), lk_b50[pc]? = some (some E) → lk_vd1 (yX8_init, cX8_init, 1, ((none))) pc E := lk_vd_of [135, 73, 74, 92, 136, 138] (by decide +kernel) (by decide +kernel)
set_option maxRecDepth 100000 in
theorem lk_vd_51 : ∀ (pc : Nat) (E : lk_E), lk_b51[pc]? = some (some E) → lk_vd1 (yX8_lay, cX8_lay, 3, ((none))) pc E := lk_vd_of [138, 140, 142, 136, 116, 55, 192, 115] (by decide +kernel) (by decide +kernel)
set_option maxRecDepth 100000 in
theorem lk_vd_54 : ∀ (pc : Nat) (E : lk_E), lk_b54[pc]? = some (some E) → lk_vd1 (yX8_read, cX8_read, 3, ((some (FieldType.array FieldType.int)))) pc E := lk_vd_of [136, 237, 55, 235, 236] (by decide +kernel) (by decide +kernel)
set_option maxRecDepth 100000 in
theorem lk_vd_58 : ∀ (pc : Nat) (E : lk_E), lk_b58[pc]? = some (some E) → lk_vd1 (yX9_partOfAlike, cX9_partOfAlike, 5, ((some FieldType.int))) pc E := lk_vd_of [270, 270, 270, 270, 270, 270, 270, 270, 270, 270, 290, 60, 287, 1001, 0, 289, 289, 290, 290, 60, 287, 1001, 1, 289, 289, 290, 290, 60, 287, 1001, 2, 289, 289, 290, 290, 60, 287, 1001, 3, 289, 289, 290, 290, 60, 287, 1001, 4, 289, 289, 290, 306, 60, 303, 1002, 5, 305, 305, 306, 306, 60, 303, 1002, 6, 305, 305, 306, 306, 60, 303, 1002, 7, 305, 305, 306, 306, 60, 303, 1002, 8, 305, 305, 306, 306, 60, 303, 1002, 9, 305, 305, 306, 307] (by decide +kernel) (by decide +kernel)
set_option maxRecDepth 100000 in
theorem lk_vd_68 : ∀ (pc : Nat) (E : lk_E), lk_b68[pc]? = some (some E) → lk_vd1 (yX11_copy, cX11_copy, 8, ((some FieldType.int))) pc E := lk_vd_of [181, 51, 179, 180, 181, 51, 179, 180, 182, 153, 153, 139, 139, 186, 51, 183, 185, 10, 141, 141, 186, 51, 183, 185, 10, 204, 56, 201, 202, 203, 204, 56, 201, 202, 203, 186, 51, 183, 185, 10, 137, 137, 213, 215, 214, 58, 196, 51, 193, 195, 11] (by decide +kernel) (by decide +kernel)
set_option maxRecDepth 100000 in
theorem lk_vd_73 : ∀ (pc : Nat) (E : lk_E), lk_b73[pc]? = some (some E) → lk_vd1 (yX11_sums, cX11_sums, 5, ((some FieldType.int))) pc E := lk_vd_of [226, 51, 224, 225, 389, 51, 387, 388, 392, 51, 390, 391, 392, 51, 390, 391, 182, 405, 51, 403, 404, 260, 61, 258, 259, 320, 51, 317, 319, 13] (by decide +kernel) (by decide +kernel)
set_option maxRecDepth 100000 in
theorem lk_vd_77 : ∀ (pc : Nat) (E : lk_E), lk_b77[pc]? = some (some E) → lk_vd1 (yX11_nth, cX11_nth, 5, ((some FieldType.int))) pc E := lk_vd_of [226, 51, 224, 225, 182, 463, 51, 460, 462, 17, 477, 431, 196, 51, 193, 195, 11, 510, 310, 62, 514, 66, 511, 512, 513, 313, 62, 515, 312, 320, 51, 317, 319, 13] (by decide +kernel) (by decide +kernel)
set_option maxRecDepth 100000 in
theorem lk_vd_81 : ∀ (pc : Nat) (E : lk_E), lk_b81[pc]? = some (some E) → lk_vd1 (yX11_as, cX11_as, 4, ((some FieldType.int))) pc E := lk_vd_of [226, 51, 224, 225, 182, 154, 186, 51, 183, 185, 10, 530, 51, 528, 529, 276, 276, 276, 276, 276, 196, 51, 193, 195, 11, 186, 51, 183, 185, 10] (by decide +kernel) (by decide +kernel)
set_option maxRecDepth 100000 in
theorem lk_vd_86 : ∀ (pc : Nat) (E : lk_E), lk_b86[pc]? = some (some E) → lk_vd1 (yX11_meeting, cX11_meeting, 7, ((some FieldType.int))) pc E := lk_vd_of [226, 51, 224, 225, 226, 51, 224, 225, 618, 619, 59, 620, 621, 245, 59, 246, 182, 413, 51, 410, 412, 15, 418, 51, 415, 417, 16, 186, 51, 183, 185, 10, 413, 51, 410, 412, 15, 418, 51, 415, 417, 16, 186, 51, 183, 185, 10, 275, 274, 275, 274, 275, 274, 275, 274, 275, 274, 275, 274, 275, 274, 275, 274, 275, 274, 275, 274, 624, 53, 622, 623, 196, 51, 193, 195, 11] (by decide +kernel) (by decide +kernel)
set_option maxRecDepth 100000 in
theorem lk_vd_91 : ∀ (pc : Nat) (E : lk_E), lk_b91[pc]? = some (some E) → lk_vd1 (yX11_shortest, cX11_shortest, 2, ((some FieldType.int))) pc E := lk_vd_of [182, 158, 674, 54, 671, 672, 673] (by decide +kernel) (by decide +kernel)
set_option maxRecDepth 100000 in
theorem lk_vd_93 : ∀ (pc : Nat) (E : lk_E), lk_b93[pc]? = some (some E) → lk_vd1 (yX11_status, cX11_status, 1, ((some FieldType.int))) pc E := lk_vd_of [159] (by decide +kernel) (by decide +kernel)
set_option maxRecDepth 100000 in
theorem lk_vd_95 : ∀ (pc : Nat) (E : lk_E), lk_b95[pc]? = some (some E) → lk_vd1 (yX11_isPlace, cX11_isPlace, 1, ((some FieldType.boolean))) pc E := lk_vd_of [] (by decide +kernel) (by decide +kernel)
set_option maxRecDepth 100000 in
theorem lk_vd_97 : ∀ (pc : Nat) (E : lk_E), lk_b97[pc]? = some (some E) → lk_vd1 (yX11_settled, cX11_settled, 2, ((some FieldType.int))) pc E := lk_vd_of [159] (by decide +kernel) (by decide +kernel)
set_option maxRecDepth 100000 in
theorem lk_vd_100 : ∀ (pc : Nat) (E : lk_E), lk_b100[pc]? = some (some E) → lk_vd1 (yX11_orderAt, cX11_orderAt, 3, ((some (FieldType.object "LonelyDots$Order")))) pc E := lk_vd_of [154, 414, 1012, 414, 1012] (by decide +kernel) (by decide +kernel)
set_option maxRecDepth 100000 in
theorem lk_vd_104 : ∀ (pc : Nat) (E : lk_E), lk_b104[pc]? = some (some E) → lk_vd1 (yX11_thingsOfKind, cX11_thingsOfKind, 4, ((some FieldType.int))) pc E := lk_vd_of [154, 530, 51, 528, 529] (by decide +kernel) (by decide +kernel)
set_option maxRecDepth 100000 in
theorem lk_vd_108 : ∀ (pc : Nat) (E : lk_E), lk_b108[pc]? = some (some E) → lk_vd1 (yX11_exponent, cX11_exponent, 5, ((some FieldType.int))) pc E := lk_vd_of [] (by decide +kernel) (by decide +kernel)
set_option maxRecDepth 100000 in
theorem lk_vd_112 : ∀ (pc : Nat) (E : lk_E), lk_b112[pc]? = some (some E) → lk_vd1 (yX12_in, cX12_in, 6, ((some FieldType.boolean))) pc E := lk_vd_of [] (by decide +kernel) (by decide +kernel)
set_option maxRecDepth 100000 in
theorem lk_vd_113 : ∀ (pc : Nat) (E : lk_E), lk_b113[pc]? = some (some E) → lk_vd1 (yX12_finds, cX12_finds, 2, ((some FieldType.int))) pc E := lk_vd_of [715, 777] (by decide +kernel) (by decide +kernel)
set_option maxRecDepth 100000 in
theorem lk_vd_114 : ∀ (pc : Nat) (E : lk_E), lk_b114[pc]? = some (some E) → lk_vd1 (yX12_well, cX12_well, 2, ((some FieldType.int))) pc E := lk_vd_of [715] (by decide +kernel) (by decide +kernel)
set_option maxRecDepth 100000 in
theorem lk_vd_116 : ∀ (pc : Nat) (E : lk_E), lk_b116[pc]? = some (some E) → lk_vd1 (yX12_sheet, cX12_sheet, 5, ((some FieldType.int))) pc E := lk_vd_of [766, 57, 764, 765, 771, 770, 57, 768, 769, 772, 776, 57, 773, 775, 28, 708, 709, 710, 781, 57, 778, 780, 29] (by decide +kernel) (by decide +kernel)
set_option maxRecDepth 100000 in
theorem lk_vd_120 : ∀ (pc : Nat) (E : lk_E), lk_b120[pc]? = some (some E) → lk_vd1 (yX12_isPlace, cX12_isPlace, 1, ((some FieldType.boolean))) pc E := lk_vd_of [801, 770, 57, 768, 769] (by decide +kernel) (by decide +kernel)
set_option maxRecDepth 100000 in
theorem lk_vd_122 : ∀ (pc : Nat) (E : lk_E), lk_b122[pc]? = some (some E) → lk_vd1 (yX12_at0, cX12_at0, 3, ((some FieldType.int))) pc E := lk_vd_of [714] (by decide +kernel) (by decide +kernel)
set_option maxRecDepth 100000 in
theorem lk_vd_124 : ∀ (pc : Nat) (E : lk_E), lk_b124[pc]? = some (some E) → lk_vd1 (yX12_findAlike, cX12_findAlike, 8, ((some FieldType.boolean))) pc E := lk_vd_of [713, 818, 57, 815, 817, 33, 718, 718, 718, 718, 718, 823] (by decide +kernel) (by decide +kernel)
set_option maxRecDepth 100000 in
theorem lk_vd_131 : ∀ (pc : Nat) (E : lk_E), lk_b131[pc]? = some (some E) → lk_vd1 (yX12_isPrime, cX12_isPrime, 1, ((some FieldType.boolean))) pc E := lk_vd_of [] (by decide +kernel) (by decide +kernel)
set_option maxRecDepth 100000 in
theorem lk_vd_133 : ∀ (pc : Nat) (E : lk_E), lk_b133[pc]? = some (some E) → lk_vd1 (yX12_power, cX12_power, 5, ((some FieldType.int))) pc E := lk_vd_of [] (by decide +kernel) (by decide +kernel)
set_option maxRecDepth 100000 in
theorem lk_vd_134 : ∀ (pc : Nat) (E : lk_E), lk_b134[pc]? = some (some E) → lk_vd1 (yX12_powers, cX12_powers, 6, ((some FieldType.int))) pc E := lk_vd_of [800, 57, 798, 799, 844, 57, 842, 843, 847, 57, 845, 846, 848, 770, 57, 768, 769, 772, 713, 851, 57, 849, 850, 806, 57, 803, 805, 30, 810, 57, 807, 809, 31] (by decide +kernel) (by decide +kernel)
set_option maxRecDepth 100000 in
theorem lk_vd_137 : ∀ (pc : Nat) (E : lk_E), lk_b137[pc]? = some (some E) → lk_vd1 (yX12_take, cX12_take, 9, ((some FieldType.int))) pc E := lk_vd_of [800, 57, 798, 799, 800, 57, 798, 799, 860, 770, 57, 768, 769, 772, 864, 57, 861, 863, 37, 713, 822, 57, 819, 821, 34, 823, 781, 57, 778, 780, 29, 713, 822, 57, 819, 821, 34, 806, 57, 803, 805, 30, 810, 57, 807, 809, 31] (by decide +kernel) (by decide +kernel)
set_option maxRecDepth 100000 in
theorem lk_vd_145 : ∀ (pc : Nat) (E : lk_E), lk_b145[pc]? = some (some E) → lk_vd1 (yX12_clear, cX12_clear, 3, ((some FieldType.int))) pc E := lk_vd_of [800, 57, 798, 799, 772, 712, 712] (by decide +kernel) (by decide +kernel)
set_option maxRecDepth 100000 in
theorem lk_vd_147 : ∀ (pc : Nat) (E : lk_E), lk_b147[pc]? = some (some E) → lk_vd1 (yX12_is, cX12_is, 3, ((some FieldType.int))) pc E := lk_vd_of [800, 57, 798, 799, 909, 770, 57, 768, 769, 772, 712, 712, 867, 57, 865, 866] (by decide +kernel) (by decide +kernel)
set_option maxRecDepth 100000 in
theorem lk_vd_150 : ∀ (pc : Nat) (E : lk_E), lk_b150[pc]? = some (some E) → lk_vd1 (yX12_countMarks, cX12_countMarks, 2, ((some FieldType.int))) pc E := lk_vd_of [925, 57, 922, 924, 43, 713] (by decide +kernel) (by decide +kernel)
set_option maxRecDepth 100000 in
theorem lk_vd_153 : ∀ (pc : Nat) (E : lk_E), lk_b153[pc]? = some (some E) → lk_vd1 (yX12_ask, cX12_ask, 3, ((some FieldType.int))) pc E := lk_vd_of [800, 57, 798, 799, 770, 57, 768, 769, 772, 717, 712, 776, 57, 773, 775, 28, 921, 57, 918, 920, 42, 933, 57, 930, 932, 45, 781, 57, 778, 780, 29] (by decide +kernel) (by decide +kernel)
set_option maxRecDepth 100000 in
theorem lk_vd_157 : ∀ (pc : Nat) (E : lk_E), lk_b157[pc]? = some (some E) → lk_vd1 (yX12_meet, cX12_meet, 7, ((some FieldType.int))) pc E := lk_vd_of [713, 713, 770, 57, 768, 769, 822, 57, 819, 821, 34, 822, 57, 819, 821, 34] (by decide +kernel) (by decide +kernel)
set_option maxRecDepth 100000 in
theorem lk_vd_162 : ∀ (pc : Nat) (E : lk_E), lk_b162[pc]? = some (some E) → lk_vd1 (yX12_together, cX12_together, 4, ((some FieldType.int))) pc E := lk_vd_of [800, 57, 798, 799, 800, 57, 798, 799, 772, 864, 57, 861, 863, 37, 864, 57, 861, 863, 37, 966, 57, 963, 965, 47, 781, 57, 778, 780, 29] (by decide +kernel) (by decide +kernel)
set_option maxRecDepth 100000 in
theorem lk_vd_166 : ∀ (pc : Nat) (E : lk_E), lk_b166[pc]? = some (some E) → lk_vd1 (yX12_canBe, cX12_canBe, 6, ((some FieldType.boolean))) pc E := lk_vd_of [724, 724, 806, 57, 803, 805, 30, 713, 724, 814, 57, 811, 813, 32, 724, 724, 724, 724, 724] (by decide +kernel) (by decide +kernel)
set_option maxRecDepth 100000 in
theorem lk_vd_173 : ∀ (pc : Nat) (E : lk_E), lk_b173[pc]? = some (some E) → lk_vd1 (yJ7_copyOfRangeInt_feecc, cJ7_copyOfRangeInt_feecc, 5, ((some (FieldType.array FieldType.int)))) pc E := lk_vd_of [243, 55, 241, 242, 92, 244, 245, 59, 246, 247, 215, 214, 58] (by decide +kernel) (by decide +kernel)
theorem lk_opt {l : List (Option lk_E)} {pc : Nat} {E : lk_E} (h : (match l[pc]? with
    | some (some e) => some e
    | _ => none) = some E) : l[pc]? = some (some E) := by
  split at h
  · rename_i e he
    cases h
    exact he
  · cases h
theorem lk_valid : lk_vd := by
  intro j pc E M hi hM
  unfold lk_ins at hi
  match j, hi, hM with
  | 0, hi, hM => cases hM; exact lk_vd_0 pc E (lk_opt (l := lk_b0) hi)
  | 1, hi, hM => cases hM; exact lk_vd_1 pc E (lk_opt (l := lk_b1) hi)
  | 2, hi, hM => cases hM; exact lk_vd_2 pc E (lk_opt (l := lk_b2) hi)
  | 3, hi, hM => cases hM; exact lk_vd_3 pc E (lk_opt (l := lk_b3) hi)
  | 4, hi, hM => cases hM; exact lk_vd_4 pc E (lk_opt (l := lk_b4) hi)
  | 5, hi, hM => cases hM; exact lk_vd_5 pc E (lk_opt (l := lk_b5) hi)
  | 6, hi, hM => cases hM; exact lk_vd_6 pc E (lk_opt (l := lk_b6) hi)
  | 7, hi, hM => cases hM; exact lk_vd_7 pc E (lk_opt (l := lk_b7) hi)
  | 8, hi, hM => cases hM; exact lk_vd_8 pc E (lk_opt (l := lk_b8) hi)
  | 9, hi, hM => cases hM; exact lk_vd_9 pc E (lk_opt (l := lk_b9) hi)
  | 10, hi, hM => cases hM; exact lk_vd_10 pc E (lk_opt (l := lk_b10) hi)
  | 11, hi, hM => cases hM; exact lk_vd_11 pc E (lk_opt (l := lk_b11) hi)
  | 12, hi, hM => cases hM; exact lk_vd_12 pc E (lk_opt (l := lk_b12) hi)
  | 13, hi, hM => cases hM; exact lk_vd_13 pc E (lk_opt (l := lk_b13) hi)
  | 14, hi, hM => cases hM; exact lk_vd_14 pc E (lk_opt (l := lk_b14) hi)
  | 15, hi, hM => cases hM; exact lk_vd_15 pc E (lk_opt (l := lk_b15) hi)
  | 16, hi, hM => cases hM; exact lk_vd_16 pc E (lk_opt (l := lk_b16) hi)
  | 17, hi, hM => cases hM; exact lk_vd_17 pc E (lk_opt (l := lk_b17) hi)
  | 18, hi, hM => cases hM; exact lk_vd_18 pc E (lk_opt (l := lk_b18) hi)
  | 19, hi, hM => cases hM; exact lk_vd_19 pc E (lk_opt (l := lk_b19) hi)
  | 20, hi, hM => cases hM; exact lk_vd_20 pc E (lk_opt (l := lk_b20) hi)
  | 21, hi, hM => cases hM; exact lk_vd_21 pc E (lk_opt (l := lk_b21) hi)
  | 22, hi, hM => cases hM; exact lk_vd_22 pc E (lk_opt (l := lk_b22) hi)
  | 23, hi, hM => cases hM; exact lk_vd_23 pc E (lk_opt (l := lk_b23) hi)
  | 24, hi, hM => cases hM; exact lk_vd_24 pc E (lk_opt (l := lk_b24) hi)
  | 25, hi, hM => cases hM; exact lk_vd_25 pc E (lk_opt (l := lk_b25) hi)
  | 26, hi, hM => cases hM; exact lk_vd_26 pc E (lk_opt (l := lk_b26) hi)
  | 27, hi, hM => cases hM; exact lk_vd_27 pc E (lk_opt (l := lk_b27) hi)
  | 28, hi, hM => cases hM; exact lk_vd_28 pc E (lk_opt (l := lk_b28) hi)
  | 29, hi, hM => cases hM; exact lk_vd_29 pc E (lk_opt (l := lk_b29) hi)
  | 30, hi, hM => cases hM; exact lk_vd_30 pc E (lk_opt (l := lk_b30) hi)
  | 31, hi, hM => cases hM; exact lk_vd_31 pc E (lk_opt (l := lk_b31) hi)
  | 32, hi, hM => cases hM; exact lk_vd_32 pc E (lk_opt (l := lk_b32) hi)
  | 33, hi, hM => cases hM; exact lk_vd_33 pc E (lk_opt (l := lk_b33) hi)
  | 34, hi, hM => cases hM; exact lk_vd_34 pc E (lk_opt (l := lk_b34) hi)
  | 35, hi, hM => cases hM; exact lk_vd_35 pc E (lk_opt (l := lk_b35) hi)
  | 36, hi, hM => cases hM; exact lk_vd_36 pc E (lk_opt (l := lk_b36) hi)
  | 37, hi, hM => cases hM; exact lk_vd_37 pc E (lk_opt (l := lk_b37) hi)
  | 38, hi, hM => cases hM; exact lk_vd_38 pc E (lk_opt (l := lk_b38) hi)
  | 39, hi, hM => cases hM; exact lk_vd_39 pc E (lk_opt (l := lk_b39) hi)
  | 40, hi, hM => cases hM; exact lk_vd_40 pc E (lk_opt (l := lk_b40) hi)
  | 41, hi, hM => cases hM; exact lk_vd_41 pc E (lk_opt (l := lk_b41) hi)
  | 42, hi, hM => cases hM; exact lk_vd_42 pc E (lk_opt (l := lk_b42) hi)
  | 43, hi, hM => cases hM; exact lk_vd_43 pc E (lk_opt (l := lk_b43) hi)
  | 44, hi, hM => cases hM; exact lk_vd_44 pc E (lk_opt (l := lk_b44) hi)
  | 45, hi, hM => cases hM; exact lk_vd_45 pc E (lk_opt (l := lk_b45) hi)
  | 46, hi, hM => cases hM; exact lk_vd_46 pc E (lk_opt (l := lk_b46) hi)
  | 47, hi, hM => cases hM; exact lk_vd_47 pc E (lk_opt (l := lk_b47) hi)
  | 48, hi, hM => cases hM; exact lk_vd_48 pc E (lk_opt (l := lk_b48) hi)
  | 49, hi, hM => cases hM; exact lk_vd_49 pc E (lk_opt (l := lk_b49) hi)
  | 50, hi, hM => cases hM; exact lk_vd_50 pc E (lk_opt (l := lk_b50) hi)
  | 51, hi, hM => cases hM; exact lk_vd_51 pc E (lk_opt (l := lk_b51) hi)
  | 52, hi, hM => cases hM; exact lk_vd_52 pc E (lk_opt (l := lk_b52) hi)
  | 53, hi, hM => cases hM; exact lk_vd_53 pc E (lk_opt (l := lk_b53) hi)
  | 54, hi, hM => cases hM; exact lk_vd_54 pc E (lk_opt (l := lk_b54) hi)
  | 55, hi, hM => cases hM; exact lk_vd_55 pc E (lk_opt (l := lk_b55) hi)
  | 56, hi, hM => cases hM; exact lk_vd_56 pc E (lk_opt (l := lk_b56) hi)
  | 57, hi, hM => cases hM; exact lk_vd_57 pc E (lk_opt (l := lk_b57) hi)
  | 58, hi, hM => cases hM; exact lk_vd_58 pc E (lk_opt (l := lk_b58) hi)
  | 59, hi, hM => cases hM; exact lk_vd_59 pc E (lk_opt (l := lk_b59) hi)
  | 60, hi, hM => cases hM; exact lk_vd_60 pc E (lk_opt (l := lk_b60) hi)
  | 61, hi, hM => cases hM; exact lk_vd_61 pc E (lk_opt (l := lk_b61) hi)
  | 62, hi, hM => cases hM; exact lk_vd_62 pc E (lk_opt (l := lk_b62) hi)
  | 63, hi, hM => cases hM; exact lk_vd_63 pc E (lk_opt (l := lk_b63) hi)
  | 64, hi, hM => cases hM; exact lk_vd_64 pc E (lk_opt (l := lk_b64) hi)
  | 65, hi, hM => cases hM; exact lk_vd_65 pc E (lk_opt (l := lk_b65) hi)
  | 66, hi, hM => cases hM; exact lk_vd_66 pc E (lk_opt (l := lk_b66) hi)
  | 67, hi, hM => cases hM; exact lk_vd_67 pc E (lk_opt (l := lk_b67) hi)
  | 68, hi, hM => cases hM; exact lk_vd_68 pc E (lk_opt (l := lk_b68) hi)
  | 69, hi, hM => cases hM; exact lk_vd_69 pc E (lk_opt (l := lk_b69) hi)
  | 70, hi, hM => cases hM; exact lk_vd_70 pc E (lk_opt (l := lk_b70) hi)
  | 71, hi, hM => cases hM; exact lk_vd_71 pc E (lk_opt (l := lk_b71) hi)
  | 72, hi, hM => cases hM; exact lk_vd_72 pc E (lk_opt (l := lk_b72) hi)
  | 73, hi, hM => cases hM; exact lk_vd_73 pc E (lk_opt (l := lk_b73) hi)
  | 74, hi, hM => cases hM; exact lk_vd_74 pc E (lk_opt (l := lk_b74) hi)
  | 75, hi, hM => cases hM; exact lk_vd_75 pc E (lk_opt (l := lk_b75) hi)
  | 76, hi, hM => cases hM; exact lk_vd_76 pc E (lk_opt (l := lk_b76) hi)
  | 77, hi, hM => cases hM; exact lk_vd_77 pc E (lk_opt (l := lk_b77) hi)
  | 78, hi, hM => cases hM; exact lk_vd_78 pc E (lk_opt (l := lk_b78) hi)
  | 79, hi, hM => cases hM; exact lk_vd_79 pc E (lk_opt (l := lk_b79) hi)
  | 80, hi, hM => cases hM; exact lk_vd_80 pc E (lk_opt (l := lk_b80) hi)
  | 81, hi, hM => cases hM; exact lk_vd_81 pc E (lk_opt (l := lk_b81) hi)
  | 82, hi, hM => cases hM; exact lk_vd_82 pc E (lk_opt (l := lk_b82) hi)
  | 83, hi, hM => cases hM; exact lk_vd_83 pc E (lk_opt (l := lk_b83) hi)
  | 84, hi, hM => cases hM; exact lk_vd_84 pc E (lk_opt (l := lk_b84) hi)
  | 85, hi, hM => cases hM; exact lk_vd_85 pc E (lk_opt (l := lk_b85) hi)
  | 86, hi, hM => cases hM; exact lk_vd_86 pc E (lk_opt (l := lk_b86) hi)
  | 87, hi, hM => cases hM; exact lk_vd_87 pc E (lk_opt (l := lk_b87) hi)
  | 88, hi, hM => cases hM; exact lk_vd_88 pc E (lk_opt (l := lk_b88) hi)
  | 89, hi, hM => cases hM; exact lk_vd_89 pc E (lk_opt (l := lk_b89) hi)
  | 90, hi, hM => cases hM; exact lk_vd_90 pc E (lk_opt (l := lk_b90) hi)
  | 91, hi, hM => cases hM; exact lk_vd_91 pc E (lk_opt (l := lk_b91) hi)
  | 92, hi, hM => cases hM; exact lk_vd_92 pc E (lk_opt (l := lk_b92) hi)
  | 93, hi, hM => cases hM; exact lk_vd_93 pc E (lk_opt (l := lk_b93) hi)
  | 94, hi, hM => cases hM; exact lk_vd_94 pc E (lk_opt (l := lk_b94) hi)
  | 95, hi, hM => cases hM; exact lk_vd_95 pc E (lk_opt (l := lk_b95) hi)
  | 96, hi, hM => cases hM; exact lk_vd_96 pc E (lk_opt (l := lk_b96) hi)
  | 97, hi, hM => cases hM; exact lk_vd_97 pc E (lk_opt (l := lk_b97) hi)
  | 98, hi, hM => cases hM; exact lk_vd_98 pc E (lk_opt (l := lk_b98) hi)
  | 99, hi, hM => cases hM; exact lk_vd_99 pc E (lk_opt (l := lk_b99) hi)
  | 100, hi, hM => cases hM; exact lk_vd_100 pc E (lk_opt (l := lk_b100) hi)
  | 101, hi, hM => cases hM; exact lk_vd_101 pc E (lk_opt (l := lk_b101) hi)
  | 102, hi, hM => cases hM; exact lk_vd_102 pc E (lk_opt (l := lk_b102) hi)
  | 103, hi, hM => cases hM; exact lk_vd_103 pc E (lk_opt (l := lk_b103) hi)
  | 104, hi, hM => cases hM; exact lk_vd_104 pc E (lk_opt (l := lk_b104) hi)
  | 105, hi, hM => cases hM; exact lk_vd_105 pc E (lk_opt (l := lk_b105) hi)
  | 106, hi, hM => cases hM; exact lk_vd_106 pc E (lk_opt (l := lk_b106) hi)
  | 107, hi, hM => cases hM; exact lk_vd_107 pc E (lk_opt (l := lk_b107) hi)
  | 108, hi, hM => cases hM; exact lk_vd_108 pc E (lk_opt (l := lk_b108) hi)
  | 109, hi, hM => cases hM; exact lk_vd_109 pc E (lk_opt (l := lk_b109) hi)
  | 110, hi, hM => cases hM; exact lk_vd_110 pc E (lk_opt (l := lk_b110) hi)
  | 111, hi, hM => cases hM; exact lk_vd_111 pc E (lk_opt (l := lk_b111) hi)
  | 112, hi, hM => cases hM; exact lk_vd_112 pc E (lk_opt (l := lk_b112) hi)
  | 113, hi, hM => cases hM; exact lk_vd_113 pc E (lk_opt (l := lk_b113) hi)
  | 114, hi, hM => cases hM; exact lk_vd_114 pc E (lk_opt (l := lk_b114) hi)
  | 115, hi, hM => cases hM; exact lk_vd_115 pc E (lk_opt (l := lk_b115) hi)
  | 116, hi, hM => cases hM; exact lk_vd_116 pc E (lk_opt (l := lk_b116) hi)
  | 117, hi, hM => cases hM; exact lk_vd_117 pc E (lk_opt (l := lk_b117) hi)
  | 118, hi, hM => cases hM; exact lk_vd_118 pc E (lk_opt (l := lk_b118) hi)
  | 119, hi, hM => cases hM; exact lk_vd_119 pc E (lk_opt (l := lk_b119) hi)
  | 120, hi, hM => cases hM; exact lk_vd_120 pc E (lk_opt (l := lk_b120) hi)
  | 121, hi, hM => cases hM; exact lk_vd_121 pc E (lk_opt (l := lk_b121) hi)
  | 122, hi, hM => cases hM; exact lk_vd_122 pc E (lk_opt (l := lk_b122) hi)
  | 123, hi, hM => cases hM; exact lk_vd_123 pc E (lk_opt (l := lk_b123) hi)
  | 124, hi, hM => cases hM; exact lk_vd_124 pc E (lk_opt (l := lk_b124) hi)
  | 125, hi, hM => cases hM; exact lk_vd_125 pc E (lk_opt (l := lk_b125) hi)
  | 126, hi, hM => cases hM; exact lk_vd_126 pc E (lk_opt (l := lk_b126) hi)
  | 127, hi, hM => cases hM; exact lk_vd_127 pc E (lk_opt (l := lk_b127) hi)
  | 128, hi, hM => cases hM; exact lk_vd_128 pc E (lk_opt (l := lk_b128) hi)
  | 129, hi, hM => cases hM; exact lk_vd_129 pc E (lk_opt (l := lk_b129) hi)
  | 130, hi, hM => cases hM; exact lk_vd_130 pc E (lk_opt (l := lk_b130) hi)
  | 131, hi, hM => cases hM; exact lk_vd_131 pc E (lk_opt (l := lk_b131) hi)
  | 132, hi, hM => cases hM; exact lk_vd_132 pc E (lk_opt (l := lk_b132) hi)
  | 133, hi, hM => cases hM; exact lk_vd_133 pc E (lk_opt (l := lk_b133) hi)
  | 134, hi, hM => cases hM; exact lk_vd_134 pc E (lk_opt (l := lk_b134) hi)
  | 135, hi, hM => cases hM; exact lk_vd_135 pc E (lk_opt (l := lk_b135) hi)
  | 136, hi, hM => cases hM; exact lk_vd_136 pc E (lk_opt (l := lk_b136) hi)
  | 137, hi, hM => cases hM; exact lk_vd_137 pc E (lk_opt (l := lk_b137) hi)
  | 138, hi, hM => cases hM; exact lk_vd_138 pc E (lk_opt (l := lk_b138) hi)
  | 139, hi, hM => cases hM; exact lk_vd_139 pc E (lk_opt (l := lk_b139) hi)
  | 140, hi, hM => cases hM; exact lk_vd_140 pc E (lk_opt (l := lk_b140) hi)
  | 141, hi, hM => cases hM; exact lk_vd_141 pc E (lk_opt (l := lk_b141) hi)
  | 142, hi, hM => cases hM; exact lk_vd_142 pc E (lk_opt (l := lk_b142) hi)
  | 143, hi, hM => cases hM; exact lk_vd_143 pc E (lk_opt (l := lk_b143) hi)
  | 144, hi, hM => cases hM; exact lk_vd_144 pc E (lk_opt (l := lk_b144) hi)
  | 145, hi, hM => cases hM; exact lk_vd_145 pc E (lk_opt (l := lk_b145) hi)
  | 146, hi, hM => cases hM; exact lk_vd_146 pc E (lk_opt (l := lk_b146) hi)
  | 147, hi, hM => cases hM; exact lk_vd_147 pc E (lk_opt (l := lk_b147) hi)
  | 148, hi, hM => cases hM; exact lk_vd_148 pc E (lk_opt (l := lk_b148) hi)
  | 149, hi, hM => cases hM; exact lk_vd_149 pc E (lk_opt (l := lk_b149) hi)
  | 150, hi, hM => cases hM; exact lk_vd_150 pc E (lk_opt (l := lk_b150) hi)
  | 151, hi, hM => cases hM; exact lk_vd_151 pc E (lk_opt (l := lk_b151) hi)
  | 152, hi, hM => cases hM; exact lk_vd_152 pc E (lk_opt (l := lk_b152) hi)
  | 153, hi, hM => cases hM; exact lk_vd_153 pc E (lk_opt (l := lk_b153) hi)
  | 154, hi, hM => cases hM; exact lk_vd_154 pc E (lk_opt (l := lk_b154) hi)
  | 155, hi, hM => cases hM; exact lk_vd_155 pc E (lk_opt (l := lk_b155) hi)
  | 156, hi, hM => cases hM; exact lk_vd_156 pc E (lk_opt (l := lk_b156) hi)
  | 157, hi, hM => cases hM; exact lk_vd_157 pc E (lk_opt (l := lk_b157) hi)
  | 158, hi, hM => cases hM; exact lk_vd_158 pc E (lk_opt (l := lk_b158) hi)
  | 159, hi, hM => cases hM; exact lk_vd_159 pc E (lk_opt (l := lk_b159) hi)
  | 160, hi, hM => cases hM; exact lk_vd_160 pc E (lk_opt (l := lk_b160) hi)
  | 161, hi, hM => cases hM; exact lk_vd_161 pc E (lk_opt (l := lk_b161) hi)
  | 162, hi, hM => cases hM; exact lk_vd_162 pc E (lk_opt (l := lk_b162) hi)
  | 163, hi, hM => cases hM; exact lk_vd_163 pc E (lk_opt (l := lk_b163) hi)
  | 164, hi, hM => cases hM; exact lk_vd_164 pc E (lk_opt (l := lk_b164) hi)
  | 165, hi, hM => cases hM; exact lk_vd_165 pc E (lk_opt (l := lk_b165) hi)
  | 166, hi, hM => cases hM; exact lk_vd_166 pc E (lk_opt (l := lk_b166) hi)
  | 167, hi, hM => cases hM; exact lk_vd_167 pc E (lk_opt (l := lk_b167) hi)
  | 168, hi, hM => cases hM; exact lk_vd_168 pc E (lk_opt (l := lk_b168) hi)
  | 169, hi, hM => cases hM; exact lk_vd_169 pc E (lk_opt (l := lk_b169) hi)
  | 170, hi, hM => cases hM; exact lk_vd_170 pc E (lk_opt (l := lk_b170) hi)
  | 171, hi, hM => cases hM; exact lk_vd_171 pc E (lk_opt (l := lk_b171) hi)
  | 172, hi, hM => cases hM; exact lk_vd_172 pc E (lk_opt (l := lk_b172) hi)
  | 173, hi, hM => cases hM; exact lk_vd_173 pc E (lk_opt (l := lk_b173) hi)
  | 174, hi, hM => cases hM; exact lk_vd_174 pc E (lk_opt (l := lk_b174) hi)
  | j + 175, hi, hM => exact absurd (List.getElem?_eq_some_iff.mp hM).1 (by show ¬ j + 175 < 175; omega)
