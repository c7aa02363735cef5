/-! the tables hold, by program -/
def lk_chk1 (M : lk_M) (q : Option lk_E × Nat) : Bool := match q.1 with
  | some E => decide (decode M.2.1 q.2 = .ok (E.1, E.2.1)) && lk_ls E.1 E.2.1 && lk_sd M.1.cls M.1.name q.2 E.1 E.2.2 && lk_sc E.1 E.2.2
  | none => true
def lk_words (own : String) (l : List (Option lk_E)) : List Cond := l.flatMap (fun q => match q with
  | some E => lk_wd own E.1 E.2.2 ++ lk_wc own E.1 E.2.2
  | none => [])
theorem lk_vd_of {M : lk_M} {l : List (Option lk_E)} (ps : List Nat) (h1 : l.zipIdx.all (lk_chk1 M) = true) (h2 : lk_words M.1.cls l = ps.filterMap (fun i => lk_tbl[i]?)) : ∀ (pc : Nat) (E : lk_E), l[pc]? = some (some E) → lk_vd1 M pc E := by
  intro pc E hE
  have h3 := List.all_eq_true.mp h1 (some E, pc) (by
    refine List.mem_of_getElem? (i := pc) ?_
    rw [List.getElem?_zipIdx, hE]
    simp)
  simp only [lk_chk1, Bool.and_eq_true, decide_eq_true_eq] at h3
  have h4 : ∀ w ∈ lk_wd M.1.cls E.1 E.2.2 ++ lk_wc M.1.cls E.1 E.2.2, w ∈ lk_tbl := by
    intro w hw
    have h5 : w ∈ lk_words M.1.cls l := List.mem_flatMap.mpr ⟨some E, List.mem_of_getElem? hE, hw⟩
    rw [h2] at h5
    obtain ⟨i, -, hi⟩ := List.mem_filterMap.mp h5
    exact List.mem_of_getElem? hi
  exact ⟨h3.1.1.1, h3.1.1.2, fun w hw => h4 w (List.mem_append_left _ hw), h3.1.2, fun w hw => h4 w (List.mem_append_right _ hw), h3.2⟩
theorem lk_vd_ofo {M : lk_M} {l : List (Option lk_E)} (o : Nat) (ps : List Nat) (h1 : (l.zipIdx o).all (lk_chk1 M) = true) (h2 : lk_words M.1.cls l = ps.filterMap (fun i => lk_tbl[i]?)) : ∀ (pc : Nat) (E : lk_E), l[pc]? = some (some E) → lk_vd1 M (o + pc) E := by
  intro pc E hE
  have h3 := List.all_eq_true.mp h1 (some E, o + pc) (by
    refine List.mem_of_getElem? (i := pc) ?_
    rw [List.getElem?_zipIdx, hE]
    simp)
  simp only [lk_chk1, Bool.and_eq_true, decide_eq_true_eq] at h3
  have h4 : ∀ w ∈ lk_wd M.1.cls E.1 E.2.2 ++ lk_wc M.1.cls E.1 E.2.2, w ∈ lk_tbl := by
    intro w hw
    have h5 : w ∈ lk_words M.1.cls l := List.mem_flatMap.mpr ⟨some E, List.mem_of_getElem? hE, hw⟩
    rw [h2] at h5
    obtain ⟨i, -, hi⟩ := List.mem_filterMap.mp h5
    exact List.mem_of_getElem? hi
  exact ⟨h3.1.1.1, h3.1.1.2, fun w hw => h4 w (List.mem_append_left _ hw), h3.1.2, fun w hw => h4 w (List.mem_append_right _ hw), h3.2⟩
theorem lk_vd_app {M : lk_M} {l1 l2 : List (Option lk_E)} {o o2 : Nat} (ho : o + l1.length = o2) (h1 : ∀ (pc : Nat) (E : lk_E), l1[pc]? = some (some E) → lk_vd1 M (o + pc) E) (h2 : ∀ (pc : Nat) (E : lk_E), l2[pc]? = some (some E) → lk_vd1 M (o2 + pc) E) : ∀ (pc : Nat) (E : lk_E), (l1 ++ l2)[pc]? = some (some E) → lk_vd1 M (o + pc) E := by
  intro pc E hE
  by_cases hp : pc < l1.length
  · rw [List.getElem?_append_left hp] at hE
    exact h1 pc E hE
  · rw [List.getElem?_append_right (by omega)] at hE
    have h3 := h2 _ E hE
    rw [show o2 + (pc - l1.length) = o + pc by omega] at h3
    exact h3
set_option maxRecDepth 100000 in
theorem lk_vd_0 : ∀ (pc : Nat) (E : lk_E), lk_b0[pc]? = some (some E) → lk_vd1 (yX0_init, cX0_init, 2, ((none))) pc E := lk_vd_of [265, 61, 314, 264] (by decide +kernel) (by decide +kernel)
set_option maxRecDepth 100000 in
theorem lk_vd_5 : ∀ (pc : Nat) (E : lk_E), lk_b5[pc]? = some (some E) → lk_vd1 (yX1_columnsOf, cX1_columnsOf, 5, ((some (FieldType.array FieldType.int)))) pc E := lk_vd_of [473, 92, 475] (by decide +kernel) (by decide +kernel)
set_option maxRecDepth 100000 in
theorem lk_vd_9 : ∀ (pc : Nat) (E : lk_E), lk_b9[pc]? = some (some E) → lk_vd1 (yX1_isFirstOfItsTurns, cX1_isFirstOfItsTurns, 3, ((some FieldType.boolean))) pc E := lk_vd_of [473, 500, 66, 498, 499, 474, 473, 455, 61, 505, 454, 474, 500, 66, 498, 499] (by decide +kernel) (by decide +kernel)
set_option maxRecDepth 100000 in
theorem lk_vd_14 : ∀ (pc : Nat) (E : lk_E), lk_b14[pc]? = some (some E) → lk_vd1 (yX2_hasAllDistances, cX2_hasAllDistances, 2, ((some FieldType.boolean))) pc E := lk_vd_of [271, 272, 271, 272, 271, 272, 271, 272, 271, 272, 271, 272, 271, 272, 271, 272, 271, 272, 271, 272, 271, 272, 271, 272, 271, 272, 271, 272, 271, 272] (by decide +kernel) (by decide +kernel)
set_option maxRecDepth 100000 in
theorem lk_vd_18 : ∀ (pc : Nat) (E : lk_E), lk_b18[pc]? = some (some E) → lk_vd1 (yX2_askMark, cX2_askMark, 2, ((some FieldType.int))) pc E := lk_vd_of [555, 52, 559, 553, 554, 271, 272, 271, 272, 271, 272, 271, 272, 271, 272] (by decide +kernel) (by decide +kernel)
set_option maxRecDepth 100000 in
theorem lk_vd_21 : ∀ (pc : Nat) (E : lk_E), lk_b21[pc]? = some (some E) → lk_vd1 (yX3_mostOfTwo, cX3_mostOfTwo, 5, ((some FieldType.int))) pc E := lk_vd_of [636, 53, 633, 635, 21, 638, 619, 59, 620] (by decide +kernel) (by decide +kernel)
set_option maxRecDepth 100000 in
theorem lk_vd_24 : ∀ (pc : Nat) (E : lk_E), lk_b24[pc]? = some (some E) → lk_vd1 (yX3_partOfEcho, cX3_partOfEcho, 7, ((some FieldType.int))) pc E := lk_vd_of [100, 116, 55, 637, 115, 658, 53, 655, 657, 22, 662, 53, 659, 661, 23, 100] (by decide +kernel) (by decide +kernel)
set_option maxRecDepth 100000 in
theorem lk_vd_31 : ∀ (pc : Nat) (E : lk_E), lk_b31[pc]? = some (some E) → lk_vd1 (yX4_toldKind, cX4_toldKind, 1, ((some FieldType.int))) pc E := lk_vd_of [] (by decide +kernel) (by decide +kernel)
set_option maxRecDepth 100000 in
theorem lk_vd_33 : ∀ (pc : Nat) (E : lk_E), lk_b33[pc]? = some (some E) → lk_vd1 (yX4_askSize, cX4_askSize, 2, ((some FieldType.int))) pc E := lk_vd_of [555, 52, 552, 553, 554, 273, 274, 273, 274, 273, 274, 273, 274, 273, 274] (by decide +kernel) (by decide +kernel)
set_option maxRecDepth 100000 in
theorem lk_vd_34 : ∀ (pc : Nat) (E : lk_E), lk_b34[pc]? = some (some E) → lk_vd1 (yX4_hasDotInCorner, cX4_hasDotInCorner, 5, ((some FieldType.boolean))) pc E := lk_vd_of [273, 274, 273, 274, 273, 274, 273, 274, 273, 274, 427, 61, 425, 426, 430, 61, 428, 429, 273, 274, 273, 274, 273, 274, 273, 274, 273, 274] (by decide +kernel) (by decide +kernel)
set_option maxRecDepth 100000 in
theorem lk_vd_37 : ∀ (pc : Nat) (E : lk_E), lk_b37[pc]? = some (some E) → lk_vd1 (yX4_isBelow, cX4_isBelow, 1, ((some FieldType.boolean))) pc E := lk_vd_of [] (by decide +kernel) (by decide +kernel)
set_option maxRecDepth 100000 in
theorem lk_vd_39 : ∀ (pc : Nat) (E : lk_E), lk_b39[pc]? = some (some E) → lk_vd1 (yX5_init, cX5_init, 2, ((none))) pc E := lk_vd_of [374, 64, 372, 373] (by decide +kernel) (by decide +kernel)
set_option maxRecDepth 100000 in
theorem lk_vd_40 : ∀ (pc : Nat) (E : lk_E), lk_b40[pc]? = some (some E) → lk_vd1 (yX5_toldKind, cX5_toldKind, 1, ((some FieldType.int))) pc E := lk_vd_of [] (by decide +kernel) (by decide +kernel)
set_option maxRecDepth 100000 in
theorem lk_vd_41 : ∀ (pc : Nat) (E : lk_E), lk_b41[pc]? = some (some E) → lk_vd1 (yX5_askSize, cX5_askSize, 2, ((some FieldType.int))) pc E := lk_vd_of [555, 52, 565, 553, 554, 568, 64, 566, 1004, 377, 567, 576, 63, 571, 572, 574, 575, 573] (by decide +kernel) (by decide +kernel)
set_option maxRecDepth 100000 in
theorem lk_vd_45 : ∀ (pc : Nat) (E : lk_E), lk_b45[pc]? = some (some E) → lk_vd1 (yX7_init, cX7_init, 1, ((none))) pc E := lk_vd_of [113, 73, 74, 92, 117, 92, 118, 130, 119, 117, 116, 55, 114, 115] (by decide +kernel) (by decide +kernel)
set_option maxRecDepth 100000 in
theorem lk_vd_48 : ∀ (pc : Nat) (E : lk_E), lk_b48[pc]? = some (some E) → lk_vd1 (yX7_hasNewDistances, cX7_hasNewDistances, 4, ((some FieldType.boolean))) pc E := lk_vd_of [119, 118] (by decide +kernel) (by decide +kernel)
set_option maxRecDepth 100000 in
theorem lk_vd_52 : ∀ (pc : Nat) (E : lk_E), lk_b52[pc]? = some (some E) → lk_vd1 (yX8_holds, cX8_holds, 3, ((some FieldType.boolean))) pc E := lk_vd_of [142, 142] (by decide +kernel) (by decide +kernel)
set_option maxRecDepth 100000 in
theorem lk_vd_55 : ∀ (pc : Nat) (E : lk_E), lk_b55[pc]? = some (some E) → lk_vd1 (yX9_init, cX9_init, 2, ((none))) pc E := lk_vd_of [269, 73, 74, 270, 270, 270, 270, 270] (by decide +kernel) (by decide +kernel)
set_option maxRecDepth 100000 in
theorem lk_vd_60 : ∀ (pc : Nat) (E : lk_E), lk_b60[pc]? = some (some E) → lk_vd1 (yX9_partOfPairs, cX9_partOfPairs, 5, ((some FieldType.int))) pc E := lk_vd_of [296, 61, 291, 293, 294, 295, 292, 299, 63, 291, 293, 297, 298, 292, 296, 61, 291, 293, 300, 295, 292, 299, 63, 291, 293, 301, 298, 292, 299, 63, 291, 293, 302, 298, 292] (by decide +kernel) (by decide +kernel)
set_option maxRecDepth 100000 in
theorem lk_vd_63 : ∀ (pc : Nat) (E : lk_E), lk_b63[pc]? = some (some E) → lk_vd1 (yX10_begin, cX10_begin, 2, ((none))) pc E := lk_vd_of [86, 85, 85, 86, 86, 86] (by decide +kernel) (by decide +kernel)
set_option maxRecDepth 100000 in
theorem lk_vd_67 : ∀ (pc : Nat) (E : lk_E), lk_b67[pc]? = some (some E) → lk_vd1 (yX11_set, cX11_set, 5, ((some FieldType.int))) pc E := lk_vd_of [181, 51, 179, 180, 182, 153, 139, 186, 51, 183, 185, 10, 204, 56, 201, 202, 203, 186, 51, 183, 185, 10, 137, 208, 56, 205, 206, 207, 137, 196, 51, 193, 195, 11] (by decide +kernel) (by decide +kernel)
set_option maxRecDepth 100000 in
theorem lk_vd_71 : ∀ (pc : Nat) (E : lk_E), lk_b71[pc]? = some (some E) → lk_vd1 (yX11_marks, cX11_marks, 7, ((some FieldType.int))) pc E := lk_vd_of [226, 51, 224, 225, 181, 51, 179, 180, 182, 230, 51, 227, 229, 12, 186, 51, 183, 185, 10, 153, 234, 56, 231, 232, 233, 345, 63, 343, 344, 348, 63, 346, 347, 320, 51, 317, 319, 13, 182] (by decide +kernel) (by decide +kernel)
set_option maxRecDepth 100000 in
theorem lk_vd_76 : ∀ (pc : Nat) (E : lk_E), lk_b76[pc]? = some (some E) → lk_vd1 (yX11_turn, cX11_turn, 6, ((some FieldType.int))) pc E := lk_vd_of [226, 51, 224, 225, 226, 51, 224, 225, 182, 413, 51, 410, 412, 15, 418, 51, 415, 417, 16, 186, 51, 183, 185, 10, 275, 274, 275, 274, 275, 274, 275, 274, 275, 274, 92, 275, 274, 275, 274, 275, 274, 275, 274, 275, 274, 455, 61, 453, 454, 260, 61, 258, 259, 320, 51, 317, 319, 13] (by decide +kernel) (by decide +kernel)
set_option maxRecDepth 100000 in
theorem lk_vd_80 : ∀ (pc : Nat) (E : lk_E), lk_b80[pc]? = some (some E) → lk_vd1 (yX11_is, cX11_is, 3, ((some FieldType.int))) pc E := lk_vd_of [226, 51, 224, 225, 182, 154, 530, 51, 528, 529] (by decide +kernel) (by decide +kernel)
set_option maxRecDepth 100000 in
theorem lk_vd_84 : ∀ (pc : Nat) (E : lk_E), lk_b84[pc]? = some (some E) → lk_vd1 (yX11_at, cX11_at, 4, ((some FieldType.int))) pc E := lk_vd_of [226, 51, 224, 225, 182, 154, 186, 51, 183, 185, 10, 276, 276, 276, 276, 276, 182, 276, 276, 276, 276, 276, 196, 51, 193, 195, 11] (by decide +kernel) (by decide +kernel)
set_option maxRecDepth 100000 in
theorem lk_vd_88 : ∀ (pc : Nat) (E : lk_E), lk_b88[pc]? = some (some E) → lk_vd1 (yX11_together, cX11_together, 5, ((some FieldType.int))) pc E := lk_vd_of [226, 51, 224, 225, 226, 51, 224, 225, 182, 413, 51, 410, 412, 15, 418, 51, 415, 417, 16, 186, 51, 183, 185, 10, 413, 51, 410, 412, 15, 418, 51, 415, 417, 16, 186, 51, 183, 185, 10, 156, 275, 274, 275, 274, 275, 274, 275, 274, 275, 274, 275, 274, 275, 274, 275, 274, 275, 274, 275, 274, 646, 53, 643, 644, 645, 196, 51, 193, 195, 11] (by decide +kernel) (by decide +kernel)
set_option maxRecDepth 100000 in
theorem lk_vd_92 : ∀ (pc : Nat) (E : lk_E), lk_b92[pc]? = some (some E) → lk_vd1 (yX11_count, cX11_count, 2, ((some FieldType.int))) pc E := lk_vd_of [182, 693, 51, 690, 692, 26, 697, 51, 694, 696, 27] (by decide +kernel) (by decide +kernel)
set_option maxRecDepth 100000 in
theorem lk_vd_98 : ∀ (pc : Nat) (E : lk_E), lk_b98[pc]? = some (some E) → lk_vd1 (yX11_shelve, cX11_shelve, 3, ((some FieldType.int))) pc E := lk_vd_of [154, 326, 62, 321, 323, 324, 325, 322, 329, 63, 321, 323, 327, 328, 322, 332, 61, 321, 323, 330, 331, 322, 335, 65, 321, 323, 333, 334, 322, 338, 64, 321, 323, 336, 337, 322, 196, 51, 193, 195, 11] (by decide +kernel) (by decide +kernel)
set_option maxRecDepth 100000 in
theorem lk_vd_102 : ∀ (pc : Nat) (E : lk_E), lk_b102[pc]? = some (some E) → lk_vd1 (yX11_isOfKind, cX11_isOfKind, 2, ((some FieldType.boolean))) pc E := lk_vd_of [414, 1012, 510, 531, 1013, 1014, 532, 1015, 533] (by decide +kernel) (by decide +kernel)
set_option maxRecDepth 100000 in
theorem lk_vd_107 : ∀ (pc : Nat) (E : lk_E), lk_b107[pc]? = some (some E) → lk_vd1 (yX11_isRoot, cX11_isRoot, 2, ((some FieldType.boolean))) pc E := lk_vd_of [395, 51, 393, 394] (by decide +kernel) (by decide +kernel)
set_option maxRecDepth 100000 in
theorem lk_vd_110 : ∀ (pc : Nat) (E : lk_E), lk_b110[pc]? = some (some E) → lk_vd1 (yX11_columnsBySums, cX11_columnsBySums, 6, ((some (FieldType.array FieldType.int)))) pc E := lk_vd_of [92, 395, 51, 393, 394] (by decide +kernel) (by decide +kernel)
set_option maxRecDepth 100000 in
theorem lk_vd_118 : ∀ (pc : Nat) (E : lk_E), lk_b118[pc]? = some (some E) → lk_vd1 (yX12_copy, cX12_copy, 7, ((some FieldType.int))) pc E := lk_vd_of [766, 57, 764, 765, 766, 57, 764, 765, 772, 708, 708, 776, 57, 773, 775, 28, 708, 708, 776, 57, 773, 775, 28, 709, 709, 776, 57, 773, 775, 28, 711, 710, 710, 711, 781, 57, 778, 780, 29] (by decide +kernel) (by decide +kernel)
set_option maxRecDepth 100000 in
theorem lk_vd_127 : ∀ (pc : Nat) (E : lk_E), lk_b127[pc]? = some (some E) → lk_vd1 (yX12_keep, cX12_keep, 4, ((some FieldType.int))) pc E := lk_vd_of [814, 57, 811, 813, 32, 712, 827, 57, 824, 826, 35, 831, 57, 828, 830, 36, 712, 781, 57, 778, 780, 29] (by decide +kernel) (by decide +kernel)
set_option maxRecDepth 100000 in
theorem lk_vd_132 : ∀ (pc : Nat) (E : lk_E), lk_b132[pc]? = some (some E) → lk_vd1 (yX12_isRoot, cX12_isRoot, 4, ((some FieldType.boolean))) pc E := lk_vd_of [770, 57, 768, 769] (by decide +kernel) (by decide +kernel)
set_option maxRecDepth 100000 in
theorem lk_vd_135 : ∀ (pc : Nat) (E : lk_E), lk_b135[pc]? = some (some E) → lk_vd1 (yX12_sums, cX12_sums, 7, ((some FieldType.int))) pc E := lk_vd_of [800, 57, 798, 799, 844, 57, 842, 843, 847, 57, 845, 846, 847, 57, 845, 846, 772, 713, 851, 57, 849, 850, 851, 57, 849, 850, 806, 57, 803, 805, 30, 810, 57, 807, 809, 31] (by decide +kernel) (by decide +kernel)
set_option maxRecDepth 100000 in
theorem lk_vd_139 : ∀ (pc : Nat) (E : lk_E), lk_b139[pc]? = some (some E) → lk_vd1 (yX12_turned, cX12_turned, 6, ((some FieldType.int))) pc E := lk_vd_of [713, 822, 57, 819, 821, 34, 884, 57, 881, 883, 39] (by decide +kernel) (by decide +kernel)
set_option maxRecDepth 100000 in
theorem lk_vd_142 : ∀ (pc : Nat) (E : lk_E), lk_b142[pc]? = some (some E) → lk_vd1 (yX12_first, cX12_first, 3, ((none))) pc E := lk_vd_of [713, 806, 57, 803, 805, 30] (by decide +kernel) (by decide +kernel)
set_option maxRecDepth 100000 in
theorem lk_vd_143 : ∀ (pc : Nat) (E : lk_E), lk_b143[pc]? = some (some E) → lk_vd1 (yX12_next, cX12_next, 7, ((some FieldType.boolean))) pc E := lk_vd_of [713, 822, 57, 819, 821, 34, 822, 57, 819, 821, 34, 822, 57, 819, 821, 34, 822, 57, 819, 821, 34, 822, 57, 819, 821, 34, 822, 57, 819, 821, 34, 806, 57, 803, 805, 30, 806, 57, 803, 805, 30, 822, 57, 819, 821, 34, 822, 57, 819, 821, 34, 806, 57, 803, 805, 30, 806, 57, 803, 805, 30] (by decide +kernel) (by decide +kernel)
set_option maxRecDepth 100000 in
theorem lk_vd_154 : ∀ (pc : Nat) (E : lk_E), lk_b154[pc]? = some (some E) → lk_vd1 (yX12_trace, cX12_trace, 2, ((some FieldType.int))) pc E := lk_vd_of [717, 770, 57, 768, 769, 716, 823] (by decide +kernel) (by decide +kernel)
set_option maxRecDepth 100000 in
theorem lk_vd_156 : ∀ (pc : Nat) (E : lk_E), lk_b156[pc]? = some (some E) → lk_vd1 (yX12_alike, cX12_alike, 4, ((some FieldType.int))) pc E := lk_vd_of [800, 57, 798, 799, 860, 770, 57, 768, 769, 772, 712, 776, 57, 773, 775, 28, 712, 814, 57, 811, 813, 32, 718, 781, 57, 778, 780, 29] (by decide +kernel) (by decide +kernel)
set_option maxRecDepth 100000 in
theorem lk_vd_161 : ∀ (pc : Nat) (E : lk_E), lk_b161[pc]? = some (some E) → lk_vd1 (yX12_most, cX12_most, 3, ((some FieldType.int))) pc E := lk_vd_of [800, 57, 798, 799, 772, 864, 57, 861, 863, 37, 966, 57, 963, 965, 47, 781, 57, 778, 780, 29] (by decide +kernel) (by decide +kernel)
set_option maxRecDepth 100000 in
theorem lk_vd_163 : ∀ (pc : Nat) (E : lk_E), lk_b163[pc]? = some (some E) → lk_vd1 (yX12_echo, cX12_echo, 18, ((some FieldType.int))) pc E := lk_vd_of [800, 57, 798, 799, 766, 57, 764, 765, 975, 770, 57, 768, 769, 771, 770, 57, 768, 769, 772, 864, 57, 861, 863, 37, 708, 776, 57, 773, 775, 28, 771, 709, 776, 57, 773, 775, 28, 710, 710, 713, 770, 57, 768, 769, 822, 57, 819, 821, 34, 781, 57, 778, 780, 29] (by decide +kernel) (by decide +kernel)
