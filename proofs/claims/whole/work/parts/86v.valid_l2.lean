set_option maxRecDepth 100000 in
theorem lk_vd_174_13 : ∀ (pc : Nat) (E : lk_E), lk_b174_13[pc]? = some (some E) → lk_vd1 (yL_law, cL_law, 4, (some .boolean)) (624 + pc) E := lk_vd_ofo 624 [452, 51, 449, 450, 451, 876, 57, 873, 874, 875] (by decide +kernel) (by decide +kernel)
set_option maxRecDepth 100000 in
theorem lk_vd_174_14 : ∀ (pc : Nat) (E : lk_E), lk_b174_14[pc]? = some (some E) → lk_vd1 (yL_law, cL_law, 4, (some .boolean)) (672 + pc) E := lk_vd_ofo 672 [459, 51, 456, 457, 458, 888, 57, 885, 886, 887] (by decide +kernel) (by decide +kernel)
set_option maxRecDepth 100000 in
theorem lk_vd_174_15 : ∀ (pc : Nat) (E : lk_E), lk_b174_15[pc]? = some (some E) → lk_vd1 (yL_law, cL_law, 4, (some .boolean)) (720 + pc) E := lk_vd_ofo 720 [519, 51, 516, 517, 518, 900, 57, 897, 898, 899, 523, 51, 520, 521, 522, 904, 57, 901, 902, 903] (by decide +kernel) (by decide +kernel)
set_option maxRecDepth 100000 in
theorem lk_vd_174_16 : ∀ (pc : Nat) (E : lk_E), lk_b174_16[pc]? = some (some E) → lk_vd1 (yL_law, cL_law, 4, (some .boolean)) (768 + pc) E := lk_vd_ofo 768 [527, 51, 524, 525, 526, 908, 57, 905, 906, 907, 537, 51, 534, 535, 536] (by decide +kernel) (by decide +kernel)
set_option maxRecDepth 100000 in
theorem lk_vd_174_17 : ∀ (pc : Nat) (E : lk_E), lk_b174_17[pc]? = some (some E) → lk_vd1 (yL_law, cL_law, 4, (some .boolean)) (816 + pc) E := lk_vd_ofo 816 [913, 57, 910, 911, 912, 541, 51, 538, 539, 540, 917, 57, 914, 915, 916] (by decide +kernel) (by decide +kernel)
set_option maxRecDepth 100000 in
theorem lk_vd_174_18 : ∀ (pc : Nat) (E : lk_E), lk_b174_18[pc]? = some (some E) → lk_vd1 (yL_law, cL_law, 4, (some .boolean)) (864 + pc) E := lk_vd_ofo 864 [599, 51, 596, 597, 598, 937, 57, 934, 935, 936, 608, 51, 605, 606, 607, 941, 57, 938, 939, 940] (by decide +kernel) (by decide +kernel)
set_option maxRecDepth 100000 in
theorem lk_vd_174_19 : ∀ (pc : Nat) (E : lk_E), lk_b174_19[pc]? = some (some E) → lk_vd1 (yL_law, cL_law, 4, (some .boolean)) (912 + pc) E := lk_vd_ofo 912 [612, 51, 609, 610, 611, 945, 57, 942, 943, 944] (by decide +kernel) (by decide +kernel)
set_option maxRecDepth 100000 in
theorem lk_vd_174_20 : ∀ (pc : Nat) (E : lk_E), lk_b174_20[pc]? = some (some E) → lk_vd1 (yL_law, cL_law, 4, (some .boolean)) (960 + pc) E := lk_vd_ofo 960 [617, 51, 614, 615, 616, 949, 57, 946, 947, 948] (by decide +kernel) (by decide +kernel)
set_option maxRecDepth 100000 in
theorem lk_vd_174_21 : ∀ (pc : Nat) (E : lk_E), lk_b174_21[pc]? = some (some E) → lk_vd1 (yL_law, cL_law, 4, (some .boolean)) (1008 + pc) E := lk_vd_ofo 1008 [628, 51, 625, 626, 627, 962, 57, 959, 960, 961, 642, 51, 639, 640, 641, 970, 57, 967, 968, 969] (by decide +kernel) (by decide +kernel)
set_option maxRecDepth 100000 in
theorem lk_vd_174_22 : ∀ (pc : Nat) (E : lk_E), lk_b174_22[pc]? = some (some E) → lk_vd1 (yL_law, cL_law, 4, (some .boolean)) (1056 + pc) E := lk_vd_ofo 1056 [650, 51, 647, 648, 649] (by decide +kernel) (by decide +kernel)
set_option maxRecDepth 100000 in
theorem lk_vd_174_23 : ∀ (pc : Nat) (E : lk_E), lk_b174_23[pc]? = some (some E) → lk_vd1 (yL_law, cL_law, 4, (some .boolean)) (1104 + pc) E := lk_vd_ofo 1104 [974, 57, 971, 972, 973, 666, 51, 663, 664, 665, 979, 57, 976, 977, 978] (by decide +kernel) (by decide +kernel)
set_option maxRecDepth 100000 in
theorem lk_vd_174_24 : ∀ (pc : Nat) (E : lk_E), lk_b174_24[pc]? = some (some E) → lk_vd1 (yL_law, cL_law, 4, (some .boolean)) (1152 + pc) E := lk_vd_ofo 1152 [670, 51, 667, 668, 669, 987, 57, 984, 985, 986, 689, 51, 686, 687, 688, 996, 57, 993, 994, 995] (by decide +kernel) (by decide +kernel)
set_option maxRecDepth 100000 in
theorem lk_vd_174_25 : ∀ (pc : Nat) (E : lk_E), lk_b174_25[pc]? = some (some E) → lk_vd1 (yL_law, cL_law, 4, (some .boolean)) (1200 + pc) E := lk_vd_ofo 1200 [701, 51, 698, 699, 700, 1000, 57, 997, 998, 999] (by decide +kernel) (by decide +kernel)
theorem lk_vd_174 : ∀ (pc : Nat) (E : lk_E), lk_b174[pc]? = some (some E) → lk_vd1 (yL_law, cL_law, 4, (some .boolean)) pc E := fun pc E h => (Nat.zero_add pc) ▸ (lk_vd_app (o := 0) (o2 := 48) rfl lk_vd_174_0 (lk_vd_app (o := 48) (o2 := 96) rfl lk_vd_174_1 (lk_vd_app (o := 96) (o2 := 144) rfl lk_vd_174_2 (lk_vd_app (o := 144) (o2 := 192) rfl lk_vd_174_3 (lk_vd_app (o := 192) (o2 := 240) rfl lk_vd_174_4 (lk_vd_app (o := 240) (o2 := 288) rfl lk_vd_174_5 (lk_vd_app (o := 288) (o2 := 336) rfl lk_vd_174_6 (lk_vd_app (o := 336) (o2 := 384) rfl lk_vd_174_7 (lk_vd_app (o := 384) (o2 := 432) rfl lk_vd_174_8 (lk_vd_app (o := 432) (o2 := 480) rfl lk_vd_174_9 (lk_vd_app (o := 480) (o2 := 528) rfl lk_vd_174_10 (lk_vd_app (o := 528) (o2 := 576) rfl lk_vd_174_11 (lk_vd_app (o := 576) (o2 := 624) rfl lk_vd_174_12 (lk_vd_app (o := 624) (o2 := 672) rfl lk_vd_174_13 (lk_vd_app (o := 672) (o2 := 720) rfl lk_vd_174_14 (lk_vd_app (o := 720) (o2 := 768) rfl lk_vd_174_15 (lk_vd_app (o := 768) (o2 := 816) rfl lk_vd_174_16 (lk_vd_app (o := 816) (o2 := 864) rfl lk_vd_174_17 (lk_vd_app (o := 864) (o2 := 912) rfl lk_vd_174_18 (lk_vd_app (o := 912) (o2 := 960) rfl lk_vd_174_19 (lk_vd_app (o := 960) (o2 := 1008) rfl lk_vd_174_20 (lk_vd_app (o := 1008) (o2 := 1056) rfl lk_vd_174_21 (lk_vd_app (o := 1056) (o2 := 1104) rfl lk_vd_174_22 (lk_vd_app (o := 1104) (o2 := 1152) rfl lk_vd_174_23 (lk_vd_app (o := 1152) (o2 := 1200) rfl lk_vd_174_24 (lk_vd_174_25)))))))))))))))))))))))))) pc E h
