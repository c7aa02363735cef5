set_option maxRecDepth 100000 in
theorem lk_vd_174_0 : ∀ (pc : Nat) (E : lk_E), lk_b174_0[pc]? = some (some E) → lk_vd1 (yL_law, cL_law, 4, (some .boolean)) (0 + pc) E := lk_vd_ofo 0 [67, 68, 51, 71, 51, 69, 70, 702, 703, 57, 706, 57, 704, 705] (by decide +kernel) (by decide +kernel)
set_option maxRecDepth 100000 in
theorem lk_vd_174_1 : ∀ (pc : Nat) (E : lk_E), lk_b174_1[pc]? = some (some E) → lk_vd1 (yL_law, cL_law, 4, (some .boolean)) (48 + pc) E := lk_vd_ofo 48 [] (by decide +kernel) (by decide +kernel)
set_option maxRecDepth 100000 in
theorem lk_vd_174_2 : ∀ (pc : Nat) (E : lk_E), lk_b174_2[pc]? = some (some E) → lk_vd1 (yL_law, cL_law, 4, (some .boolean)) (96 + pc) E := lk_vd_ofo 96 [] (by decide +kernel) (by decide +kernel)
set_option maxRecDepth 100000 in
theorem lk_vd_174_3 : ∀ (pc : Nat) (E : lk_E), lk_b174_3[pc]? = some (some E) → lk_vd1 (yL_law, cL_law, 4, (some .boolean)) (144 + pc) E := lk_vd_ofo 144 [178, 51, 175, 176, 177] (by decide +kernel) (by decide +kernel)
set_option maxRecDepth 100000 in
theorem lk_vd_174_4 : ∀ (pc : Nat) (E : lk_E), lk_b174_4[pc]? = some (some E) → lk_vd1 (yL_law, cL_law, 4, (some .boolean)) (192 + pc) E := lk_vd_ofo 192 [763, 57, 760, 761, 762, 200, 51, 197, 198, 199, 785, 57, 782, 783, 784] (by decide +kernel) (by decide +kernel)
set_option maxRecDepth 100000 in
theorem lk_vd_174_5 : ∀ (pc : Nat) (E : lk_E), lk_b174_5[pc]? = some (some E) → lk_vd1 (yL_law, cL_law, 4, (some .boolean)) (240 + pc) E := lk_vd_ofo 240 [212, 51, 209, 210, 211] (by decide +kernel) (by decide +kernel)
set_option maxRecDepth 100000 in
theorem lk_vd_174_6 : ∀ (pc : Nat) (E : lk_E), lk_b174_6[pc]? = some (some E) → lk_vd1 (yL_law, cL_law, 4, (some .boolean)) (288 + pc) E := lk_vd_ofo 288 [789, 57, 786, 787, 788, 219, 51, 216, 217, 218, 793, 57, 790, 791, 792] (by decide +kernel) (by decide +kernel)
set_option maxRecDepth 100000 in
theorem lk_vd_174_7 : ∀ (pc : Nat) (E : lk_E), lk_b174_7[pc]? = some (some E) → lk_vd1 (yL_law, cL_law, 4, (some .boolean)) (336 + pc) E := lk_vd_ofo 336 [223, 51, 220, 221, 222, 797, 57, 794, 795, 796] (by decide +kernel) (by decide +kernel)
set_option maxRecDepth 100000 in
theorem lk_vd_174_8 : ∀ (pc : Nat) (E : lk_E), lk_b174_8[pc]? = some (some E) → lk_vd1 (yL_law, cL_law, 4, (some .boolean)) (384 + pc) E := lk_vd_ofo 384 [342, 51, 339, 340, 341, 835, 57, 832, 833, 834] (by decide +kernel) (by decide +kernel)
set_option maxRecDepth 100000 in
theorem lk_vd_174_9 : ∀ (pc : Nat) (E : lk_E), lk_b174_9[pc]? = some (some E) → lk_vd1 (yL_law, cL_law, 4, (some .boolean)) (432 + pc) E := lk_vd_ofo 432 [386, 51, 383, 384, 385] (by decide +kernel) (by decide +kernel)
set_option maxRecDepth 100000 in
theorem lk_vd_174_10 : ∀ (pc : Nat) (E : lk_E), lk_b174_10[pc]? = some (some E) → lk_vd1 (yL_law, cL_law, 4, (some .boolean)) (480 + pc) E := lk_vd_ofo 480 [841, 57, 838, 839, 840, 402, 51, 399, 400, 401] (by decide +kernel) (by decide +kernel)
set_option maxRecDepth 100000 in
theorem lk_vd_174_11 : ∀ (pc : Nat) (E : lk_E), lk_b174_11[pc]? = some (some E) → lk_vd1 (yL_law, cL_law, 4, (some .boolean)) (528 + pc) E := lk_vd_ofo 528 [855, 57, 852, 853, 854, 409, 51, 406, 407, 408] (by decide +kernel) (by decide +kernel)
set_option maxRecDepth 100000 in
theorem lk_vd_174_12 : ∀ (pc : Nat) (E : lk_E), lk_b174_12[pc]? = some (some E) → lk_vd1 (yL_law, cL_law, 4, (some .boolean)) (576 + pc) E := lk_vd_ofo 576 [859, 57, 856, 857, 858, 441, 51, 438, 439, 440, 871, 57, 868, 869, 870] (by decide +kernel) (by decide +kernel)
