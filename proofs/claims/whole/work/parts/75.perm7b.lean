/-! orders of 7 rows: the lonely ones -/
theorem rem_7_0 : rem 7 0 720 = srch 7 6 [0] ∧ (srch 7 6 [0]).length = 22 := by decide +kernel
theorem rem_7_1 : rem 7 720 720 = srch 7 6 [1] ∧ (srch 7 6 [1]).length = 22 := by decide +kernel
theorem rem_7_2 : rem 7 1440 720 = srch 7 6 [2] ∧ (srch 7 6 [2]).length = 37 := by decide +kernel
theorem rem_7_3 : rem 7 2160 720 = srch 7 6 [3] ∧ (srch 7 6 [3]).length = 38 := by decide +kernel
theorem rem_7_4 : rem 7 2880 720 = srch 7 6 [4] ∧ (srch 7 6 [4]).length = 37 := by decide +kernel
theorem rem_7_5 : rem 7 3600 720 = srch 7 6 [5] ∧ (srch 7 6 [5]).length = 22 := by decide +kernel
theorem rem_7_6 : rem 7 4320 720 = srch 7 6 [6] ∧ (srch 7 6 [6]).length = 22 := by decide +kernel
