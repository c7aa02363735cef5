/-! shortest rulers of 6 marks -/
theorem sea_6 : sea 5 [0] 201 = 17 := by decide +kernel
theorem cb_6_0 : cb 6 0 5000 [0] = some false := by decide +kernel
theorem cb_6_1 : cb 6 1 5000 [0] = some false := by decide +kernel
theorem cb_6_2 : cb 6 2 5000 [0] = some false := by decide +kernel
theorem cb_6_3 : cb 6 3 5000 [0] = some false := by decide +kernel
theorem cb_6_4 : cb 6 4 5000 [0] = some false := by decide +kernel
theorem cb_6_5 : cb 6 5 5000 [0] = some false := by decide +kernel
theorem cb_6_6 : cb 6 6 5000 [0] = some false := by decide +kernel
theorem cb_6_7 : cb 6 7 5000 [0] = some false := by decide +kernel
theorem cb_6_8 : cb 6 8 5000 [0] = some false := by decide +kernel
theorem cb_6_9 : cb 6 9 5000 [0] = some false := by decide +kernel
theorem cb_6_10 : cb 6 10 5000 [0] = some false := by decide +kernel
theorem cb_6_11 : cb 6 11 5000 [0] = some false := by decide +kernel
theorem cb_6_12 : cb 6 12 5000 [0] = some false := by decide +kernel
theorem cb_6_13 : cb 6 13 5000 [0] = some false := by decide +kernel
theorem cb_6_14 : cb 6 14 5000 [0] = some false := by decide +kernel
theorem cb_6_15 : cb 6 15 5000 [0] = some false := by decide +kernel
theorem cb_6_16 : cb 6 16 5000 [0] = some false := by decide +kernel
theorem cb_6_17 : cb 6 17 5000 [0] = some true := by decide +kernel
