/-! orders of 7 rows: the next one -/
theorem nck_7_0 : ck (nck 7) 10 0 = true := by decide +kernel
theorem nck_7_1 : ck (nck 7) 10 1024 = true := by decide +kernel
theorem nck_7_2 : ck (nck 7) 10 2048 = true := by decide +kernel
theorem nck_7_3 : ck (nck 7) 10 3072 = true := by decide +kernel
theorem nck_7_4 : ck (nck 7) 10 4096 = true := by decide +kernel
