/-! orders of 6 rows -/
theorem nck_6 : ck (nck 6) 10 0 = true := by decide +kernel
theorem rem_6 : rem 6 0 720 = lns 6 ∧ (lns 6).length = 116 := by decide +kernel
