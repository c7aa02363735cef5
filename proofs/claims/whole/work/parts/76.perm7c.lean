/-! orders of 7 rows, all -/
theorem lns_7 : lns 7 = srch 7 6 [0] ++ (srch 7 6 [1] ++ (srch 7 6 [2] ++ (srch 7 6 [3] ++ (srch 7 6 [4] ++ (srch 7 6 [5] ++ (srch 7 6 [6] ++ [])))))) := rfl
theorem cnt_7 : cnt 7 = 200 := by
  unfold cnt
  rw [lns_7]
  simp only [List.length_append, rem_7_0.2, rem_7_1.2, rem_7_2.2, rem_7_3.2, rem_7_4.2, rem_7_5.2, rem_7_6.2, List.length_nil]
theorem rem_add (n j a b : Nat) : rem n j (a + b) = rem n j a ++ rem n (j + a) b := by
  unfold rem
  rw [← List.range'_append_1, List.map_append, List.filter_append]
theorem rem_7 : rem 7 0 5040 = lns 7 := by
  rw [show (5040 : Nat) = 720 + (720 + (720 + (720 + (720 + (720 + (720 + 0)))))) from rfl, rem_add, rem_add, rem_add, rem_add, rem_add, rem_add, rem_add]
  rw [show 0 + 720 = 720 from rfl, show 720 + 720 = 1440 from rfl, show 1440 + 720 = 2160 from rfl, show 2160 + 720 = 2880 from rfl, show 2880 + 720 = 3600 from rfl, show 3600 + 720 = 4320 from rfl, show 4320 + 720 = 5040 from rfl]
  rw [rem_7_0.1, rem_7_1.1, rem_7_2.1, rem_7_3.1, rem_7_4.1, rem_7_5.1, rem_7_6.1, lns_7]
  rfl
