/-! LonelyDots$Order.toldKind()I -/
theorem lk_M31 : lk_mt[31]? = some (yX4_toldKind, cX4_toldKind, 1, ((some FieldType.int))) := rfl
theorem lk_s31_0_1 : lk_seg 31 [(.iconst 1, 1, (0, [], .int (1)))] 0 = some 1 := by decide +kernel
theorem lk_i31_1 : lk_ins 31 1 = some (.ireturn, 1, (0, [], .null)) := lk_eqE_eq (by decide +kernel)
set_option maxRecDepth 20000 in
theorem E_o_toldKind {X : lk_X} {d : Nat} {a0 : Nat} {h : lk_H} {Q : Option Value → lk_H → Prop} (H : Q (some (.int 1)) h) : lk_wx X (d + 1) 31 [.ref a0] h Q := by
  refine lk_enter (lo := [.ref a0]) lk_M31 rfl (Nat.le_of_ble_eq_true rfl) ?_
  refine lk_wp_seg (lo' := [.ref a0]) (st' := [.int 1]) lk_M31 lk_s31_0_1 rfl ?_
  exact lk_wp_ret lk_i31_1 lk_M31 rfl H
/-! LonelyDots$Order.secondAlike(III)I -/
theorem lk_M32 : lk_mt[32]? = some (yX4_secondAlike, cX4_secondAlike, 5, ((some FieldType.int))) := rfl
theorem lk_s32_0_8 : lk_seg 32 [(.iload_n 3, 1, (0, [], .null)), (.iload_n 2, 1, (0, [], .null)), (.iadd, 1, (0, [], .null)), (.iload_n 1, 1, (0, [], .null)), (.isub, 1, (0, [], .null)), (.istore 4, 2, (0, [], .null)), (.iload 4, 2, (0, [], .null)), (.aload_n 0, 1, (0, [], .null))] 0 = some 10 := by decide +kernel
theorem lk_i32_10 : lk_ins 32 10 = some (.getfield 20, 3, (0, [(0, 5), (2, 5), (4, 5), (5, 5), (6, 5)], .null)) := lk_eqE_eq (by decide +kernel)
theorem lk_i32_13 : lk_ins 32 13 = some (.arraylength, 1, (0, [], .null)) := lk_eqE_eq (by decide +kernel)
theorem lk_i32_14 : lk_ins 32 14 = some (.if_icmp .lt 5, 3, (19, [], .null)) := lk_eqE_eq (by decide +kernel)
theorem lk_s32_19_1 : lk_seg 32 [(.aload_n 0, 1, (0, [], .null))] 19 = some 20 := by decide +kernel
theorem lk_i32_20 : lk_ins 32 20 = some (.getfield 20, 3, (0, [(0, 5), (2, 5), (4, 5), (5, 5), (6, 5)], .null)) := lk_eqE_eq (by decide +kernel)
theorem lk_s32_23_1 : lk_seg 32 [(.iload 4, 2, (0, [], .null))] 23 = some 25 := by decide +kernel
theorem lk_i32_25 : lk_ins 32 25 = some (.iaload, 1, (0, [], .null)) := lk_eqE_eq (by decide +kernel)
theorem lk_s32_26_1 : lk_seg 32 [(.aload_n 0, 1, (0, [], .null))] 26 = some 27 := by decide +kernel
theorem lk_i32_27 : lk_ins 32 27 = some (.getfield 20, 3, (0, [(0, 5), (2, 5), (4, 5), (5, 5), (6, 5)], .null)) := lk_eqE_eq (by decide +kernel)
theorem lk_s32_30_1 : lk_seg 32 [(.iload_n 3, 1, (0, [], .null))] 30 = some 31 := by decide +kernel
theorem lk_i32_31 : lk_ins 32 31 = some (.iaload, 1, (0, [], .null)) := lk_eqE_eq (by decide +kernel)
theorem lk_s32_32_2 : lk_seg 32 [(.isub, 1, (0, [], .null)), (.aload_n 0, 1, (0, [], .null))] 32 = some 34 := by decide +kernel
theorem lk_i32_34 : lk_ins 32 34 = some (.getfield 20, 3, (0, [(0, 5), (2, 5), (4, 5), (5, 5), (6, 5)], .null)) := lk_eqE_eq (by decide +kernel)
theorem lk_s32_37_1 : lk_seg 32 [(.iload_n 2, 1, (0, [], .null))] 37 = some 38 := by decide +kernel
theorem lk_i32_38 : lk_ins 32 38 = some (.iaload, 1, (0, [], .null)) := lk_eqE_eq (by decide +kernel)
theorem lk_s32_39_1 : lk_seg 32 [(.aload_n 0, 1, (0, [], .null))] 39 = some 40 := by decide +kernel
theorem lk_i32_40 : lk_ins 32 40 = some (.getfield 20, 3, (0, [(0, 5), (2, 5), (4, 5), (5, 5), (6, 5)], .null)) := lk_eqE_eq (by decide +kernel)
theorem lk_s32_43_1 : lk_seg 32 [(.iload_n 1, 1, (0, [], .null))] 43 = some 44 := by decide +kernel
theorem lk_i32_44 : lk_ins 32 44 = some (.iaload, 1, (0, [], .null)) := lk_eqE_eq (by decide +kernel)
theorem lk_s32_45_1 : lk_seg 32 [(.isub, 1, (0, [], .null))] 45 = some 46 := by decide +kernel
theorem lk_i32_46 : lk_ins 32 46 = some (.if_icmp .ne 8, 3, (54, [], .null)) := lk_eqE_eq (by decide +kernel)
theorem lk_s32_54_1 : lk_seg 32 [(.iconst (-1), 1, (0, [], .int (-1)))] 54 = some 55 := by decide +kernel
theorem lk_i32_55 : lk_ins 32 55 = some (.ireturn, 1, (0, [], .null)) := lk_eqE_eq (by decide +kernel)
theorem lk_s32_49_2 : lk_seg 32 [(.iload 4, 2, (0, [], .null)), (.goto 4, 3, (55, [], .null))] 49 = some 55 := by decide +kernel
theorem lk_s32_17_1 : lk_seg 32 [(.iconst (-1), 1, (0, [], .int (-1)))] 17 = some 18 := by decide +kernel
theorem lk_i32_18 : lk_ins 32 18 = some (.ireturn, 1, (0, [], .null)) := lk_eqE_eq (by decide +kernel)
set_option maxRecDepth 20000 in
theorem E_o_secondAlike {X : lk_X} {d : Nat} {x1 x2 x3 : Int32} {a0 : Nat} {h : lk_H} {Q : Option Value → lk_H → Prop} (H : lk_fR h a0 0 [(0, 5), (2, 5), (4, 5), (5, 5), (6, 5)] (fun r1 => lk_al2 h r1 (fun r2 => (((x3 + x2) - x1) < r2 → lk_fR h a0 0 [(0, 5), (2, 5), (4, 5), (5, 5), (6, 5)] (fun r3 => lk_ai h r3 ((x3 + x2) - x1) (fun r4 => lk_fR h a0 0 [(0, 5), (2, 5), (4, 5), (5, 5), (6, 5)] (fun r5 => lk_ai h r5 x3 (fun r6 => lk_fR h a0 0 [(0, 5), (2, 5), (4, 5), (5, 5), (6, 5)] (fun r7 => lk_ai h r7 x2 (fun r8 => lk_fR h a0 0 [(0, 5), (2, 5), (4, 5), (5, 5), (6, 5)] (fun r9 => lk_ai h r9 x1 (fun r10 => (¬ (r4 - r6) = (r8 - r10) → Q (some (.int ((-1)))) h) ∧ ((r4 - r6) = (r8 - r10) → Q (some (.int ((x3 + x2) - x1))) h)))))))))) ∧ (¬ ((x3 + x2) - x1) < r2 → Q (some (.int ((-1)))) h)))) : lk_wx X (d + 1) 32 [.ref a0, .int x1, .int x2, .int x3] h Q := by
  refine lk_enter (lo := [.ref a0, .int x1, .int x2, .int x3, .retAddr 0]) lk_M32 rfl (Nat.le_of_ble_eq_true rfl) ?_
  refine lk_wp_seg (lo' := [.ref a0, .int x1, .int x2, .int x3, .int ((x3 + x2) - x1)]) (st' := [.ref a0, .int ((x3 + x2) - x1)]) lk_M32 lk_s32_0_8 rfl ?_
  refine lk_wp_fR lk_i32_10 lk_M32 H (fun r1 H => ?_)
  refine lk_wp_al lk_i32_13 lk_M32 H (fun r2 H => ?_)
  refine lk_wp_ic_lt lk_i32_14 lk_M32 H (fun H => ?_) (fun H => ?_)
  · refine lk_wp_seg (lo' := [.ref a0, .int x1, .int x2, .int x3, .int ((x3 + x2) - x1)]) (st' := [.ref a0]) lk_M32 lk_s32_19_1 rfl ?_
    refine lk_wp_fR lk_i32_20 lk_M32 H (fun r3 H => ?_)
    refine lk_wp_seg (lo' := [.ref a0, .int x1, .int x2, .int x3, .int ((x3 + x2) - x1)]) (st' := [.int ((x3 + x2) - x1), .ref r3]) lk_M32 lk_s32_23_1 rfl ?_
    refine lk_wp_ai lk_i32_25 lk_M32 H (fun r4 H => ?_)
    refine lk_wp_seg (lo' := [.ref a0, .int x1, .int x2, .int x3, .int ((x3 + x2) - x1)]) (st' := [.ref a0, .int r4]) lk_M32 lk_s32_26_1 rfl ?_
    refine lk_wp_fR lk_i32_27 lk_M32 H (fun r5 H => ?_)
    refine lk_wp_seg (lo' := [.ref a0, .int x1, .int x2, .int x3, .int ((x3 + x2) - x1)]) (st' := [.int x3, .ref r5, .int r4]) lk_M32 lk_s32_30_1 rfl ?_
    refine lk_wp_ai lk_i32_31 lk_M32 H (fun r6 H => ?_)
    refine lk_wp_seg (lo' := [.ref a0, .int x1, .int x2, .int x3, .int ((x3 + x2) - x1)]) (st' := [.ref a0, .int (r4 - r6)]) lk_M32 lk_s32_32_2 rfl ?_
    refine lk_wp_fR lk_i32_34 lk_M32 H (fun r7 H => ?_)
    refine lk_wp_seg (lo' := [.ref a0, .int x1, .int x2, .int x3, .int ((x3 + x2) - x1)]) (st' := [.int x2, .ref r7, .int (r4 - r6)]) lk_M32 lk_s32_37_1 rfl ?_
    refine lk_wp_ai lk_i32_38 lk_M32 H (fun r8 H => ?_)
    refine lk_wp_seg (lo' := [.ref a0, .int x1, .int x2, .int x3, .int ((x3 + x2) - x1)]) (st' := [.ref a0, .int r8, .int (r4 - r6)]) lk_M32 lk_s32_39_1 rfl ?_
    refine lk_wp_fR lk_i32_40 lk_M32 H (fun r9 H => ?_)
    refine lk_wp_seg (lo' := [.ref a0, .int x1, .int x2, .int x3, .int ((x3 + x2) - x1)]) (st' := [.int x1, .ref r9, .int r8, .int (r4 - r6)]) lk_M32 lk_s32_43_1 rfl ?_
    refine lk_wp_ai lk_i32_44 lk_M32 H (fun r10 H => ?_)
    refine lk_wp_seg (lo' := [.ref a0, .int x1, .int x2, .int x3, .int ((x3 + x2) - x1)]) (st' := [.int (r8 - r10), .int (r4 - r6)]) lk_M32 lk_s32_45_1 rfl ?_
    refine lk_wp_ic_ne lk_i32_46 lk_M32 H (fun H => ?_) (fun H => ?_)
    · refine lk_wp_seg (lo' := [.ref a0, .int x1, .int x2, .int x3, .int ((x3 + x2) - x1)]) (st' := [.int ((-1))]) lk_M32 lk_s32_54_1 rfl ?_
      exact lk_wp_ret lk_i32_55 lk_M32 rfl H
    · refine lk_wp_seg (lo' := [.ref a0, .int x1, .int x2, .int x3, .int ((x3 + x2) - x1)]) (st' := [.int ((x3 + x2) - x1)]) lk_M32 lk_s32_49_2 rfl ?_
      exact lk_wp_ret lk_i32_55 lk_M32 rfl H
  · refine lk_wp_seg (lo' := [.ref a0, .int x1, .int x2, .int x3, .int ((x3 + x2) - x1)]) (st' := [.int ((-1))]) lk_M32 lk_s32_17_1 rfl ?_
    exact lk_wp_ret lk_i32_18 lk_M32 rfl H
/-! LonelyDots$Order.askSize(LLonelyDots$Trace;)I -/
theorem lk_M33 : lk_mt[33]? = some (yX4_askSize, cX4_askSize, 2, ((some FieldType.int))) := rfl
theorem lk_s33_0_2 : lk_seg 33 [(.aload_n 1, 1, (0, [], .null)), (.bipush 11, 2, (0, [], .int (11)))] 0 = some 3 := by decide +kernel
theorem lk_i33_3 : lk_ins 33 3 = some (.invokevirtual 24, 3, (1, [(9, 63)], .ref 1)) := lk_eqE_eq (by decide +kernel)
theorem lk_s33_6_1 : lk_seg 33 [(.aload_n 0, 1, (0, [], .null))] 6 = some 7 := by decide +kernel
theorem lk_i33_7 : lk_ins 33 7 = some (.getfield 20, 3, (0, [(0, 5), (2, 5), (4, 5), (5, 5), (6, 5)], .null)) := lk_eqE_eq (by decide +kernel)
theorem lk_i33_10 : lk_ins 33 10 = some (.arraylength, 1, (0, [], .null)) := lk_eqE_eq (by decide +kernel)
theorem lk_i33_11 : lk_ins 33 11 = some (.ireturn, 1, (0, [], .null)) := lk_eqE_eq (by decide +kernel)
set_option maxRecDepth 20000 in
theorem E_o_askSize {X : lk_X} {d : Nat} {a0 a1 : Nat} {h : lk_H} {Q : Option Value → lk_H → Prop} (H : lk_vc h a1 [(9, 63)] (fun k4 => lk_wxv X d k4 [.ref a1, .int 11] h (fun h1 => lk_fR h1 a0 0 [(0, 5), (2, 5), (4, 5), (5, 5), (6, 5)] (fun r2 => lk_al2 h1 r2 (fun r3 => Q (some (.int r3)) h1))))) : lk_wx X (d + 1) 33 [.ref a0, .ref a1] h Q := by
  refine lk_enter (lo := [.ref a0, .ref a1]) lk_M33 rfl (Nat.le_of_ble_eq_true rfl) ?_
  refine lk_wp_seg (lo' := [.ref a0, .ref a1]) (st' := [.int 11, .ref a1]) lk_M33 lk_s33_0_2 rfl ?_
  refine lk_wp_cv (as := [.int 11]) (r := []) (a := a1) lk_i33_3 lk_M33 rfl rfl rfl (Nat.le_of_ble_eq_true rfl) H (fun k4 H => lk_gv H (fun h1 H => ?_))
  refine lk_wp_seg (lo' := [.ref a0, .ref a1]) (st' := [.ref a0]) lk_M33 lk_s33_6_1 rfl ?_
  refine lk_wp_fR lk_i33_7 lk_M33 H (fun r2 H => ?_)
  refine lk_wp_al lk_i33_10 lk_M33 H (fun r3 H => ?_)
  exact lk_wp_ret lk_i33_11 lk_M33 rfl H
/-! LonelyDots$Order.hasDotInCorner(I)Z -/
theorem lk_M34 : lk_mt[34]? = some (yX4_hasDotInCorner, cX4_hasDotInCorner, 5, ((some FieldType.boolean))) := rfl
theorem lk_s34_0_1 : lk_seg 34 [(.aload_n 0, 1, (0, [], .null))] 0 = some 1 := by decide +kernel
theorem lk_i34_1 : lk_ins 34 1 = some (.getfield 20, 3, (0, [(0, 5), (2, 5), (4, 5), (5, 5), (6, 5)], .null)) := lk_eqE_eq (by decide +kernel)
theorem lk_i34_4 : lk_ins 34 4 = some (.arraylength, 1, (0, [], .null)) := lk_eqE_eq (by decide +kernel)
theorem lk_s34_5_4 : lk_seg 34 [(.iconst 1, 1, (0, [], .int (1))), (.isub, 1, (0, [], .null)), (.istore_n 2, 1, (0, [], .null)), (.iload_n 1, 1, (0, [], .null))] 5 = some 9 := by decide +kernel
theorem lk_i34_9 : lk_ins 34 9 = some (.invokestatic 30, 3, (0, [(0, 37)], .ref 23)) := lk_eqE_eq (by decide +kernel)
theorem lk_i34_12 : lk_ins 34 12 = some (.ifCond .eq 7, 3, (19, [], .null)) := lk_eqE_eq (by decide +kernel)
theorem lk_s34_19_3 : lk_seg 34 [(.iconst 0, 1, (0, [], .int (0))), (.istore_n 3, 1, (0, [], .null)), (.iload_n 1, 1, (0, [], .null))] 19 = some 22 := by decide +kernel
theorem lk_i34_22 : lk_ins 34 22 = some (.invokestatic 34, 3, (0, [(0, 38)], .ref 24)) := lk_eqE_eq (by decide +kernel)
theorem lk_i34_25 : lk_ins 34 25 = some (.ifCond .eq 7, 3, (32, [], .null)) := lk_eqE_eq (by decide +kernel)
theorem lk_s34_32_3 : lk_seg 34 [(.iconst 0, 1, (0, [], .int (0))), (.istore 4, 2, (0, [], .null)), (.aload_n 0, 1, (0, [], .null))] 32 = some 36 := by decide +kernel
theorem lk_i34_36 : lk_ins 34 36 = some (.getfield 20, 3, (0, [(0, 5), (2, 5), (4, 5), (5, 5), (6, 5)], .null)) := lk_eqE_eq (by decide +kernel)
theorem lk_s34_39_1 : lk_seg 34 [(.iload_n 3, 1, (0, [], .null))] 39 = some 40 := by decide +kernel
theorem lk_i34_40 : lk_ins 34 40 = some (.iaload, 1, (0, [], .null)) := lk_eqE_eq (by decide +kernel)
theorem lk_s34_41_1 : lk_seg 34 [(.iload 4, 2, (0, [], .null))] 41 = some 43 := by decide +kernel
theorem lk_i34_43 : lk_ins 34 43 = some (.if_icmp .ne 7, 3, (50, [], .null)) := lk_eqE_eq (by decide +kernel)
theorem lk_s34_50_1 : lk_seg 34 [(.iconst 0, 1, (0, [], .int (0)))] 50 = some 51 := by decide +kernel
theorem lk_i34_51 : lk_ins 34 51 = some (.ireturn, 1, (0, [], .null)) := lk_eqE_eq (by decide +kernel)
theorem lk_s34_46_2 : lk_seg 34 [(.iconst 1, 1, (0, [], .int (1))), (.goto 4, 3, (51, [], .null))] 46 = some 51 := by decide +kernel
theorem lk_s34_28_2 : lk_seg 34 [(.iload_n 2, 1, (0, [], .null)), (.goto 4, 3, (33, [], .null))] 28 = some 33 := by decide +kernel
theorem lk_s34_33_2 : lk_seg 34 [(.istore 4, 2, (0, [], .null)), (.aload_n 0, 1, (0, [], .null))] 33 = some 36 := by decide +kernel
theorem lk_s34_15_2 : lk_seg 34 [(.iload_n 2, 1, (0, [], .null)), (.goto 4, 3, (20, [], .null))] 15 = some 20 := by decide +kernel
theorem lk_s34_20_2 : lk_seg 34 [(.istore_n 3, 1, (0, [], .null)), (.iload_n 1, 1, (0, [], .null))] 20 = some 22 := by decide +kernel
set_option maxRecDepth 20000 in
theorem E_o_hasDotInCorner {X : lk_X} {d : Nat} {x1 : Int32} {a0 : Nat} {h : lk_H} {Q : Option Value → lk_H → Prop} (H : lk_fR h a0 0 [(0, 5), (2, 5), (4, 5), (5, 5), (6, 5)] (fun r1 => lk_al2 h r1 (fun r2 => lk_wxi X d 37 [.int x1] h (fun r4 h3 => (r4 = 0 → lk_wxi X d 38 [.int x1] h3 (fun r6 h5 => (r6 = 0 → lk_fR h5 a0 0 [(0, 5), (2, 5), (4, 5), (5, 5), (6, 5)] (fun r7 => lk_ai h5 r7 0 (fun r8 => (¬ r8 = 0 → Q (some (.int 0)) h5) ∧ (r8 = 0 → Q (some (.int 1)) h5)))) ∧ (¬ r6 = 0 → lk_fR h5 a0 0 [(0, 5), (2, 5), (4, 5), (5, 5), (6, 5)] (fun r9 => lk_ai h5 r9 0 (fun r10 => (¬ r10 = (r2 - 1) → Q (some (.int 0)) h5) ∧ (r10 = (r2 - 1) → Q (some (.int 1)) h5)))))) ∧ (¬ r4 = 0 → lk_wxi X d 38 [.int x1] h3 (fun r12 h11 => (r12 = 0 → lk_fR h11 a0 0 [(0, 5), (2, 5), (4, 5), (5, 5), (6, 5)] (fun r13 => lk_ai h11 r13 (r2 - 1) (fun r14 => (¬ r14 = 0 → Q (some (.int 0)) h11) ∧ (r14 = 0 → Q (some (.int 1)) h11)))) ∧ (¬ r12 = 0 → lk_fR h11 a0 0 [(0, 5), (2, 5), (4, 5), (5, 5), (6, 5)] (fun r15 => lk_ai h11 r15 (r2 - 1) (fun r16 => (¬ r16 = (r2 - 1) → Q (some (.int 0)) h11) ∧ (r16 = (r2 - 1) → Q (some (.int 1)) h11)))))))))) : lk_wx X (d + 1) 34 [.ref a0, .int x1] h Q := by
  refine lk_enter (lo := [.ref a0, .int x1, .retAddr 0, .retAddr 0, .retAddr 0]) lk_M34 rfl (Nat.le_of_ble_eq_true rfl) ?_
  refine lk_wp_seg (lo' := [.ref a0, .int x1, .retAddr 0, .retAddr 0, .retAddr 0]) (st' := [.ref a0]) lk_M34 lk_s34_0_1 rfl ?_
  refine lk_wp_fR lk_i34_1 lk_M34 H (fun r1 H => ?_)
  refine lk_wp_al lk_i34_4 lk_M34 H (fun r2 H => ?_)
  refine lk_wp_seg (lo' := [.ref a0, .int x1, .int (r2 - 1), .retAddr 0, .retAddr 0]) (st' := [.int x1]) lk_M34 lk_s34_5_4 rfl ?_
  refine lk_wp_cs (as := [.int x1]) (r := []) lk_i34_9 lk_M34 rfl rfl rfl rfl (Nat.le_of_ble_eq_true rfl) (lk_gi H (fun r4 h3 H => ?_))
  refine lk_wp_if_eq lk_i34_12 lk_M34 H (fun H => ?_) (fun H => ?_)
  · refine lk_wp_seg (lo' := [.ref a0, .int x1, .int (r2 - 1), .int 0, .retAddr 0]) (st' := [.int x1]) lk_M34 lk_s34_19_3 rfl ?_
    refine lk_wp_cs (as := [.int x1]) (r := []) lk_i34_22 lk_M34 rfl rfl rfl rfl (Nat.le_of_ble_eq_true rfl) (lk_gi H (fun r6 h5 H => ?_))
    refine lk_wp_if_eq lk_i34_25 lk_M34 H (fun H => ?_) (fun H => ?_)
    · refine lk_wp_seg (lo' := [.ref a0, .int x1, .int (r2 - 1), .int 0, .int 0]) (st' := [.ref a0]) lk_M34 lk_s34_32_3 rfl ?_
      refine lk_wp_fR lk_i34_36 lk_M34 H (fun r7 H => ?_)
      refine lk_wp_seg (lo' := [.ref a0, .int x1, .int (r2 - 1), .int 0, .int 0]) (st' := [.int 0, .ref r7]) lk_M34 lk_s34_39_1 rfl ?_
      refine lk_wp_ai lk_i34_40 lk_M34 H (fun r8 H => ?_)
      refine lk_wp_seg (lo' := [.ref a0, .int x1, .int (r2 - 1), .int 0, .int 0]) (st' := [.int 0, .int r8]) lk_M34 lk_s34_41_1 rfl ?_
      refine lk_wp_ic_ne lk_i34_43 lk_M34 H (fun H => ?_) (fun H => ?_)
      · refine lk_wp_seg (lo' := [.ref a0, .int x1, .int (r2 - 1), .int 0, .int 0]) (st' := [.int 0]) lk_M34 lk_s34_50_1 rfl ?_
        exact lk_wp_ret lk_i34_51 lk_M34 rfl H
      · refine lk_wp_seg (lo' := [.ref a0, .int x1, .int (r2 - 1), .int 0, .int 0]) (st' := [.int 1]) lk_M34 lk_s34_46_2 rfl ?_
        exact lk_wp_ret lk_i34_51 lk_M34 rfl H
    · refine lk_wp_seg (lo' := [.ref a0, .int x1, .int (r2 - 1), .int 0, .retAddr 0]) (st' := [.int (r2 - 1)]) lk_M34 lk_s34_28_2 rfl ?_
      refine lk_wp_seg (lo' := [.ref a0, .int x1, .int (r2 - 1), .int 0, .int (r2 - 1)]) (st' := [.ref a0]) lk_M34 lk_s34_33_2 rfl ?_
      refine lk_wp_fR lk_i34_36 lk_M34 H (fun r9 H => ?_)
      refine lk_wp_seg (lo' := [.ref a0, .int x1, .int (r2 - 1), .int 0, .int (r2 - 1)]) (st' := [.int 0, .ref r9]) lk_M34 lk_s34_39_1 rfl ?_
      refine lk_wp_ai lk_i34_40 lk_M34 H (fun r10 H => ?_)
      refine lk_wp_seg (lo' := [.ref a0, .int x1, .int (r2 - 1), .int 0, .int (r2 - 1)]) (st' := [.int (r2 - 1), .int r10]) lk_M34 lk_s34_41_1 rfl ?_
      refine lk_wp_ic_ne lk_i34_43 lk_M34 H (fun H => ?_) (fun H => ?_)
      · refine lk_wp_seg (lo' := [.ref a0, .int x1, .int (r2 - 1), .int 0, .int (r2 - 1)]) (st' := [.int 0]) lk_M34 lk_s34_50_1 rfl ?_
        exact lk_wp_ret lk_i34_51 lk_M34 rfl H
      · refine lk_wp_seg (lo' := [.ref a0, .int x1, .int (r2 - 1), .int 0, .int (r2 - 1)]) (st' := [.int 1]) lk_M34 lk_s34_46_2 rfl ?_
        exact lk_wp_ret lk_i34_51 lk_M34 rfl H
  · refine lk_wp_seg (lo' := [.ref a0, .int x1, .int (r2 - 1), .retAddr 0, .retAddr 0]) (st' := [.int (r2 - 1)]) lk_M34 lk_s34_15_2 rfl ?_
    refine lk_wp_seg (lo' := [.ref a0, .int x1, .int (r2 - 1), .int (r2 - 1), .retAddr 0]) (st' := [.int x1]) lk_M34 lk_s34_20_2 rfl ?_
    refine lk_wp_cs (as := [.int x1]) (r := []) lk_i34_22 lk_M34 rfl rfl rfl rfl (Nat.le_of_ble_eq_true rfl) (lk_gi H (fun r12 h11 H => ?_))
    refine lk_wp_if_eq lk_i34_25 lk_M34 H (fun H => ?_) (fun H => ?_)
    · refine lk_wp_seg (lo' := [.ref a0, .int x1, .int (r2 - 1), .int (r2 - 1), .int 0]) (st' := [.ref a0]) lk_M34 lk_s34_32_3 rfl ?_
      refine lk_wp_fR lk_i34_36 lk_M34 H (fun r13 H => ?_)
      refine lk_wp_seg (lo' := [.ref a0, .int x1, .int (r2 - 1), .int (r2 - 1), .int 0]) (st' := [.int (r2 - 1), .ref r13]) lk_M34 lk_s34_39_1 rfl ?_
      refine lk_wp_ai lk_i34_40 lk_M34 H (fun r14 H => ?_)
      refine lk_wp_seg (lo' := [.ref a0, .int x1, .int (r2 - 1), .int (r2 - 1), .int 0]) (st' := [.int 0, .int r14]) lk_M34 lk_s34_41_1 rfl ?_
      refine lk_wp_ic_ne lk_i34_43 lk_M34 H (fun H => ?_) (fun H => ?_)
      · refine lk_wp_seg (lo' := [.ref a0, .int x1, .int (r2 - 1), .int (r2 - 1), .int 0]) (st' := [.int 0]) lk_M34 lk_s34_50_1 rfl ?_
        exact lk_wp_ret lk_i34_51 lk_M34 rfl H
      · refine lk_wp_seg (lo' := [.ref a0, .int x1, .int (r2 - 1), .int (r2 - 1), .int 0]) (st' := [.int 1]) lk_M34 lk_s34_46_2 rfl ?_
        exact lk_wp_ret lk_i34_51 lk_M34 rfl H
    · refine lk_wp_seg (lo' := [.ref a0, .int x1, .int (r2 - 1), .int (r2 - 1), .retAddr 0]) (st' := [.int (r2 - 1)]) lk_M34 lk_s34_28_2 rfl ?_
      refine lk_wp_seg (lo' := [.ref a0, .int x1, .int (r2 - 1), .int (r2 - 1), .int (r2 - 1)]) (st' := [.ref a0]) lk_M34 lk_s34_33_2 rfl ?_
      refine lk_wp_fR lk_i34_36 lk_M34 H (fun r15 H => ?_)
      refine lk_wp_seg (lo' := [.ref a0, .int x1, .int (r2 - 1), .int (r2 - 1), .int (r2 - 1)]) (st' := [.int (r2 - 1), .ref r15]) lk_M34 lk_s34_39_1 rfl ?_
      refine lk_wp_ai lk_i34_40 lk_M34 H (fun r16 H => ?_)
      refine lk_wp_seg (lo' := [.ref a0, .int x1, .int (r2 - 1), .int (r2 - 1), .int (r2 - 1)]) (st' := [.int (r2 - 1), .int r16]) lk_M34 lk_s34_41_1 rfl ?_
      refine lk_wp_ic_ne lk_i34_43 lk_M34 H (fun H => ?_) (fun H => ?_)
      · refine lk_wp_seg (lo' := [.ref a0, .int x1, .int (r2 - 1), .int (r2 - 1), .int (r2 - 1)]) (st' := [.int 0]) lk_M34 lk_s34_50_1 rfl ?_
        exact lk_wp_ret lk_i34_51 lk_M34 rfl H
      · refine lk_wp_seg (lo' := [.ref a0, .int x1, .int (r2 - 1), .int (r2 - 1), .int (r2 - 1)]) (st' := [.int 1]) lk_M34 lk_s34_46_2 rfl ?_
        exact lk_wp_ret lk_i34_51 lk_M34 rfl H
/-! LonelyDots$Order.columnsWithoutCorner(I)[I -/
theorem lk_M35 : lk_mt[35]? = some (yX4_columnsWithoutCorner, cX4_columnsWithoutCorner, 6, ((some (FieldType.array FieldType.int)))) := rfl
theorem lk_s35_0_1 : lk_seg 35 [(.aload_n 0, 1, (0, [], .null))] 0 = some 1 := by decide +kernel
theorem lk_i35_1 : lk_ins 35 1 = some (.getfield 20, 3, (0, [(0, 5), (2, 5), (4, 5), (5, 5), (6, 5)], .null)) := lk_eqE_eq (by decide +kernel)
theorem lk_i35_4 : lk_ins 35 4 = some (.arraylength, 1, (0, [], .null)) := lk_eqE_eq (by decide +kernel)
theorem lk_s35_5_2 : lk_seg 35 [(.iconst 1, 1, (0, [], .int (1))), (.isub, 1, (0, [], .null))] 5 = some 7 := by decide +kernel
theorem lk_i35_7 : lk_ins 35 7 = some (.newarray .int, 2, (0, [], .null)) := lk_eqE_eq (by decide +kernel)
theorem lk_s35_9_2 : lk_seg 35 [(.astore_n 2, 1, (0, [], .null)), (.iload_n 1, 1, (0, [], .null))] 9 = some 11 := by decide +kernel
theorem lk_i35_11 : lk_ins 35 11 = some (.invokestatic 30, 3, (0, [(0, 37)], .ref 23)) := lk_eqE_eq (by decide +kernel)
theorem lk_i35_14 : lk_ins 35 14 = some (.ifCond .eq 7, 3, (21, [], .null)) := lk_eqE_eq (by decide +kernel)
theorem lk_s35_21_3 : lk_seg 35 [(.iconst 1, 1, (0, [], .int (1))), (.istore_n 3, 1, (0, [], .null)), (.iload_n 1, 1, (0, [], .null))] 21 = some 24 := by decide +kernel
theorem lk_i35_24 : lk_ins 35 24 = some (.invokestatic 34, 3, (0, [(0, 38)], .ref 24)) := lk_eqE_eq (by decide +kernel)
theorem lk_i35_27 : lk_ins 35 27 = some (.ifCond .eq 7, 3, (34, [], .null)) := lk_eqE_eq (by decide +kernel)
theorem lk_s35_34_4 : lk_seg 35 [(.iconst 1, 1, (0, [], .int (1))), (.istore 4, 2, (0, [], .null)), (.iconst 0, 1, (0, [], .int (0))), (.istore 5, 2, (0, [], .null))] 34 = some 40 := by decide +kernel
theorem lk_s35_30_2 : lk_seg 35 [(.iconst 0, 1, (0, [], .int (0))), (.goto 4, 3, (35, [], .null))] 30 = some 35 := by decide +kernel
theorem lk_s35_35_3 : lk_seg 35 [(.istore 4, 2, (0, [], .null)), (.iconst 0, 1, (0, [], .int (0))), (.istore 5, 2, (0, [], .null))] 35 = some 40 := by decide +kernel
theorem lk_s35_17_2 : lk_seg 35 [(.iconst 0, 1, (0, [], .int (0))), (.goto 4, 3, (22, [], .null))] 17 = some 22 := by decide +kernel
theorem lk_s35_22_2 : lk_seg 35 [(.istore_n 3, 1, (0, [], .null)), (.iload_n 1, 1, (0, [], .null))] 22 = some 24 := by decide +kernel
theorem lk_s35_40_2 : lk_seg 35 [(.iload 5, 2, (0, [], .null)), (.aload_n 2, 1, (0, [], .null))] 40 = some 43 := by decide +kernel
theorem lk_i35_43 : lk_ins 35 43 = some (.arraylength, 1, (0, [], .null)) := lk_eqE_eq (by decide +kernel)
theorem lk_i35_44 : lk_ins 35 44 = some (.if_icmp .ge 25, 3, (69, [], .null)) := lk_eqE_eq (by decide +kernel)
theorem lk_s35_69_1 : lk_seg 35 [(.aload_n 2, 1, (0, [], .null))] 69 = some 70 := by decide +kernel
theorem lk_i35_70 : lk_ins 35 70 = some (.areturn, 1, (0, [], .null)) := lk_eqE_eq (by decide +kernel)
theorem lk_s35_47_3 : lk_seg 35 [(.aload_n 2, 1, (0, [], .null)), (.iload 5, 2, (0, [], .null)), (.aload_n 0, 1, (0, [], .null))] 47 = some 51 := by decide +kernel
theorem lk_i35_51 : lk_ins 35 51 = some (.getfield 20, 3, (0, [(0, 5), (2, 5), (4, 5), (5, 5), (6, 5)], .null)) := lk_eqE_eq (by decide +kernel)
theorem lk_s35_54_3 : lk_seg 35 [(.iload 5, 2, (0, [], .null)), (.iload_n 3, 1, (0, [], .null)), (.iadd, 1, (0, [], .null))] 54 = some 58 := by decide +kernel
theorem lk_i35_58 : lk_ins 35 58 = some (.iaload, 1, (0, [], .null)) := lk_eqE_eq (by decide +kernel)
theorem lk_s35_59_2 : lk_seg 35 [(.iload 4, 2, (0, [], .null)), (.isub, 1, (0, [], .null))] 59 = some 62 := by decide +kernel
theorem lk_i35_62 : lk_ins 35 62 = some (.iastore, 1, (0, [], .null)) := lk_eqE_eq (by decide +kernel)
theorem lk_s35_63_2 : lk_seg 35 [(.iinc 5 1, 3, (0, [], .int (1))), (.goto (-26), 3, (40, [], .null))] 63 = some 40 := by decide +kernel
set_option maxRecDepth 20000 in
theorem E_o_columnsWithoutCorner {X : lk_X} {d : Nat} {x1 : Int32} {a0 : Nat} {h : lk_H} {Q : Option Value → lk_H → Prop} (H : lk_fR h a0 0 [(0, 5), (2, 5), (4, 5), (5, 5), (6, 5)] (fun r1 => lk_al2 h r1 (fun r2 => lk_nw (r2 - 1) (lk_wxi X d 37 [.int x1] ((h ++ [.inl (0, ((r2 - 1).toNatClampNeg, .inl (fun _ => 0)))])) (fun r4 h3 => (r4 = 0 → lk_wxi X d 38 [.int x1] h3 (fun r6 h5 => (r6 = 0 → lk_wp X (d + 1) 35 40 [.ref a0, .retAddr 0, .ref (h.length), .int 1, .int 1, .int 0] [] h5 Q) ∧ (¬ r6 = 0 → lk_wp X (d + 1) 35 40 [.ref a0, .retAddr 0, .ref (h.length), .int 1, .int 0, .int 0] [] h5 Q))) ∧ (¬ r4 = 0 → lk_wxi X d 38 [.int x1] h3 (fun r8 h7 => (r8 = 0 → lk_wp X (d + 1) 35 40 [.ref a0, .retAddr 0, .ref (h.length), .int 0, .int 1, .int 0] [] h7 Q) ∧ (¬ r8 = 0 → lk_wp X (d + 1) 35 40 [.ref a0, .retAddr 0, .ref (h.length), .int 0, .int 0, .int 0] [] h7 Q)))))))) : lk_wx X (d + 1) 35 [.ref a0, .int x1] h Q := by
  refine lk_enter (lo := [.ref a0, .int x1, .retAddr 0, .retAddr 0, .retAddr 0, .retAddr 0]) lk_M35 rfl (Nat.le_of_ble_eq_true rfl) ?_
  refine lk_wp_seg (lo' := [.ref a0, .int x1, .retAddr 0, .retAddr 0, .retAddr 0, .retAddr 0]) (st' := [.ref a0]) lk_M35 lk_s35_0_1 rfl ?_
  refine lk_wp_fR lk_i35_1 lk_M35 H (fun r1 H => ?_)
  refine lk_wp_al lk_i35_4 lk_M35 H (fun r2 H => ?_)
  refine lk_wp_seg (lo' := [.ref a0, .int x1, .retAddr 0, .retAddr 0, .retAddr 0, .retAddr 0]) (st' := [.int (r2 - 1)]) lk_M35 lk_s35_5_2 rfl ?_
  refine lk_wp_new_int lk_i35_7 lk_M35 H (fun H => ?_)
  refine lk_wp_seg (lo' := [.ref a0, .int x1, .ref (h.length), .retAddr 0, .retAddr 0, .retAddr 0]) (st' := [.int x1]) lk_M35 lk_s35_9_2 rfl ?_
  refine lk_wp_cs (as := [.int x1]) (r := []) lk_i35_11 lk_M35 rfl rfl rfl rfl (Nat.le_of_ble_eq_true rfl) (lk_gi H (fun r4 h3 H => ?_))
  refine lk_wp_if_eq lk_i35_14 lk_M35 H (fun H => ?_) (fun H => ?_)
  · refine lk_wp_seg (lo' := [.ref a0, .int x1, .ref (h.length), .int 1, .retAddr 0, .retAddr 0]) (st' := [.int x1]) lk_M35 lk_s35_21_3 rfl ?_
    refine lk_wp_cs (as := [.int x1]) (r := []) lk_i35_24 lk_M35 rfl rfl rfl rfl (Nat.le_of_ble_eq_true rfl) (lk_gi H (fun r6 h5 H => ?_))
    refine lk_wp_if_eq lk_i35_27 lk_M35 H (fun H => ?_) (fun H => ?_)
    · refine lk_wp_seg (lo' := [.ref a0, .int x1, .ref (h.length), .int 1, .int 1, .int 0]) (st' := []) lk_M35 lk_s35_34_4 rfl ?_
      exact H.forget (lk_le_s (lk_le_d (lk_le_s (lk_le_s (lk_le_s (lk_le_s lk_le_n))))))
    · refine lk_wp_seg (lo' := [.ref a0, .int x1, .ref (h.length), .int 1, .retAddr 0, .retAddr 0]) (st' := [.int 0]) lk_M35 lk_s35_30_2 rfl ?_
      refine lk_wp_seg (lo' := [.ref a0, .int x1, .ref (h.length), .int 1, .int 0, .int 0]) (st' := []) lk_M35 lk_s35_35_3 rfl ?_
      exact H.forget (lk_le_s (lk_le_d (lk_le_s (lk_le_s (lk_le_s (lk_le_s lk_le_n))))))
  · refine lk_wp_seg (lo' := [.ref a0, .int x1, .ref (h.length), .retAddr 0, .retAddr 0, .retAddr 0]) (st' := [.int 0]) lk_M35 lk_s35_17_2 rfl ?_
    refine lk_wp_seg (lo' := [.ref a0, .int x1, .ref (h.length), .int 0, .retAddr 0, .retAddr 0]) (st' := [.int x1]) lk_M35 lk_s35_22_2 rfl ?_
    refine lk_wp_cs (as := [.int x1]) (r := []) lk_i35_24 lk_M35 rfl rfl rfl rfl (Nat.le_of_ble_eq_true rfl) (lk_gi H (fun r8 h7 H => ?_))
    refine lk_wp_if_eq lk_i35_27 lk_M35 H (fun H => ?_) (fun H => ?_)
    · refine lk_wp_seg (lo' := [.ref a0, .int x1, .ref (h.length), .int 0, .int 1, .int 0]) (st' := []) lk_M35 lk_s35_34_4 rfl ?_
      exact H.forget (lk_le_s (lk_le_d (lk_le_s (lk_le_s (lk_le_s (lk_le_s lk_le_n))))))
    · refine lk_wp_seg (lo' := [.ref a0, .int x1, .ref (h.length), .int 0, .retAddr 0, .retAddr 0]) (st' := [.int 0]) lk_M35 lk_s35_30_2 rfl ?_
      refine lk_wp_seg (lo' := [.ref a0, .int x1, .ref (h.length), .int 0, .int 0, .int 0]) (st' := []) lk_M35 lk_s35_35_3 rfl ?_
      exact H.forget (lk_le_s (lk_le_d (lk_le_s (lk_le_s (lk_le_s (lk_le_s lk_le_n))))))
set_option maxRecDepth 20000 in
theorem F_o_columnsWithoutCorner_40 {X : lk_X} {d : Nat} {x3 x4 x5 : Int32} {a0 a2 : Nat} {h : lk_H} {Q : Option Value → lk_H → Prop} (H : lk_al2 h a2 (fun r1 => (r1 ≤ x5 → Q (some (.ref a2)) h) ∧ (¬ r1 ≤ x5 → lk_fR h a0 0 [(0, 5), (2, 5), (4, 5), (5, 5), (6, 5)] (fun r2 => lk_ai h r2 (x5 + x3) (fun r3 => lk_as h a2 x5 (r3 - x4) (fun h4 => lk_wp X (d + 1) 35 40 [.ref a0, .retAddr 0, .ref a2, .int x3, .int x4, .int (x5 + 1)] [] h4 Q)))))) : lk_wp X (d + 1) 35 40 [.ref a0, .retAddr 0, .ref a2, .int x3, .int x4, .int x5] [] h Q := by
  refine lk_wp_seg (lo' := [.ref a0, .retAddr 0, .ref a2, .int x3, .int x4, .int x5]) (st' := [.ref a2, .int x5]) lk_M35 lk_s35_40_2 rfl ?_
  refine lk_wp_al lk_i35_43 lk_M35 H (fun r1 H => ?_)
  refine lk_wp_ic_ge lk_i35_44 lk_M35 H (fun H => ?_) (fun H => ?_)
  · refine lk_wp_seg (lo' := [.ref a0, .retAddr 0, .ref a2, .int x3, .int x4, .int x5]) (st' := [.ref a2]) lk_M35 lk_s35_69_1 rfl ?_
    exact lk_wp_ret lk_i35_70 lk_M35 rfl H
  · refine lk_wp_seg (lo' := [.ref a0, .retAddr 0, .ref a2, .int x3, .int x4, .int x5]) (st' := [.ref a0, .int x5, .ref a2]) lk_M35 lk_s35_47_3 rfl ?_
    refine lk_wp_fR lk_i35_51 lk_M35 H (fun r2 H => ?_)
    refine lk_wp_seg (lo' := [.ref a0, .retAddr 0, .ref a2, .int x3, .int x4, .int x5]) (st' := [.int (x5 + x3), .ref r2, .int x5, .ref a2]) lk_M35 lk_s35_54_3 rfl ?_
    refine lk_wp_ai lk_i35_58 lk_M35 H (fun r3 H => ?_)
    refine lk_wp_seg (lo' := [.ref a0, .retAddr 0, .ref a2, .int x3, .int x4, .int x5]) (st' := [.int (r3 - x4), .int x5, .ref a2]) lk_M35 lk_s35_59_2 rfl ?_
    refine lk_wp_as lk_i35_62 lk_M35 H (fun h4 H => ?_)
    refine lk_wp_seg (lo' := [.ref a0, .retAddr 0, .ref a2, .int x3, .int x4, .int (x5 + 1)]) (st' := []) lk_M35 lk_s35_63_2 rfl ?_
    exact H
/-! LonelyDots$Order.columnsWithCorner(I)[I -/
theorem lk_M36 : lk_mt[36]? = some (yX4_columnsWithCorner, cX4_columnsWithCorner, 7, ((some (FieldType.array FieldType.int)))) := rfl
theorem lk_s36_0_1 : lk_seg 36 [(.aload_n 0, 1, (0, [], .null))] 0 = some 1 := by decide +kernel
theorem lk_i36_1 : lk_ins 36 1 = some (.getfield 20, 3, (0, [(0, 5), (2, 5), (4, 5), (5, 5), (6, 5)], .null)) := lk_eqE_eq (by decide +kernel)
theorem lk_i36_4 : lk_ins 36 4 = some (.arraylength, 1, (0, [], .null)) := lk_eqE_eq (by decide +kernel)
theorem lk_s36_5_4 : lk_seg 36 [(.istore_n 2, 1, (0, [], .null)), (.iload_n 2, 1, (0, [], .null)), (.iconst 1, 1, (0, [], .int (1))), (.iadd, 1, (0, [], .null))] 5 = some 9 := by decide +kernel
theorem lk_i36_9 : lk_ins 36 9 = some (.newarray .int, 2, (0, [], .null)) := lk_eqE_eq (by decide +kernel)
theorem lk_s36_11_2 : lk_seg 36 [(.astore_n 3, 1, (0, [], .null)), (.iload_n 1, 1, (0, [], .null))] 11 = some 13 := by decide +kernel
theorem lk_i36_13 : lk_ins 36 13 = some (.invokestatic 30, 3, (0, [(0, 37)], .ref 23)) := lk_eqE_eq (by decide +kernel)
theorem lk_i36_16 : lk_ins 36 16 = some (.ifCond .eq 7, 3, (23, [], .null)) := lk_eqE_eq (by decide +kernel)
theorem lk_s36_23_3 : lk_seg 36 [(.iconst 1, 1, (0, [], .int (1))), (.istore 4, 2, (0, [], .null)), (.iload_n 1, 1, (0, [], .null))] 23 = some 27 := by decide +kernel
theorem lk_i36_27 : lk_ins 36 27 = some (.invokestatic 34, 3, (0, [(0, 38)], .ref 24)) := lk_eqE_eq (by decide +kernel)
theorem lk_i36_30 : lk_ins 36 30 = some (.ifCond .eq 7, 3, (37, [], .null)) := lk_eqE_eq (by decide +kernel)
theorem lk_s36_37_4 : lk_seg 36 [(.iconst 1, 1, (0, [], .int (1))), (.istore 5, 2, (0, [], .null)), (.iconst 0, 1, (0, [], .int (0))), (.istore 6, 2, (0, [], .null))] 37 = some 43 := by decide +kernel
theorem lk_s36_33_2 : lk_seg 36 [(.iconst 0, 1, (0, [], .int (0))), (.goto 4, 3, (38, [], .null))] 33 = some 38 := by decide +kernel
theorem lk_s36_38_3 : lk_seg 36 [(.istore 5, 2, (0, [], .null)), (.iconst 0, 1, (0, [], .int (0))), (.istore 6, 2, (0, [], .null))] 38 = some 43 := by decide +kernel
theorem lk_s36_19_2 : lk_seg 36 [(.iconst 0, 1, (0, [], .int (0))), (.goto 4, 3, (24, [], .null))] 19 = some 24 := by decide +kernel
theorem lk_s36_24_2 : lk_seg 36 [(.istore 4, 2, (0, [], .null)), (.iload_n 1, 1, (0, [], .null))] 24 = some 27 := by decide +kernel
theorem lk_s36_43_2 : lk_seg 36 [(.iload 6, 2, (0, [], .null)), (.iload_n 2, 1, (0, [], .null))] 43 = some 46 := by decide +kernel
theorem lk_i36_46 : lk_ins 36 46 = some (.if_icmp .ge 26, 3, (72, [], .null)) := lk_eqE_eq (by decide +kernel)
theorem lk_s36_72_2 : lk_seg 36 [(.aload_n 3, 1, (0, [], .null)), (.iload_n 1, 1, (0, [], .null))] 72 = some 74 := by decide +kernel
theorem lk_i36_74 : lk_ins 36 74 = some (.invokestatic 30, 3, (0, [(0, 37)], .ref 23)) := lk_eqE_eq (by decide +kernel)
theorem lk_i36_77 : lk_ins 36 77 = some (.ifCond .eq 7, 3, (84, [], .null)) := lk_eqE_eq (by decide +kernel)
theorem lk_s36_84_2 : lk_seg 36 [(.iconst 0, 1, (0, [], .int (0))), (.iload_n 1, 1, (0, [], .null))] 84 = some 86 := by decide +kernel
theorem lk_i36_86 : lk_ins 36 86 = some (.invokestatic 34, 3, (0, [(0, 38)], .ref 24)) := lk_eqE_eq (by decide +kernel)
theorem lk_i36_89 : lk_ins 36 89 = some (.ifCond .eq 7, 3, (96, [], .null)) := lk_eqE_eq (by decide +kernel)
theorem lk_s36_96_1 : lk_seg 36 [(.iconst 0, 1, (0, [], .int (0)))] 96 = some 97 := by decide +kernel
theorem lk_i36_97 : lk_ins 36 97 = some (.iastore, 1, (0, [], .null)) := lk_eqE_eq (by decide +kernel)
theorem lk_s36_98_1 : lk_seg 36 [(.aload_n 3, 1, (0, [], .null))] 98 = some 99 := by decide +kernel
theorem lk_i36_99 : lk_ins 36 99 = some (.areturn, 1, (0, [], .null)) := lk_eqE_eq (by decide +kernel)
theorem lk_s36_92_2 : lk_seg 36 [(.iload_n 2, 1, (0, [], .null)), (.goto 4, 3, (97, [], .null))] 92 = some 97 := by decide +kernel
theorem lk_s36_80_2 : lk_seg 36 [(.iload_n 2, 1, (0, [], .null)), (.goto 4, 3, (85, [], .null))] 80 = some 85 := by decide +kernel
theorem lk_s36_85_1 : lk_seg 36 [(.iload_n 1, 1, (0, [], .null))] 85 = some 86 := by decide +kernel
theorem lk_s36_49_5 : lk_seg 36 [(.aload_n 3, 1, (0, [], .null)), (.iload 6, 2, (0, [], .null)), (.iload 4, 2, (0, [], .null)), (.iadd, 1, (0, [], .null)), (.aload_n 0, 1, (0, [], .null))] 49 = some 56 := by decide +kernel
theorem lk_i36_56 : lk_ins 36 56 = some (.getfield 20, 3, (0, [(0, 5), (2, 5), (4, 5), (5, 5), (6, 5)], .null)) := lk_eqE_eq (by decide +kernel)
theorem lk_s36_59_1 : lk_seg 36 [(.iload 6, 2, (0, [], .null))] 59 = some 61 := by decide +kernel
theorem lk_i36_61 : lk_ins 36 61 = some (.iaload, 1, (0, [], .null)) := lk_eqE_eq (by decide +kernel)
theorem lk_s36_62_2 : lk_seg 36 [(.iload 5, 2, (0, [], .null)), (.iadd, 1, (0, [], .null))] 62 = some 65 := by decide +kernel
theorem lk_i36_65 : lk_ins 36 65 = some (.iastore, 1, (0, [], .null)) := lk_eqE_eq (by decide +kernel)
theorem lk_s36_66_2 : lk_seg 36 [(.iinc 6 1, 3, (0, [], .int (1))), (.goto (-26), 3, (43, [], .null))] 66 = some 43 := by decide +kernel
set_option maxRecDepth 20000 in
theorem E_o_columnsWithCorner {X : lk_X} {d : Nat} {x1 : Int32} {a0 : Nat} {h : lk_H} {Q : Option Value → lk_H → Prop} (H : lk_fR h a0 0 [(0, 5), (2, 5), (4, 5), (5, 5), (6, 5)] (fun r1 => lk_al2 h r1 (fun r2 => lk_nw (r2 + 1) (lk_wxi X d 37 [.int x1] ((h ++ [.inl (0, ((r2 + 1).toNatClampNeg, .inl (fun _ => 0)))])) (fun r4 h3 => (r4 = 0 → lk_wxi X d 38 [.int x1] h3 (fun r6 h5 => (r6 = 0 → lk_wp X (d + 1) 36 43 [.ref a0, .int x1, .int r2, .ref (h.length), .int 1, .int 1, .int 0] [] h5 Q) ∧ (¬ r6 = 0 → lk_wp X (d + 1) 36 43 [.ref a0, .int x1, .int r2, .ref (h.length), .int 1, .int 0, .int 0] [] h5 Q))) ∧ (¬ r4 = 0 → lk_wxi X d 38 [.int x1] h3 (fun r8 h7 => (r8 = 0 → lk_wp X (d + 1) 36 43 [.ref a0, .int x1, .int r2, .ref (h.length), .int 0, .int 1, .int 0] [] h7 Q) ∧ (¬ r8 = 0 → lk_wp X (d + 1) 36 43 [.ref a0, .int x1, .int r2, .ref (h.length), .int 0, .int 0, .int 0] [] h7 Q)))))))) : lk_wx X (d + 1) 36 [.ref a0, .int x1] h Q := by
  refine lk_enter (lo := [.ref a0, .int x1, .retAddr 0, .retAddr 0, .retAddr 0, .retAddr 0, .retAddr 0]) lk_M36 rfl (Nat.le_of_ble_eq_true rfl) ?_
  refine lk_wp_seg (lo' := [.ref a0, .int x1, .retAddr 0, .retAddr 0, .retAddr 0, .retAddr 0, .retAddr 0]) (st' := [.ref a0]) lk_M36 lk_s36_0_1 rfl ?_
  refine lk_wp_fR lk_i36_1 lk_M36 H (fun r1 H => ?_)
  refine lk_wp_al lk_i36_4 lk_M36 H (fun r2 H => ?_)
  refine lk_wp_seg (lo' := [.ref a0, .int x1, .int r2, .retAddr 0, .retAddr 0, .retAddr 0, .retAddr 0]) (st' := [.int (r2 + 1)]) lk_M36 lk_s36_5_4 rfl ?_
  refine lk_wp_new_int lk_i36_9 lk_M36 H (fun H => ?_)
  refine lk_wp_seg (lo' := [.ref a0, .int x1, .int r2, .ref (h.length), .retAddr 0, .retAddr 0, .retAddr 0]) (st' := [.int x1]) lk_M36 lk_s36_11_2 rfl ?_
  refine lk_wp_cs (as := [.int x1]) (r := []) lk_i36_13 lk_M36 rfl rfl rfl rfl (Nat.le_of_ble_eq_true rfl) (lk_gi H (fun r4 h3 H => ?_))
  refine lk_wp_if_eq lk_i36_16 lk_M36 H (fun H => ?_) (fun H => ?_)
  · refine lk_wp_seg (lo' := [.ref a0, .int x1, .int r2, .ref (h.length), .int 1, .retAddr 0, .retAddr 0]) (st' := [.int x1]) lk_M36 lk_s36_23_3 rfl ?_
    refine lk_wp_cs (as := [.int x1]) (r := []) lk_i36_27 lk_M36 rfl rfl rfl rfl (Nat.le_of_ble_eq_true rfl) (lk_gi H (fun r6 h5 H => ?_))
    refine lk_wp_if_eq lk_i36_30 lk_M36 H (fun H => ?_) (fun H => ?_)
    · refine lk_wp_seg (lo' := [.ref a0, .int x1, .int r2, .ref (h.length), .int 1, .int 1, .int 0]) (st' := []) lk_M36 lk_s36_37_4 rfl ?_
      exact H
    · refine lk_wp_seg (lo' := [.ref a0, .int x1, .int r2, .ref (h.length), .int 1, .retAddr 0, .retAddr 0]) (st' := [.int 0]) lk_M36 lk_s36_33_2 rfl ?_
      refine lk_wp_seg (lo' := [.ref a0, .int x1, .int r2, .ref (h.length), .int 1, .int 0, .int 0]) (st' := []) lk_M36 lk_s36_38_3 rfl ?_
      exact H
  · refine lk_wp_seg (lo' := [.ref a0, .int x1, .int r2, .ref (h.length), .retAddr 0, .retAddr 0, .retAddr 0]) (st' := [.int 0]) lk_M36 lk_s36_19_2 rfl ?_
    refine lk_wp_seg (lo' := [.ref a0, .int x1, .int r2, .ref (h.length), .int 0, .retAddr 0, .retAddr 0]) (st' := [.int x1]) lk_M36 lk_s36_24_2 rfl ?_
    refine lk_wp_cs (as := [.int x1]) (r := []) lk_i36_27 lk_M36 rfl rfl rfl rfl (Nat.le_of_ble_eq_true rfl) (lk_gi H (fun r8 h7 H => ?_))
    refine lk_wp_if_eq lk_i36_30 lk_M36 H (fun H => ?_) (fun H => ?_)
    · refine lk_wp_seg (lo' := [.ref a0, .int x1, .int r2, .ref (h.length), .int 0, .int 1, .int 0]) (st' := []) lk_M36 lk_s36_37_4 rfl ?_
      exact H
    · refine lk_wp_seg (lo' := [.ref a0, .int x1, .int r2, .ref (h.length), .int 0, .retAddr 0, .retAddr 0]) (st' := [.int 0]) lk_M36 lk_s36_33_2 rfl ?_
      refine lk_wp_seg (lo' := [.ref a0, .int x1, .int r2, .ref (h.length), .int 0, .int 0, .int 0]) (st' := []) lk_M36 lk_s36_38_3 rfl ?_
      exact H
set_option maxRecDepth 20000 in
theorem F_o_columnsWithCorner_43 {X : lk_X} {d : Nat} {x1 x2 x4 x5 x6 : Int32} {a0 a3 : Nat} {h : lk_H} {Q : Option Value → lk_H → Prop} (H : (x2 ≤ x6 → lk_wxi X d 37 [.int x1] h (fun r2 h1 => (r2 = 0 → lk_wxi X d 38 [.int x1] h1 (fun r4 h3 => (r4 = 0 → lk_as h3 a3 0 0 (fun h5 => Q (some (.ref a3)) h5)) ∧ (¬ r4 = 0 → lk_as h3 a3 0 x2 (fun h6 => Q (some (.ref a3)) h6)))) ∧ (¬ r2 = 0 → lk_wxi X d 38 [.int x1] h1 (fun r8 h7 => (r8 = 0 → lk_as h7 a3 x2 0 (fun h9 => Q (some (.ref a3)) h9)) ∧ (¬ r8 = 0 → lk_as h7 a3 x2 x2 (fun h10 => Q (some (.ref a3)) h10)))))) ∧ (¬ x2 ≤ x6 → lk_fR h a0 0 [(0, 5), (2, 5), (4, 5), (5, 5), (6, 5)] (fun r11 => lk_ai h r11 x6 (fun r12 => lk_as h a3 (x6 + x4) (r12 + x5) (fun h13 => lk_wp X (d + 1) 36 43 [.ref a0, .int x1, .int x2, .ref a3, .int x4, .int x5, .int (x6 + 1)] [] h13 Q))))) : lk_wp X (d + 1) 36 43 [.ref a0, .int x1, .int x2, .ref a3, .int x4, .int x5, .int x6] [] h Q := by
  refine lk_wp_seg (lo' := [.ref a0, .int x1, .int x2, .ref a3, .int x4, .int x5, .int x6]) (st' := [.int x2, .int x6]) lk_M36 lk_s36_43_2 rfl ?_
  refine lk_wp_ic_ge lk_i36_46 lk_M36 H (fun H => ?_) (fun H => ?_)
  · refine lk_wp_seg (lo' := [.ref a0, .int x1, .int x2, .ref a3, .int x4, .int x5, .int x6]) (st' := [.int x1, .ref a3]) lk_M36 lk_s36_72_2 rfl ?_
    refine lk_wp_cs (as := [.int x1]) (r := [.ref a3]) lk_i36_74 lk_M36 rfl rfl rfl rfl (Nat.le_of_ble_eq_true rfl) (lk_gi H (fun r2 h1 H => ?_))
    refine lk_wp_if_eq lk_i36_77 lk_M36 H (fun H => ?_) (fun H => ?_)
    · refine lk_wp_seg (lo' := [.ref a0, .int x1, .int x2, .ref a3, .int x4, .int x5, .int x6]) (st' := [.int x1, .int 0, .ref a3]) lk_M36 lk_s36_84_2 rfl ?_
      refine lk_wp_cs (as := [.int x1]) (r := [.int 0, .ref a3]) lk_i36_86 lk_M36 rfl rfl rfl rfl (Nat.le_of_ble_eq_true rfl) (lk_gi H (fun r4 h3 H => ?_))
      refine lk_wp_if_eq lk_i36_89 lk_M36 H (fun H => ?_) (fun H => ?_)
      · refine lk_wp_seg (lo' := [.ref a0, .int x1, .int x2, .ref a3, .int x4, .int x5, .int x6]) (st' := [.int 0, .int 0, .ref a3]) lk_M36 lk_s36_96_1 rfl ?_
        refine lk_wp_as lk_i36_97 lk_M36 H (fun h5 H => ?_)
        refine lk_wp_seg (lo' := [.ref a0, .int x1, .int x2, .ref a3, .int x4, .int x5, .int x6]) (st' := [.ref a3]) lk_M36 lk_s36_98_1 rfl ?_
        exact lk_wp_ret lk_i36_99 lk_M36 rfl H
      · refine lk_wp_seg (lo' := [.ref a0, .int x1, .int x2, .ref a3, .int x4, .int x5, .int x6]) (st' := [.int x2, .int 0, .ref a3]) lk_M36 lk_s36_92_2 rfl ?_
        refine lk_wp_as lk_i36_97 lk_M36 H (fun h6 H => ?_)
        refine lk_wp_seg (lo' := [.ref a0, .int x1, .int x2, .ref a3, .int x4, .int x5, .int x6]) (st' := [.ref a3]) lk_M36 lk_s36_98_1 rfl ?_
        exact lk_wp_ret lk_i36_99 lk_M36 rfl H
    · refine lk_wp_seg (lo' := [.ref a0, .int x1, .int x2, .ref a3, .int x4, .int x5, .int x6]) (st' := [.int x2, .ref a3]) lk_M36 lk_s36_80_2 rfl ?_
      refine lk_wp_seg (lo' := [.ref a0, .int x1, .int x2, .ref a3, .int x4, .int x5, .int x6]) (st' := [.int x1, .int x2, .ref a3]) lk_M36 lk_s36_85_1 rfl ?_
      refine lk_wp_cs (as := [.int x1]) (r := [.int x2, .ref a3]) lk_i36_86 lk_M36 rfl rfl rfl rfl (Nat.le_of_ble_eq_true rfl) (lk_gi H (fun r8 h7 H => ?_))
      refine lk_wp_if_eq lk_i36_89 lk_M36 H (fun H => ?_) (fun H => ?_)
      · refine lk_wp_seg (lo' := [.ref a0, .int x1, .int x2, .ref a3, .int x4, .int x5, .int x6]) (st' := [.int 0, .int x2, .ref a3]) lk_M36 lk_s36_96_1 rfl ?_
        refine lk_wp_as lk_i36_97 lk_M36 H (fun h9 H => ?_)
        refine lk_wp_seg (lo' := [.ref a0, .int x1, .int x2, .ref a3, .int x4, .int x5, .int x6]) (st' := [.ref a3]) lk_M36 lk_s36_98_1 rfl ?_
        exact lk_wp_ret lk_i36_99 lk_M36 rfl H
      · refine lk_wp_seg (lo' := [.ref a0, .int x1, .int x2, .ref a3, .int x4, .int x5, .int x6]) (st' := [.int x2, .int x2, .ref a3]) lk_M36 lk_s36_92_2 rfl ?_
        refine lk_wp_as lk_i36_97 lk_M36 H (fun h10 H => ?_)
        refine lk_wp_seg (lo' := [.ref a0, .int x1, .int x2, .ref a3, .int x4, .int x5, .int x6]) (st' := [.ref a3]) lk_M36 lk_s36_98_1 rfl ?_
        exact lk_wp_ret lk_i36_99 lk_M36 rfl H
  · refine lk_wp_seg (lo' := [.ref a0, .int x1, .int x2, .ref a3, .int x4, .int x5, .int x6]) (st' := [.ref a0, .int (x6 + x4), .ref a3]) lk_M36 lk_s36_49_5 rfl ?_
    refine lk_wp_fR lk_i36_56 lk_M36 H (fun r11 H => ?_)
    refine lk_wp_seg (lo' := [.ref a0, .int x1, .int x2, .ref a3, .int x4, .int x5, .int x6]) (st' := [.int x6, .ref r11, .int (x6 + x4), .ref a3]) lk_M36 lk_s36_59_1 rfl ?_
    refine lk_wp_ai lk_i36_61 lk_M36 H (fun r12 H => ?_)
    refine lk_wp_seg (lo' := [.ref a0, .int x1, .int x2, .ref a3, .int x4, .int x5, .int x6]) (st' := [.int (r12 + x5), .int (x6 + x4), .ref a3]) lk_M36 lk_s36_62_2 rfl ?_
    refine lk_wp_as lk_i36_65 lk_M36 H (fun h13 H => ?_)
    refine lk_wp_seg (lo' := [.ref a0, .int x1, .int x2, .ref a3, .int x4, .int x5, .int (x6 + 1)]) (st' := []) lk_M36 lk_s36_66_2 rfl ?_
    exact H
/-! LonelyDots$Order.isBelow(I)Z -/
theorem lk_M37 : lk_mt[37]? = some (yX4_isBelow, cX4_isBelow, 1, ((some FieldType.boolean))) := rfl
theorem lk_s37_0_3 : lk_seg 37 [(.iload_n 0, 1, (0, [], .null)), (.iconst 2, 1, (0, [], .int (2))), (.iand, 1, (0, [], .null))] 0 = some 3 := by decide +kernel
theorem lk_i37_3 : lk_ins 37 3 = some (.ifCond .eq 7, 3, (10, [], .null)) := lk_eqE_eq (by decide +kernel)
theorem lk_s37_10_1 : lk_seg 37 [(.iconst 0, 1, (0, [], .int (0)))] 10 = some 11 := by decide +kernel
theorem lk_i37_11 : lk_ins 37 11 = some (.ireturn, 1, (0, [], .null)) := lk_eqE_eq (by decide +kernel)
theorem lk_s37_6_2 : lk_seg 37 [(.iconst 1, 1, (0, [], .int (1))), (.goto 4, 3, (11, [], .null))] 6 = some 11 := by decide +kernel
set_option maxRecDepth 20000 in
theorem E_o_isBelow {X : lk_X} {d : Nat} {x0 : Int32} {h : lk_H} {Q : Option Value → lk_H → Prop} (H : ((x0 &&& 2) = 0 → Q (some (.int 0)) h) ∧ (¬ (x0 &&& 2) = 0 → Q (some (.int 1)) h)) : lk_wx X (d + 1) 37 [.int x0] h Q := by
  refine lk_enter (lo := [.int x0]) lk_M37 rfl (Nat.le_of_ble_eq_true rfl) ?_
  refine lk_wp_seg (lo' := [.int x0]) (st' := [.int (x0 &&& 2)]) lk_M37 lk_s37_0_3 rfl ?_
  refine lk_wp_if_eq lk_i37_3 lk_M37 H (fun H => ?_) (fun H => ?_)
  · refine lk_wp_seg (lo' := [.int x0]) (st' := [.int 0]) lk_M37 lk_s37_10_1 rfl ?_
    exact lk_wp_ret lk_i37_11 lk_M37 rfl H
  · refine lk_wp_seg (lo' := [.int x0]) (st' := [.int 1]) lk_M37 lk_s37_6_2 rfl ?_
    exact lk_wp_ret lk_i37_11 lk_M37 rfl H
/-! LonelyDots$Order.isRight(I)Z -/
theorem lk_M38 : lk_mt[38]? = some (yX4_isRight, cX4_isRight, 1, ((some FieldType.boolean))) := rfl
theorem lk_s38_0_3 : lk_seg 38 [(.iload_n 0, 1, (0, [], .null)), (.iconst 1, 1, (0, [], .int (1))), (.iand, 1, (0, [], .null))] 0 = some 3 := by decide +kernel
theorem lk_i38_3 : lk_ins 38 3 = some (.ifCond .eq 7, 3, (10, [], .null)) := lk_eqE_eq (by decide +kernel)
theorem lk_s38_10_1 : lk_seg 38 [(.iconst 0, 1, (0, [], .int (0)))] 10 = some 11 := by decide +kernel
theorem lk_i38_11 : lk_ins 38 11 = some (.ireturn, 1, (0, [], .null)) := lk_eqE_eq (by decide +kernel)
theorem lk_s38_6_2 : lk_seg 38 [(.iconst 1, 1, (0, [], .int (1))), (.goto 4, 3, (11, [], .null))] 6 = some 11 := by decide +kernel
set_option maxRecDepth 20000 in
theorem E_o_isRight {X : lk_X} {d : Nat} {x0 : Int32} {h : lk_H} {Q : Option Value → lk_H → Prop} (H : ((x0 &&& 1) = 0 → Q (some (.int 0)) h) ∧ (¬ (x0 &&& 1) = 0 → Q (some (.int 1)) h)) : lk_wx X (d + 1) 38 [.int x0] h Q := by
  refine lk_enter (lo := [.int x0]) lk_M38 rfl (Nat.le_of_ble_eq_true rfl) ?_
  refine lk_wp_seg (lo' := [.int x0]) (st' := [.int (x0 &&& 1)]) lk_M38 lk_s38_0_3 rfl ?_
  refine lk_wp_if_eq lk_i38_3 lk_M38 H (fun H => ?_) (fun H => ?_)
  · refine lk_wp_seg (lo' := [.int x0]) (st' := [.int 0]) lk_M38 lk_s38_10_1 rfl ?_
    exact lk_wp_ret lk_i38_11 lk_M38 rfl H
  · refine lk_wp_seg (lo' := [.int x0]) (st' := [.int 1]) lk_M38 lk_s38_6_2 rfl ?_
    exact lk_wp_ret lk_i38_11 lk_M38 rfl H
/-! LonelyDots$Perfect.<init>([I)V -/
theorem lk_M39 : lk_mt[39]? = some (yX5_init, cX5_init, 2, ((none))) := rfl
theorem lk_s39_0_2 : lk_seg 39 [(.aload_n 0, 1, (0, [], .null)), (.aload_n 1, 1, (0, [], .null))] 0 = some 2 := by decide +kernel
theorem lk_i39_2 : lk_ins 39 2 = some (.invokespecial 3, 3, (3, [(0, 42)], .ref 15)) := lk_eqE_eq (by decide +kernel)
theorem lk_i39_5 : lk_ins 39 5 = some (.return_, 1, (0, [], .null)) := lk_eqE_eq (by decide +kernel)
set_option maxRecDepth 20000 in
theorem E_p_init {X : lk_X} {d : Nat} {a0 a1 : Nat} {h : lk_H} {Q : Option Value → lk_H → Prop} (H : lk_ob h a0 (lk_wxv X d 42 [.ref a0, .ref a1] h (fun h1 => Q none h1))) : lk_wx X (d + 1) 39 [.ref a0, .ref a1] h Q := by
  refine lk_enter (lo := [.ref a0, .ref a1]) lk_M39 rfl (Nat.le_of_ble_eq_true rfl) ?_
  refine lk_wp_seg (lo' := [.ref a0, .ref a1]) (st' := [.ref a1, .ref a0]) lk_M39 lk_s39_0_2 rfl ?_
  refine lk_wp_cp (as := [.ref a1]) (r := []) (a := a0) lk_i39_2 lk_M39 rfl rfl rfl rfl (Nat.le_of_ble_eq_true rfl) H (fun H => lk_gv H (fun h1 H => ?_))
  exact lk_wp_ret lk_i39_5 lk_M39 rfl H
/-! LonelyDots$Perfect.toldKind()I -/
theorem lk_M40 : lk_mt[40]? = some (yX5_toldKind, cX5_toldKind, 1, ((some FieldType.int))) := rfl
theorem lk_s40_0_1 : lk_seg 40 [(.iconst 5, 1, (0, [], .int (5)))] 0 = some 1 := by decide +kernel
theorem lk_i40_1 : lk_ins 40 1 = some (.ireturn, 1, (0, [], .null)) := lk_eqE_eq (by decide +kernel)
set_option maxRecDepth 20000 in
theorem E_p_toldKind {X : lk_X} {d : Nat} {a0 : Nat} {h : lk_H} {Q : Option Value → lk_H → Prop} (H : Q (some (.int 5)) h) : lk_wx X (d + 1) 40 [.ref a0] h Q := by
  refine lk_enter (lo := [.ref a0]) lk_M40 rfl (Nat.le_of_ble_eq_true rfl) ?_
  refine lk_wp_seg (lo' := [.ref a0]) (st' := [.int 5]) lk_M40 lk_s40_0_1 rfl ?_
  exact lk_wp_ret lk_i40_1 lk_M40 rfl H
/-! LonelyDots$Perfect.askSize(LLonelyDots$Trace;)I -/
theorem lk_M41 : lk_mt[41]? = some (yX5_askSize, cX5_askSize, 2, ((some FieldType.int))) := rfl
theorem lk_s41_0_2 : lk_seg 41 [(.aload_n 1, 1, (0, [], .null)), (.bipush 14, 2, (0, [], .int (14)))] 0 = some 3 := by decide +kernel
theorem lk_i41_3 : lk_ins 41 3 = some (.invokevirtual 9, 3, (1, [(9, 63)], .ref 1)) := lk_eqE_eq (by decide +kernel)
theorem lk_s41_6_2 : lk_seg 41 [(.aload_n 0, 1, (0, [], .null)), (.aload_n 1, 1, (0, [], .null))] 6 = some 8 := by decide +kernel
theorem lk_i41_8 : lk_ins 41 8 = some (.invokespecial 15, 3, (5, [(0, 44)], .ref 25)) := lk_eqE_eq (by decide +kernel)
theorem lk_s41_11_2 : lk_seg 41 [(.aload_n 0, 1, (0, [], .null)), (.aload_n 1, 1, (0, [], .null))] 11 = some 13 := by decide +kernel
theorem lk_i41_13 : lk_ins 41 13 = some (.invokevirtual 19, 3, (2, [(5, 18)], .ref 26)) := lk_eqE_eq (by decide +kernel)
theorem lk_s41_16_1 : lk_seg 41 [(.iadd, 1, (0, [], .null))] 16 = some 17 := by decide +kernel
theorem lk_i41_17 : lk_ins 41 17 = some (.ireturn, 1, (0, [], .null)) := lk_eqE_eq (by decide +kernel)
set_option maxRecDepth 20000 in
theorem E_p_askSize {X : lk_X} {d : Nat} {a0 a1 : Nat} {h : lk_H} {Q : Option Value → lk_H → Prop} (H : lk_vc h a1 [(9, 63)] (fun k7 => lk_wxv X d k7 [.ref a1, .int 14] h (fun h1 => lk_ob h1 a0 (lk_wxi X d 44 [.ref a0, .ref a1] h1 (fun r3 h2 => lk_vc h2 a0 [(5, 18)] (fun k6 => lk_wxi X d k6 [.ref a0, .ref a1] h2 (fun r5 h4 => Q (some (.int (r3 + r5))) h4))))))) : lk_wx X (d + 1) 41 [.ref a0, .ref a1] h Q := by
  refine lk_enter (lo := [.ref a0, .ref a1]) lk_M41 rfl (Nat.le_of_ble_eq_true rfl) ?_
  refine lk_wp_seg (lo' := [.ref a0, .ref a1]) (st' := [.int 14, .ref a1]) lk_M41 lk_s41_0_2 rfl ?_
  refine lk_wp_cv (as := [.int 14]) (r := []) (a := a1) lk_i41_3 lk_M41 rfl rfl rfl (Nat.le_of_ble_eq_true rfl) H (fun k7 H => lk_gv H (fun h1 H => ?_))
  refine lk_wp_seg (lo' := [.ref a0, .ref a1]) (st' := [.ref a1, .ref a0]) lk_M41 lk_s41_6_2 rfl ?_
  refine lk_wp_cp (as := [.ref a1]) (r := []) (a := a0) lk_i41_8 lk_M41 rfl rfl rfl rfl (Nat.le_of_ble_eq_true rfl) H (fun H => lk_gi H (fun r3 h2 H => ?_))
  refine lk_wp_seg (lo' := [.ref a0, .ref a1]) (st' := [.ref a1, .ref a0, .int r3]) lk_M41 lk_s41_11_2 rfl ?_
  refine lk_wp_cv (as := [.ref a1]) (r := [.int r3]) (a := a0) lk_i41_13 lk_M41 rfl rfl rfl (Nat.le_of_ble_eq_true rfl) H (fun k6 H => lk_gi H (fun r5 h4 H => ?_))
  refine lk_wp_seg (lo' := [.ref a0, .ref a1]) (st' := [.int (r3 + r5)]) lk_M41 lk_s41_16_1 rfl ?_
  exact lk_wp_ret lk_i41_17 lk_M41 rfl H
/-! LonelyDots$Ruler.<init>([I)V -/
theorem lk_M42 : lk_mt[42]? = some (yX6_init, cX6_init, 2, ((none))) := rfl
theorem lk_s42_0_2 : lk_seg 42 [(.aload_n 0, 1, (0, [], .null)), (.aload_n 1, 1, (0, [], .null))] 0 = some 2 := by decide +kernel
theorem lk_i42_2 : lk_ins 42 2 = some (.invokespecial 3, 3, (3, [(0, 11)], .ref 11)) := lk_eqE_eq (by decide +kernel)
theorem lk_i42_5 : lk_ins 42 5 = some (.return_, 1, (0, [], .null)) := lk_eqE_eq (by decide +kernel)
set_option maxRecDepth 20000 in
theorem E_r_init {X : lk_X} {d : Nat} {a0 a1 : Nat} {h : lk_H} {Q : Option Value → lk_H → Prop} (H : lk_ob h a0 (lk_wxv X d 11 [.ref a0, .ref a1] h (fun h1 => Q none h1))) : lk_wx X (d + 1) 42 [.ref a0, .ref a1] h Q := by
  refine lk_enter (lo := [.ref a0, .ref a1]) lk_M42 rfl (Nat.le_of_ble_eq_true rfl) ?_
  refine lk_wp_seg (lo' := [.ref a0, .ref a1]) (st' := [.ref a1, .ref a0]) lk_M42 lk_s42_0_2 rfl ?_
  refine lk_wp_cp (as := [.ref a1]) (r := []) (a := a0) lk_i42_2 lk_M42 rfl rfl rfl rfl (Nat.le_of_ble_eq_true rfl) H (fun H => lk_gv H (fun h1 H => ?_))
  exact lk_wp_ret lk_i42_5 lk_M42 rfl H
/-! LonelyDots$Ruler.toldKind()I -/
theorem lk_M43 : lk_mt[43]? = some (yX6_toldKind, cX6_toldKind, 1, ((some FieldType.int))) := rfl
theorem lk_s43_0_1 : lk_seg 43 [(.iconst 4, 1, (0, [], .int (4)))] 0 = some 1 := by decide +kernel
theorem lk_i43_1 : lk_ins 43 1 = some (.ireturn, 1, (0, [], .null)) := lk_eqE_eq (by decide +kernel)
set_option maxRecDepth 20000 in
theorem E_r_toldKind {X : lk_X} {d : Nat} {a0 : Nat} {h : lk_H} {Q : Option Value → lk_H → Prop} (H : Q (some (.int 4)) h) : lk_wx X (d + 1) 43 [.ref a0] h Q := by
  refine lk_enter (lo := [.ref a0]) lk_M43 rfl (Nat.le_of_ble_eq_true rfl) ?_
  refine lk_wp_seg (lo' := [.ref a0]) (st' := [.int 4]) lk_M43 lk_s43_0_1 rfl ?_
  exact lk_wp_ret lk_i43_1 lk_M43 rfl H
/-! LonelyDots$Ruler.askSize(LLonelyDots$Trace;)I -/
theorem lk_M44 : lk_mt[44]? = some (yX6_askSize, cX6_askSize, 2, ((some FieldType.int))) := rfl
theorem lk_s44_0_2 : lk_seg 44 [(.aload_n 1, 1, (0, [], .null)), (.bipush 13, 2, (0, [], .int (13)))] 0 = some 3 := by decide +kernel
theorem lk_i44_3 : lk_ins 44 3 = some (.invokevirtual 9, 3, (1, [(9, 63)], .ref 1)) := lk_eqE_eq (by decide +kernel)
theorem lk_s44_6_3 : lk_seg 44 [(.iconst 2, 1, (0, [], .int (2))), (.aload_n 0, 1, (0, [], .null)), (.aload_n 1, 1, (0, [], .null))] 6 = some 9 := by decide +kernel
theorem lk_i44_9 : lk_ins 44 9 = some (.invokespecial 15, 3, (5, [(0, 17)], .ref 27)) := lk_eqE_eq (by decide +kernel)
theorem lk_s44_12_1 : lk_seg 44 [(.imul, 1, (0, [], .null))] 12 = some 13 := by decide +kernel
theorem lk_i44_13 : lk_ins 44 13 = some (.ireturn, 1, (0, [], .null)) := lk_eqE_eq (by decide +kernel)
set_option maxRecDepth 20000 in
theorem E_r_askSize {X : lk_X} {d : Nat} {a0 a1 : Nat} {h : lk_H} {Q : Option Value → lk_H → Prop} (H : lk_vc h a1 [(9, 63)] (fun k4 => lk_wxv X d k4 [.ref a1, .int 13] h (fun h1 => lk_ob h1 a0 (lk_wxi X d 17 [.ref a0, .ref a1] h1 (fun r3 h2 => Q (some (.int (2 * r3))) h2))))) : lk_wx X (d + 1) 44 [.ref a0, .ref a1] h Q := by
  refine lk_enter (lo := [.ref a0, .ref a1]) lk_M44 rfl (Nat.le_of_ble_eq_true rfl) ?_
  refine lk_wp_seg (lo' := [.ref a0, .ref a1]) (st' := [.int 13, .ref a1]) lk_M44 lk_s44_0_2 rfl ?_
  refine lk_wp_cv (as := [.int 13]) (r := []) (a := a1) lk_i44_3 lk_M44 rfl rfl rfl (Nat.le_of_ble_eq_true rfl) H (fun k4 H => lk_gv H (fun h1 H => ?_))
  refine lk_wp_seg (lo' := [.ref a0, .ref a1]) (st' := [.ref a1, .ref a0, .int 2]) lk_M44 lk_s44_6_3 rfl ?_
  refine lk_wp_cp (as := [.ref a1]) (r := [.int 2]) (a := a0) lk_i44_9 lk_M44 rfl rfl rfl rfl (Nat.le_of_ble_eq_true rfl) H (fun H => lk_gi H (fun r3 h2 H => ?_))
  refine lk_wp_seg (lo' := [.ref a0, .ref a1]) (st' := [.int (2 * r3)]) lk_M44 lk_s44_12_1 rfl ?_
  exact lk_wp_ret lk_i44_13 lk_M44 rfl H
/-! LonelyDots$RulerSearch.<init>()V -/
theorem lk_M45 : lk_mt[45]? = some (yX7_init, cX7_init, 1, ((none))) := rfl
theorem lk_s45_0_1 : lk_seg 45 [(.aload_n 0, 1, (0, [], .null))] 0 = some 1 := by decide +kernel
theorem lk_i45_1 : lk_ins 45 1 = some (.invokespecial 3, 3, (100, [], .null)) := lk_eqE_eq (by decide +kernel)
theorem lk_s45_4_2 : lk_seg 45 [(.aload_n 0, 1, (0, [], .null)), (.bipush 7, 2, (0, [], .int (7)))] 4 = some 7 := by decide +kernel
theorem lk_i45_7 : lk_ins 45 7 = some (.newarray .int, 2, (0, [], .null)) := lk_eqE_eq (by decide +kernel)
theorem lk_i45_9 : lk_ins 45 9 = some (.putfield 9, 3, (0, [(7, 0)], .null)) := lk_eqE_eq (by decide +kernel)
theorem lk_s45_12_2 : lk_seg 45 [(.aload_n 0, 1, (0, [], .null)), (.bipush 6, 2, (0, [], .int (6)))] 12 = some 15 := by decide +kernel
theorem lk_i45_15 : lk_ins 45 15 = some (.newarray .int, 2, (0, [], .null)) := lk_eqE_eq (by decide +kernel)
theorem lk_i45_17 : lk_ins 45 17 = some (.putfield 15, 3, (1, [(7, 0)], .null)) := lk_eqE_eq (by decide +kernel)
theorem lk_s45_20_2 : lk_seg 45 [(.aload_n 0, 1, (0, [], .null)), (.sipush 201, 3, (0, [], .int (201)))] 20 = some 24 := by decide +kernel
theorem lk_i45_24 : lk_ins 45 24 = some (.newarray .boolean, 2, (0, [], .null)) := lk_eqE_eq (by decide +kernel)
theorem lk_i45_26 : lk_ins 45 26 = some (.putfield 18, 3, (2, [(7, 0)], .null)) := lk_eqE_eq (by decide +kernel)
theorem lk_s45_29_1 : lk_seg 45 [(.aload_n 0, 1, (0, [], .null))] 29 = some 30 := by decide +kernel
theorem lk_i45_30 : lk_ins 45 30 = some (.getfield 9, 3, (0, [(7, 0)], .null)) := lk_eqE_eq (by decide +kernel)
theorem lk_s45_33_1 : lk_seg 45 [(.iconst (-1), 1, (0, [], .int (-1)))] 33 = some 34 := by decide +kernel
theorem lk_i45_34 : lk_ins 45 34 = some (.invokestatic 22, 3, (0, [(0, 170)], .ref 18)) := lk_eqE_eq (by decide +kernel)
theorem lk_i45_37 : lk_ins 45 37 = some (.return_, 1, (0, [], .null)) := lk_eqE_eq (by decide +kernel)
set_option maxRecDepth 20000 in
theorem E_rs_init {X : lk_X} {d : Nat} {a0 : Nat} {h : lk_H} {Q : Option Value → lk_H → Prop} (H : lk_nw (7 : Int32) (lk_pf ((h ++ [.inl (0, ((7 : Int32).toNatClampNeg, .inl (fun _ => 0)))])) a0 0 [(7, 0)] (.ref (h.length)) (fun h1 => lk_nw (6 : Int32) (lk_pf ((h1 ++ [.inl (0, ((6 : Int32).toNatClampNeg, .inl (fun _ => 0)))])) a0 1 [(7, 0)] (.ref (h1.length)) (fun h2 => lk_nw (201 : Int32) (lk_pf ((h2 ++ [.inl (1, ((201 : Int32).toNatClampNeg, .inl (fun _ => 0)))])) a0 2 [(7, 0)] (.ref (h2.length)) (fun h3 => lk_fR h3 a0 0 [(7, 0)] (fun r4 => lk_wxv X d 170 [.ref r4, .int ((-1))] h3 (fun h5 => Q none h5))))))))) : lk_wx X (d + 1) 45 [.ref a0] h Q := by
  refine lk_enter (lo := [.ref a0]) lk_M45 rfl (Nat.le_of_ble_eq_true rfl) ?_
  refine lk_wp_seg (lo' := [.ref a0]) (st' := [.ref a0]) lk_M45 lk_s45_0_1 rfl ?_
  refine lk_wp_one lk_i45_1 lk_M45 rfl rfl rfl ?_
  refine lk_wp_seg (lo' := [.ref a0]) (st' := [.int 7, .ref a0]) lk_M45 lk_s45_4_2 rfl ?_
  refine lk_wp_new_int lk_i45_7 lk_M45 H (fun H => ?_)
  refine lk_wp_pf lk_i45_9 lk_M45 H (fun h1 H => ?_)
  refine lk_wp_seg (lo' := [.ref a0]) (st' := [.int 6, .ref a0]) lk_M45 lk_s45_12_2 rfl ?_
  refine lk_wp_new_int lk_i45_15 lk_M45 H (fun H => ?_)
  refine lk_wp_pf lk_i45_17 lk_M45 H (fun h2 H => ?_)
  refine lk_wp_seg (lo' := [.ref a0]) (st' := [.int 201, .ref a0]) lk_M45 lk_s45_20_2 rfl ?_
  refine lk_wp_new_bool lk_i45_24 lk_M45 H (fun H => ?_)
  refine lk_wp_pf lk_i45_26 lk_M45 H (fun h3 H => ?_)
  refine lk_wp_seg (lo' := [.ref a0]) (st' := [.ref a0]) lk_M45 lk_s45_29_1 rfl ?_
  refine lk_wp_fR lk_i45_30 lk_M45 H (fun r4 H => ?_)
  refine lk_wp_seg (lo' := [.ref a0]) (st' := [.int ((-1)), .ref r4]) lk_M45 lk_s45_33_1 rfl ?_
  refine lk_wp_cs (as := [.ref r4, .int ((-1))]) (r := []) lk_i45_34 lk_M45 rfl rfl rfl rfl (Nat.le_of_ble_eq_true rfl) (lk_gv H (fun h5 H => ?_))
  exact lk_wp_ret lk_i45_37 lk_M45 rfl H
/-! LonelyDots$RulerSearch.leastGreatestMark(I)I -/
theorem lk_M46 : lk_mt[46]? = some (yX7_leastGreatestMark, cX7_leastGreatestMark, 2, ((some FieldType.int))) := rfl
theorem lk_s46_0_1 : lk_seg 46 [(.aload_n 0, 1, (0, [], .null))] 0 = some 1 := by decide +kernel
theorem lk_i46_1 : lk_ins 46 1 = some (.getfield 9, 3, (0, [(7, 0)], .null)) := lk_eqE_eq (by decide +kernel)
theorem lk_s46_4_1 : lk_seg 46 [(.iload_n 1, 1, (0, [], .null))] 4 = some 5 := by decide +kernel
theorem lk_i46_5 : lk_ins 46 5 = some (.iaload, 1, (0, [], .null)) := lk_eqE_eq (by decide +kernel)
theorem lk_s46_6_1 : lk_seg 46 [(.iconst (-1), 1, (0, [], .int (-1)))] 6 = some 7 := by decide +kernel
theorem lk_i46_7 : lk_ins 46 7 = some (.if_icmp .ne 26, 3, (33, [], .null)) := lk_eqE_eq (by decide +kernel)
theorem lk_s46_33_1 : lk_seg 46 [(.aload_n 0, 1, (0, [], .null))] 33 = some 34 := by decide +kernel
theorem lk_i46_34 : lk_ins 46 34 = some (.getfield 9, 3, (0, [(7, 0)], .null)) := lk_eqE_eq (by decide +kernel)
theorem lk_s46_37_1 : lk_seg 46 [(.iload_n 1, 1, (0, [], .null))] 37 = some 38 := by decide +kernel
theorem lk_i46_38 : lk_ins 46 38 = some (.iaload, 1, (0, [], .null)) := lk_eqE_eq (by decide +kernel)
theorem lk_i46_39 : lk_ins 46 39 = some (.ireturn, 1, (0, [], .null)) := lk_eqE_eq (by decide +kernel)
theorem lk_s46_10_2 : lk_seg 46 [(.aload_n 0, 1, (0, [], .null)), (.sipush 201, 3, (0, [], .int (201)))] 10 = some 14 := by decide +kernel
theorem lk_i46_14 : lk_ins 46 14 = some (.putfield 28, 3, (3, [(7, 0)], .null)) := lk_eqE_eq (by decide +kernel)
theorem lk_s46_17_3 : lk_seg 46 [(.aload_n 0, 1, (0, [], .null)), (.iconst 1, 1, (0, [], .int (1))), (.iload_n 1, 1, (0, [], .null))] 17 = some 20 := by decide +kernel
theorem lk_i46_20 : lk_ins 46 20 = some (.invokestatic 32, 3, (0, [(0, 47)], .ref 28)) := lk_eqE_eq (by decide +kernel)
theorem lk_s46_23_1 : lk_seg 46 [(.aload_n 0, 1, (0, [], .null))] 23 = some 24 := by decide +kernel
theorem lk_i46_24 : lk_ins 46 24 = some (.getfield 9, 3, (0, [(7, 0)], .null)) := lk_eqE_eq (by decide +kernel)
theorem lk_s46_27_2 : lk_seg 46 [(.iload_n 1, 1, (0, [], .null)), (.aload_n 0, 1, (0, [], .null))] 27 = some 29 := by decide +kernel
theorem lk_i46_29 : lk_ins 46 29 = some (.getfield 28, 3, (3, [(7, 0)], .null)) := lk_eqE_eq (by decide +kernel)
theorem lk_i46_32 : lk_ins 46 32 = some (.iastore, 1, (0, [], .null)) := lk_eqE_eq (by decide +kernel)
set_option maxRecDepth 20000 in
theorem E_rs_leastGreatestMark {X : lk_X} {d : Nat} {x1 : Int32} {a0 : Nat} {h : lk_H} {Q : Option Value → lk_H → Prop} (H : lk_fR h a0 0 [(7, 0)] (fun r1 => lk_ai h r1 x1 (fun r2 => (¬ r2 = (-1) → lk_fR h a0 0 [(7, 0)] (fun r3 => lk_ai h r3 x1 (fun r4 => Q (some (.int r4)) h))) ∧ (r2 = (-1) → lk_pf h a0 3 [(7, 0)] (.int 201) (fun h5 => lk_wxv X d 47 [.ref a0, .int 1, .int x1] h5 (fun h6 => lk_fR h6 a0 0 [(7, 0)] (fun r7 => lk_fI h6 a0 3 [(7, 0)] (fun r8 => lk_as h6 r7 x1 r8 (fun h9 => lk_fR h9 a0 0 [(7, 0)] (fun r10 => lk_ai h9 r10 x1 (fun r11 => Q (some (.int r11)) h9))))))))))) : lk_wx X (d + 1) 46 [.ref a0, .int x1] h Q := by
  refine lk_enter (lo := [.ref a0, .int x1]) lk_M46 rfl (Nat.le_of_ble_eq_true rfl) ?_
  refine lk_wp_seg (lo' := [.ref a0, .int x1]) (st' := [.ref a0]) lk_M46 lk_s46_0_1 rfl ?_
  refine lk_wp_fR lk_i46_1 lk_M46 H (fun r1 H => ?_)
  refine lk_wp_seg (lo' := [.ref a0, .int x1]) (st' := [.int x1, .ref r1]) lk_M46 lk_s46_4_1 rfl ?_
  refine lk_wp_ai lk_i46_5 lk_M46 H (fun r2 H => ?_)
  refine lk_wp_seg (lo' := [.ref a0, .int x1]) (st' := [.int ((-1)), .int r2]) lk_M46 lk_s46_6_1 rfl ?_
  refine lk_wp_ic_ne lk_i46_7 lk_M46 H (fun H => ?_) (fun H => ?_)
  · refine lk_wp_seg (lo' := [.ref a0, .int x1]) (st' := [.ref a0]) lk_M46 lk_s46_33_1 rfl ?_
    refine lk_wp_fR lk_i46_34 lk_M46 H (fun r3 H => ?_)
    refine lk_wp_seg (lo' := [.ref a0, .int x1]) (st' := [.int x1, .ref r3]) lk_M46 lk_s46_37_1 rfl ?_
    refine lk_wp_ai lk_i46_38 lk_M46 H (fun r4 H => ?_)
    exact lk_wp_ret lk_i46_39 lk_M46 rfl H
  · refine lk_wp_seg (lo' := [.ref a0, .int x1]) (st' := [.int 201, .ref a0]) lk_M46 lk_s46_10_2 rfl ?_
    refine lk_wp_pf lk_i46_14 lk_M46 H (fun h5 H => ?_)
    refine lk_wp_seg (lo' := [.ref a0, .int x1]) (st' := [.int x1, .int 1, .ref a0]) lk_M46 lk_s46_17_3 rfl ?_
    refine lk_wp_cs (as := [.ref a0, .int 1, .int x1]) (r := []) lk_i46_20 lk_M46 rfl rfl rfl rfl (Nat.le_of_ble_eq_true rfl) (lk_gv H (fun h6 H => ?_))
    refine lk_wp_seg (lo' := [.ref a0, .int x1]) (st' := [.ref a0]) lk_M46 lk_s46_23_1 rfl ?_
    refine lk_wp_fR lk_i46_24 lk_M46 H (fun r7 H => ?_)
    refine lk_wp_seg (lo' := [.ref a0, .int x1]) (st' := [.ref a0, .int x1, .ref r7]) lk_M46 lk_s46_27_2 rfl ?_
    refine lk_wp_fI lk_i46_29 lk_M46 H (fun r8 H => ?_)
    refine lk_wp_as lk_i46_32 lk_M46 H (fun h9 H => ?_)
    refine lk_wp_seg (lo' := [.ref a0, .int x1]) (st' := [.ref a0]) lk_M46 lk_s46_33_1 rfl ?_
    refine lk_wp_fR lk_i46_34 lk_M46 H (fun r10 H => ?_)
    refine lk_wp_seg (lo' := [.ref a0, .int x1]) (st' := [.int x1, .ref r10]) lk_M46 lk_s46_37_1 rfl ?_
    refine lk_wp_ai lk_i46_38 lk_M46 H (fun r11 H => ?_)
    exact lk_wp_ret lk_i46_39 lk_M46 rfl H
/-! LonelyDots$RulerSearch.search(LLonelyDots$RulerSearch;II)V -/
theorem lk_M47 : lk_mt[47]? = some (yX7_search, cX7_search, 5, ((none))) := rfl
theorem lk_s47_0_1 : lk_seg 47 [(.aload_n 0, 1, (0, [], .null))] 0 = some 1 := by decide +kernel
theorem lk_i47_1 : lk_ins 47 1 = some (.getfield 15, 3, (1, [(7, 0)], .null)) := lk_eqE_eq (by decide +kernel)
theorem lk_s47_4_3 : lk_seg 47 [(.iload_n 1, 1, (0, [], .null)), (.iconst 1, 1, (0, [], .int (1))), (.isub, 1, (0, [], .null))] 4 = some 7 := by decide +kernel
theorem lk_i47_7 : lk_ins 47 7 = some (.iaload, 1, (0, [], .null)) := lk_eqE_eq (by decide +kernel)
theorem lk_s47_8_3 : lk_seg 47 [(.istore_n 3, 1, (0, [], .null)), (.iload_n 1, 1, (0, [], .null)), (.iload_n 2, 1, (0, [], .null))] 8 = some 11 := by decide +kernel
theorem lk_i47_11 : lk_ins 47 11 = some (.if_icmp .lt 9, 3, (20, [], .null)) := lk_eqE_eq (by decide +kernel)
theorem lk_s47_20_4 : lk_seg 47 [(.iload_n 3, 1, (0, [], .null)), (.iconst 1, 1, (0, [], .int (1))), (.iadd, 1, (0, [], .null)), (.istore 4, 2, (0, [], .null))] 20 = some 25 := by decide +kernel
theorem lk_s47_14_2 : lk_seg 47 [(.aload_n 0, 1, (0, [], .null)), (.iload_n 3, 1, (0, [], .null))] 14 = some 16 := by decide +kernel
theorem lk_i47_16 : lk_ins 47 16 = some (.putfield 28, 3, (3, [(7, 0)], .null)) := lk_eqE_eq (by decide +kernel)
theorem lk_i47_19 : lk_ins 47 19 = some (.return_, 1, (0, [], .null)) := lk_eqE_eq (by decide +kernel)
theorem lk_s47_25_2 : lk_seg 47 [(.iload 4, 2, (0, [], .null)), (.aload_n 0, 1, (0, [], .null))] 25 = some 28 := by decide +kernel
theorem lk_i47_28 : lk_ins 47 28 = some (.getfield 28, 3, (3, [(7, 0)], .null)) := lk_eqE_eq (by decide +kernel)
theorem lk_i47_31 : lk_ins 47 31 = some (.if_icmp .ge 51, 3, (82, [], .null)) := lk_eqE_eq (by decide +kernel)
theorem lk_i47_82 : lk_ins 47 82 = some (.return_, 1, (0, [], .null)) := lk_eqE_eq (by decide +kernel)
theorem lk_s47_34_3 : lk_seg 47 [(.aload_n 0, 1, (0, [], .null)), (.iload 4, 2, (0, [], .null)), (.iload_n 1, 1, (0, [], .null))] 34 = some 38 := by decide +kernel
theorem lk_i47_38 : lk_ins 47 38 = some (.invokevirtual 36, 3, (1, [(7, 48)], .ref 29)) := lk_eqE_eq (by decide +kernel)
theorem lk_i47_41 : lk_ins 47 41 = some (.ifCond .eq 35, 3, (76, [], .null)) := lk_eqE_eq (by decide +kernel)
theorem lk_s47_76_2 : lk_seg 47 [(.iinc 4 1, 3, (0, [], .int (1))), (.goto (-54), 3, (25, [], .null))] 76 = some 25 := by decide +kernel
theorem lk_s47_44_1 : lk_seg 47 [(.aload_n 0, 1, (0, [], .null))] 44 = some 45 := by decide +kernel
theorem lk_i47_45 : lk_ins 47 45 = some (.getfield 15, 3, (1, [(7, 0)], .null)) := lk_eqE_eq (by decide +kernel)
theorem lk_s47_48_2 : lk_seg 47 [(.iload_n 1, 1, (0, [], .null)), (.iload 4, 2, (0, [], .null))] 48 = some 51 := by decide +kernel
theorem lk_i47_51 : lk_ins 47 51 = some (.iastore, 1, (0, [], .null)) := lk_eqE_eq (by decide +kernel)
theorem lk_s47_52_4 : lk_seg 47 [(.aload_n 0, 1, (0, [], .null)), (.iload 4, 2, (0, [], .null)), (.iload_n 1, 1, (0, [], .null)), (.iconst 1, 1, (0, [], .int (1)))] 52 = some 57 := by decide +kernel
theorem lk_i47_57 : lk_ins 47 57 = some (.invokevirtual 40, 3, (1, [(7, 49)], .ref 30)) := lk_eqE_eq (by decide +kernel)
theorem lk_s47_60_5 : lk_seg 47 [(.aload_n 0, 1, (0, [], .null)), (.iload_n 1, 1, (0, [], .null)), (.iconst 1, 1, (0, [], .int (1))), (.iadd, 1, (0, [], .null)), (.iload_n 2, 1, (0, [], .null))] 60 = some 65 := by decide +kernel
theorem lk_i47_65 : lk_ins 47 65 = some (.invokestatic 32, 3, (0, [(0, 47)], .ref 28)) := lk_eqE_eq (by decide +kernel)
theorem lk_s47_68_4 : lk_seg 47 [(.aload_n 0, 1, (0, [], .null)), (.iload 4, 2, (0, [], .null)), (.iload_n 1, 1, (0, [], .null)), (.iconst 0, 1, (0, [], .int (0)))] 68 = some 73 := by decide +kernel
theorem lk_i47_73 : lk_ins 47 73 = some (.invokevirtual 40, 3, (1, [(7, 49)], .ref 30)) := lk_eqE_eq (by decide +kernel)
set_option maxRecDepth 20000 in
theorem E_rs_search {X : lk_X} {d : Nat} {x1 x2 : Int32} {a0 : Nat} {h : lk_H} {Q : Option Value → lk_H → Prop} (H : lk_fR h a0 1 [(7, 0)] (fun r1 => lk_ai h r1 (x1 - 1) (fun r2 => (x1 < x2 → lk_wp X (d + 1) 47 25 [.ref a0, .int x1, .int x2, .retAddr 0, .int (r2 + 1)] [] h Q) ∧ (¬ x1 < x2 → lk_pf h a0 3 [(7, 0)] (.int r2) (fun h3 => Q none h3))))) : lk_wx X (d + 1) 47 [.ref a0, .int x1, .int x2] h Q := by
  refine lk_enter (lo := [.ref a0, .int x1, .int x2, .retAddr 0, .retAddr 0]) lk_M47 rfl (Nat.le_of_ble_eq_true rfl) ?_
  refine lk_wp_seg (lo' := [.ref a0, .int x1, .int x2, .retAddr 0, .retAddr 0]) (st' := [.ref a0]) lk_M47 lk_s47_0_1 rfl ?_
  refine lk_wp_fR lk_i47_1 lk_M47 H (fun r1 H => ?_)
  refine lk_wp_seg (lo' := [.ref a0, .int x1, .int x2, .retAddr 0, .retAddr 0]) (st' := [.int (x1 - 1), .ref r1]) lk_M47 lk_s47_4_3 rfl ?_
  refine lk_wp_ai lk_i47_7 lk_M47 H (fun r2 H => ?_)
  refine lk_wp_seg (lo' := [.ref a0, .int x1, .int x2, .int r2, .retAddr 0]) (st' := [.int x2, .int x1]) lk_M47 lk_s47_8_3 rfl ?_
  refine lk_wp_ic_lt lk_i47_11 lk_M47 H (fun H => ?_) (fun H => ?_)
  · refine lk_wp_seg (lo' := [.ref a0, .int x1, .int x2, .int r2, .int (r2 + 1)]) (st' := []) lk_M47 lk_s47_20_4 rfl ?_
    exact H.forget (lk_le_s (lk_le_s (lk_le_s (lk_le_d (lk_le_s lk_le_n)))))
  · refine lk_wp_seg (lo' := [.ref a0, .int x1, .int x2, .int r2, .retAddr 0]) (st' := [.int r2, .ref a0]) lk_M47 lk_s47_14_2 rfl ?_
    refine lk_wp_pf lk_i47_16 lk_M47 H (fun h3 H => ?_)
    exact lk_wp_ret lk_i47_19 lk_M47 rfl H
set_option maxRecDepth 20000 in
theorem F_rs_search_25 {X : lk_X} {d : Nat} {x1 x2 x4 : Int32} {a0 : Nat} {h : lk_H} {Q : Option Value → lk_H → Prop} (H : lk_fI h a0 3 [(7, 0)] (fun r1 => (r1 ≤ x4 → Q none h) ∧ (¬ r1 ≤ x4 → lk_vc h a0 [(7, 48)] (fun k11 => lk_wxi X d k11 [.ref a0, .int x4, .int x1] h (fun r3 h2 => (r3 = 0 → lk_wp X (d + 1) 47 25 [.ref a0, .int x1, .int x2, .retAddr 0, .int (x4 + 1)] [] h2 Q) ∧ (¬ r3 = 0 → lk_fR h2 a0 1 [(7, 0)] (fun r4 => lk_as h2 r4 x1 x4 (fun h5 => lk_vc h5 a0 [(7, 49)] (fun k10 => lk_wxv X d k10 [.ref a0, .int x4, .int x1, .int 1] h5 (fun h6 => lk_wxv X d 47 [.ref a0, .int (x1 + 1), .int x2] h6 (fun h7 => lk_vc h7 a0 [(7, 49)] (fun k9 => lk_wxv X d k9 [.ref a0, .int x4, .int x1, .int 0] h7 (fun h8 => lk_wp X (d + 1) 47 25 [.ref a0, .int x1, .int x2, .retAddr 0, .int (x4 + 1)] [] h8 Q))))))))))))) : lk_wp X (d + 1) 47 25 [.ref a0, .int x1, .int x2, .retAddr 0, .int x4] [] h Q := by
  refine lk_wp_seg (lo' := [.ref a0, .int x1, .int x2, .retAddr 0, .int x4]) (st' := [.ref a0, .int x4]) lk_M47 lk_s47_25_2 rfl ?_
  refine lk_wp_fI lk_i47_28 lk_M47 H (fun r1 H => ?_)
  refine lk_wp_ic_ge lk_i47_31 lk_M47 H (fun H => ?_) (fun H => ?_)
  · exact lk_wp_ret lk_i47_82 lk_M47 rfl H
  · refine lk_wp_seg (lo' := [.ref a0, .int x1, .int x2, .retAddr 0, .int x4]) (st' := [.int x1, .int x4, .ref a0]) lk_M47 lk_s47_34_3 rfl ?_
    refine lk_wp_cv (as := [.int x4, .int x1]) (r := []) (a := a0) lk_i47_38 lk_M47 rfl rfl rfl (Nat.le_of_ble_eq_true rfl) H (fun k11 H => lk_gi H (fun r3 h2 H => ?_))
    refine lk_wp_if_eq lk_i47_41 lk_M47 H (fun H => ?_) (fun H => ?_)
    · refine lk_wp_seg (lo' := [.ref a0, .int x1, .int x2, .retAddr 0, .int (x4 + 1)]) (st' := []) lk_M47 lk_s47_76_2 rfl ?_
      exact H
    · refine lk_wp_seg (lo' := [.ref a0, .int x1, .int x2, .retAddr 0, .int x4]) (st' := [.ref a0]) lk_M47 lk_s47_44_1 rfl ?_
      refine lk_wp_fR lk_i47_45 lk_M47 H (fun r4 H => ?_)
      refine lk_wp_seg (lo' := [.ref a0, .int x1, .int x2, .retAddr 0, .int x4]) (st' := [.int x4, .int x1, .ref r4]) lk_M47 lk_s47_48_2 rfl ?_
      refine lk_wp_as lk_i47_51 lk_M47 H (fun h5 H => ?_)
      refine lk_wp_seg (lo' := [.ref a0, .int x1, .int x2, .retAddr 0, .int x4]) (st' := [.int 1, .int x1, .int x4, .ref a0]) lk_M47 lk_s47_52_4 rfl ?_
      refine lk_wp_cv (as := [.int x4, .int x1, .int 1]) (r := []) (a := a0) lk_i47_57 lk_M47 rfl rfl rfl (Nat.le_of_ble_eq_true rfl) H (fun k10 H => lk_gv H (fun h6 H => ?_))
      refine lk_wp_seg (lo' := [.ref a0, .int x1, .int x2, .retAddr 0, .int x4]) (st' := [.int x2, .int (x1 + 1), .ref a0]) lk_M47 lk_s47_60_5 rfl ?_
      refine lk_wp_cs (as := [.ref a0, .int (x1 + 1), .int x2]) (r := []) lk_i47_65 lk_M47 rfl rfl rfl rfl (Nat.le_of_ble_eq_true rfl) (lk_gv H (fun h7 H => ?_))
      refine lk_wp_seg (lo' := [.ref a0, .int x1, .int x2, .retAddr 0, .int x4]) (st' := [.int 0, .int x1, .int x4, .ref a0]) lk_M47 lk_s47_68_4 rfl ?_
      refine lk_wp_cv (as := [.int x4, .int x1, .int 0]) (r := []) (a := a0) lk_i47_73 lk_M47 rfl rfl rfl (Nat.le_of_ble_eq_true rfl) H (fun k9 H => lk_gv H (fun h8 H => ?_))
      refine lk_wp_seg (lo' := [.ref a0, .int x1, .int x2, .retAddr 0, .int (x4 + 1)]) (st' := []) lk_M47 lk_s47_76_2 rfl ?_
      exact H
/-! LonelyDots$RulerSearch.hasNewDistances(II)Z -/
theorem lk_M48 : lk_mt[48]? = some (yX7_hasNewDistances, cX7_hasNewDistances, 4, ((some FieldType.boolean))) := rfl
theorem lk_s48_0_2 : lk_seg 48 [(.iconst 0, 1, (0, [], .int (0))), (.istore_n 3, 1, (0, [], .null))] 0 = some 2 := by decide +kernel
theorem lk_s48_2_2 : lk_seg 48 [(.iload_n 3, 1, (0, [], .null)), (.iload_n 2, 1, (0, [], .null))] 2 = some 4 := by decide +kernel
theorem lk_i48_4 : lk_ins 48 4 = some (.if_icmp .ge 27, 3, (31, [], .null)) := lk_eqE_eq (by decide +kernel)
theorem lk_s48_31_1 : lk_seg 48 [(.iconst 1, 1, (0, [], .int (1)))] 31 = some 32 := by decide +kernel
theorem lk_i48_32 : lk_ins 48 32 = some (.ireturn, 1, (0, [], .null)) := lk_eqE_eq (by decide +kernel)
theorem lk_s48_7_1 : lk_seg 48 [(.aload_n 0, 1, (0, [], .null))] 7 = some 8 := by decide +kernel
theorem lk_i48_8 : lk_ins 48 8 = some (.getfield 18, 3, (2, [(7, 0)], .null)) := lk_eqE_eq (by decide +kernel)
theorem lk_s48_11_2 : lk_seg 48 [(.iload_n 1, 1, (0, [], .null)), (.aload_n 0, 1, (0, [], .null))] 11 = some 13 := by decide +kernel
theorem lk_i48_13 : lk_ins 48 13 = some (.getfield 15, 3, (1, [(7, 0)], .null)) := lk_eqE_eq (by decide +kernel)
theorem lk_s48_16_1 : lk_seg 48 [(.iload_n 3, 1, (0, [], .null))] 16 = some 17 := by decide +kernel
theorem lk_i48_17 : lk_ins 48 17 = some (.iaload, 1, (0, [], .null)) := lk_eqE_eq (by decide +kernel)
theorem lk_s48_18_1 : lk_seg 48 [(.isub, 1, (0, [], .null))] 18 = some 19 := by decide +kernel
theorem lk_i48_19 : lk_ins 48 19 = some (.baload, 1, (0, [], .null)) := lk_eqE_eq (by decide +kernel)
theorem lk_i48_20 : lk_ins 48 20 = some (.ifCond .eq 5, 3, (25, [], .null)) := lk_eqE_eq (by decide +kernel)
theorem lk_s48_25_2 : lk_seg 48 [(.iinc 3 1, 3, (0, [], .int (1))), (.goto (-26), 3, (2, [], .null))] 25 = some 2 := by decide +kernel
theorem lk_s48_23_1 : lk_seg 48 [(.iconst 0, 1, (0, [], .int (0)))] 23 = some 24 := by decide +kernel
theorem lk_i48_24 : lk_ins 48 24 = some (.ireturn, 1, (0, [], .null)) := lk_eqE_eq (by decide +kernel)
set_option maxRecDepth 20000 in
theorem E_rs_hasNewDistances {X : lk_X} {d : Nat} {x1 x2 : Int32} {a0 : Nat} {h : lk_H} {Q : Option Value → lk_H → Prop} (H : lk_wp X (d + 1) 48 2 [.ref a0, .int x1, .int x2, .int 0] [] h Q) : lk_wx X (d + 1) 48 [.ref a0, .int x1, .int x2] h Q := by
  refine lk_enter (lo := [.ref a0, .int x1, .int x2, .retAddr 0]) lk_M48 rfl (Nat.le_of_ble_eq_true rfl) ?_
  refine lk_wp_seg (lo' := [.ref a0, .int x1, .int x2, .int 0]) (st' := []) lk_M48 lk_s48_0_2 rfl ?_
  exact H
set_option maxRecDepth 20000 in
theorem F_rs_hasNewDistances_2 {X : lk_X} {d : Nat} {x1 x2 x3 : Int32} {a0 : Nat} {h : lk_H} {Q : Option Value → lk_H → Prop} (H : (x2 ≤ x3 → Q (some (.int 1)) h) ∧ (¬ x2 ≤ x3 → lk_fR h a0 2 [(7, 0)] (fun r1 => lk_fR h a0 1 [(7, 0)] (fun r2 => lk_ai h r2 x3 (fun r3 => lk_zi h r1 (x1 - r3) (fun r4 => (r4 = 0 → lk_wp X (d + 1) 48 2 [.ref a0, .int x1, .int x2, .int (x3 + 1)] [] h Q) ∧ (¬ r4 = 0 → Q (some (.int 0)) h))))))) : lk_wp X (d + 1) 48 2 [.ref a0, .int x1, .int x2, .int x3] [] h Q := by
  refine lk_wp_seg (lo' := [.ref a0, .int x1, .int x2, .int x3]) (st' := [.int x2, .int x3]) lk_M48 lk_s48_2_2 rfl ?_
  refine lk_wp_ic_ge lk_i48_4 lk_M48 H (fun H => ?_) (fun H => ?_)
  · refine lk_wp_seg (lo' := [.ref a0, .int x1, .int x2, .int x3]) (st' := [.int 1]) lk_M48 lk_s48_31_1 rfl ?_
    exact lk_wp_ret lk_i48_32 lk_M48 rfl H
  · refine lk_wp_seg (lo' := [.ref a0, .int x1, .int x2, .int x3]) (st' := [.ref a0]) lk_M48 lk_s48_7_1 rfl ?_
    refine lk_wp_fR lk_i48_8 lk_M48 H (fun r1 H => ?_)
    refine lk_wp_seg (lo' := [.ref a0, .int x1, .int x2, .int x3]) (st' := [.ref a0, .int x1, .ref r1]) lk_M48 lk_s48_11_2 rfl ?_
    refine lk_wp_fR lk_i48_13 lk_M48 H (fun r2 H => ?_)
    refine lk_wp_seg (lo' := [.ref a0, .int x1, .int x2, .int x3]) (st' := [.int x3, .ref r2, .int x1, .ref r1]) lk_M48 lk_s48_16_1 rfl ?_
    refine lk_wp_ai lk_i48_17 lk_M48 H (fun r3 H => ?_)
    refine lk_wp_seg (lo' := [.ref a0, .int x1, .int x2, .int x3]) (st' := [.int (x1 - r3), .ref r1]) lk_M48 lk_s48_18_1 rfl ?_
    refine lk_wp_zi lk_i48_19 lk_M48 H (fun r4 H => ?_)
    refine lk_wp_if_eq lk_i48_20 lk_M48 H (fun H => ?_) (fun H => ?_)
    · refine lk_wp_seg (lo' := [.ref a0, .int x1, .int x2, .int (x3 + 1)]) (st' := []) lk_M48 lk_s48_25_2 rfl ?_
      exact H
    · refine lk_wp_seg (lo' := [.ref a0, .int x1, .int x2, .int x3]) (st' := [.int 0]) lk_M48 lk_s48_23_1 rfl ?_
      exact lk_wp_ret lk_i48_24 lk_M48 rfl H
/-! LonelyDots$RulerSearch.mindDistances(IIZ)V -/
theorem lk_M49 : lk_mt[49]? = some (yX7_mindDistances, cX7_mindDistances, 5, ((none))) := rfl
theorem lk_s49_0_2 : lk_seg 49 [(.iconst 0, 1, (0, [], .int (0))), (.istore 4, 2, (0, [], .null))] 0 = some 3 := by decide +kernel
theorem lk_s49_3_2 : lk_seg 49 [(.iload 4, 2, (0, [], .null)), (.iload_n 2, 1, (0, [], .null))] 3 = some 6 := by decide +kernel
theorem lk_i49_6 : lk_ins 49 6 = some (.if_icmp .ge 24, 3, (30, [], .null)) := lk_eqE_eq (by decide +kernel)
theorem lk_i49_30 : lk_ins 49 30 = some (.return_, 1, (0, [], .null)) := lk_eqE_eq (by decide +kernel)
theorem lk_s49_9_1 : lk_seg 49 [(.aload_n 0, 1, (0, [], .null))] 9 = some 10 := by decide +kernel
theorem lk_i49_10 : lk_ins 49 10 = some (.getfield 18, 3, (2, [(7, 0)], .null)) := lk_eqE_eq (by decide +kernel)
theorem lk_s49_13_2 : lk_seg 49 [(.iload_n 1, 1, (0, [], .null)), (.aload_n 0, 1, (0, [], .null))] 13 = some 15 := by decide +kernel
theorem lk_i49_15 : lk_ins 49 15 = some (.getfield 15, 3, (1, [(7, 0)], .null)) := lk_eqE_eq (by decide +kernel)
theorem lk_s49_18_1 : lk_seg 49 [(.iload 4, 2, (0, [], .null))] 18 = some 20 := by decide +kernel
theorem lk_i49_20 : lk_ins 49 20 = some (.iaload, 1, (0, [], .null)) := lk_eqE_eq (by decide +kernel)
theorem lk_s49_21_2 : lk_seg 49 [(.isub, 1, (0, [], .null)), (.iload_n 3, 1, (0, [], .null))] 21 = some 23 := by decide +kernel
theorem lk_i49_23 : lk_ins 49 23 = some (.bastore, 1, (0, [], .null)) := lk_eqE_eq (by decide +kernel)
theorem lk_s49_24_2 : lk_seg 49 [(.iinc 4 1, 3, (0, [], .int (1))), (.goto (-24), 3, (3, [], .null))] 24 = some 3 := by decide +kernel
set_option maxRecDepth 20000 in
theorem E_rs_mindDistances {X : lk_X} {d : Nat} {x1 x2 x3 : Int32} {a0 : Nat} {h : lk_H} {Q : Option Value → lk_H → Prop} (H : lk_wp X (d + 1) 49 3 [.ref a0, .int x1, .int x2, .int x3, .int 0] [] h Q) : lk_wx X (d + 1) 49 [.ref a0, .int x1, .int x2, .int x3] h Q := by
  refine lk_enter (lo := [.ref a0, .int x1, .int x2, .int x3, .retAddr 0]) lk_M49 rfl (Nat.le_of_ble_eq_true rfl) ?_
  refine lk_wp_seg (lo' := [.ref a0, .int x1, .int x2, .int x3, .int 0]) (st' := []) lk_M49 lk_s49_0_2 rfl ?_
  exact H
set_option maxRecDepth 20000 in
theorem F_rs_mindDistances_3 {X : lk_X} {d : Nat} {x1 x2 x3 x4 : Int32} {a0 : Nat} {h : lk_H} {Q : Option Value → lk_H → Prop} (H : (x2 ≤ x4 → Q none h) ∧ (¬ x2 ≤ x4 → lk_fR h a0 2 [(7, 0)] (fun r1 => lk_fR h a0 1 [(7, 0)] (fun r2 => lk_ai h r2 x4 (fun r3 => lk_zs h r1 (x1 - r3) x3 (fun h4 => lk_wp X (d + 1) 49 3 [.ref a0, .int x1, .int x2, .int x3, .int (x4 + 1)] [] h4 Q)))))) : lk_wp X (d + 1) 49 3 [.ref a0, .int x1, .int x2, .int x3, .int x4] [] h Q := by
  refine lk_wp_seg (lo' := [.ref a0, .int x1, .int x2, .int x3, .int x4]) (st' := [.int x2, .int x4]) lk_M49 lk_s49_3_2 rfl ?_
  refine lk_wp_ic_ge lk_i49_6 lk_M49 H (fun H => ?_) (fun H => ?_)
  · exact lk_wp_ret lk_i49_30 lk_M49 rfl H
  · refine lk_wp_seg (lo' := [.ref a0, .int x1, .int x2, .int x3, .int x4]) (st' := [.ref a0]) lk_M49 lk_s49_9_1 rfl ?_
    refine lk_wp_fR lk_i49_10 lk_M49 H (fun r1 H => ?_)
    refine lk_wp_seg (lo' := [.ref a0, .int x1, .int x2, .int x3, .int x4]) (st' := [.ref a0, .int x1, .ref r1]) lk_M49 lk_s49_13_2 rfl ?_
    refine lk_wp_fR lk_i49_15 lk_M49 H (fun r2 H => ?_)
    refine lk_wp_seg (lo' := [.ref a0, .int x1, .int x2, .int x3, .int x4]) (st' := [.int x4, .ref r2, .int x1, .ref r1]) lk_M49 lk_s49_18_1 rfl ?_
    refine lk_wp_ai lk_i49_20 lk_M49 H (fun r3 H => ?_)
    refine lk_wp_seg (lo' := [.ref a0, .int x1, .int x2, .int x3, .int x4]) (st' := [.int x3, .int (x1 - r3), .ref r1]) lk_M49 lk_s49_21_2 rfl ?_
    refine lk_wp_zs lk_i49_23 lk_M49 H (fun h4 H => ?_)
    refine lk_wp_seg (lo' := [.ref a0, .int x1, .int x2, .int x3, .int (x4 + 1)]) (st' := []) lk_M49 lk_s49_24_2 rfl ?_
    exact H
/-! LonelyDots$Sheet.<init>()V -/
theorem lk_M50 : lk_mt[50]? = some (yX8_init, cX8_init, 1, ((none))) := rfl
theorem lk_s50_0_1 : lk_seg 50 [(.aload_n 0, 1, (0, [], .null))] 0 = some 1 := by decide +kernel
theorem lk_i50_1 : lk_ins 50 1 = some (.invokespecial 3, 3, (100, [], .null)) := lk_eqE_eq (by decide +kernel)
theorem lk_s50_4_2 : lk_seg 50 [(.aload_n 0, 1, (0, [], .null)), (.bipush 60, 2, (0, [], .int (60)))] 4 = some 7 := by decide +kernel
theorem lk_i50_7 : lk_ins 50 7 = some (.newarray .int, 2, (0, [], .null)) := lk_eqE_eq (by decide +kernel)
theorem lk_i50_9 : lk_ins 50 9 = some (.putfield 9, 3, (0, [(8, 0)], .null)) := lk_eqE_eq (by decide +kernel)
theorem lk_s50_12_2 : lk_seg 50 [(.aload_n 0, 1, (0, [], .null)), (.iconst 1, 1, (0, [], .int (1)))] 12 = some 14 := by decide +kernel
theorem lk_i50_14 : lk_ins 50 14 = some (.putfield 15, 3, (1, [(8, 0)], .null)) := lk_eqE_eq (by decide +kernel)
theorem lk_i50_17 : lk_ins 50 17 = some (.return_, 1, (0, [], .null)) := lk_eqE_eq (by decide +kernel)
set_option maxRecDepth 20000 in
theorem E_s_init {X : lk_X} {d : Nat} {a0 : Nat} {h : lk_H} {Q : Option Value → lk_H → Prop} (H : lk_nw (60 : Int32) (lk_pf ((h ++ [.inl (0, ((60 : Int32).toNatClampNeg, .inl (fun _ => 0)))])) a0 0 [(8, 0)] (.ref (h.length)) (fun h1 => lk_pf h1 a0 1 [(8, 0)] (.int 1) (fun h2 => Q none h2)))) : lk_wx X (d + 1) 50 [.ref a0] h Q := by
  refine lk_enter (lo := [.ref a0]) lk_M50 rfl (Nat.le_of_ble_eq_true rfl) ?_
  refine lk_wp_seg (lo' := [.ref a0]) (st' := [.ref a0]) lk_M50 lk_s50_0_1 rfl ?_
  refine lk_wp_one lk_i50_1 lk_M50 rfl rfl rfl ?_
  refine lk_wp_seg (lo' := [.ref a0]) (st' := [.int 60, .ref a0]) lk_M50 lk_s50_4_2 rfl ?_
  refine lk_wp_new_int lk_i50_7 lk_M50 H (fun H => ?_)
  refine lk_wp_pf lk_i50_9 lk_M50 H (fun h1 H => ?_)
  refine lk_wp_seg (lo' := [.ref a0]) (st' := [.int 1, .ref a0]) lk_M50 lk_s50_12_2 rfl ?_
  refine lk_wp_pf lk_i50_14 lk_M50 H (fun h2 H => ?_)
  exact lk_wp_ret lk_i50_17 lk_M50 rfl H
/-! LonelyDots$Sheet.lay(II)V -/
theorem lk_M51 : lk_mt[51]? = some (yX8_lay, cX8_lay, 3, ((none))) := rfl
theorem lk_s51_0_2 : lk_seg 51 [(.aload_n 0, 1, (0, [], .null)), (.iconst 0, 1, (0, [], .int (0)))] 0 = some 2 := by decide +kernel
theorem lk_i51_2 : lk_ins 51 2 = some (.putfield 15, 3, (1, [(8, 0)], .null)) := lk_eqE_eq (by decide +kernel)
theorem lk_s51_5_2 : lk_seg 51 [(.aload_n 0, 1, (0, [], .null)), (.iload_n 1, 1, (0, [], .null))] 5 = some 7 := by decide +kernel
theorem lk_i51_7 : lk_ins 51 7 = some (.putfield 19, 3, (2, [(8, 0)], .null)) := lk_eqE_eq (by decide +kernel)
theorem lk_s51_10_2 : lk_seg 51 [(.aload_n 0, 1, (0, [], .null)), (.iload_n 2, 1, (0, [], .null))] 10 = some 12 := by decide +kernel
theorem lk_i51_12 : lk_ins 51 12 = some (.putfield 23, 3, (3, [(8, 0)], .null)) := lk_eqE_eq (by decide +kernel)
theorem lk_s51_15_1 : lk_seg 51 [(.aload_n 0, 1, (0, [], .null))] 15 = some 16 := by decide +kernel
theorem lk_i51_16 : lk_ins 51 16 = some (.getfield 9, 3, (0, [(8, 0)], .null)) := lk_eqE_eq (by decide +kernel)
theorem lk_s51_19_1 : lk_seg 51 [(.iconst 0, 1, (0, [], .int (0)))] 19 = some 20 := by decide +kernel
theorem lk_i51_20 : lk_ins 51 20 = some (.invokestatic 26, 3, (0, [(0, 170)], .ref 18)) := lk_eqE_eq (by decide +kernel)
theorem lk_i51_23 : lk_ins 51 23 = some (.return_, 1, (0, [], .null)) := lk_eqE_eq (by decide +kernel)
set_option maxRecDepth 20000 in
theorem E_s_lay {X : lk_X} {d : Nat} {x1 x2 : Int32} {a0 : Nat} {h : lk_H} {Q : Option Value → lk_H → Prop} (H : lk_pf h a0 1 [(8, 0)] (.int 0) (fun h1 => lk_pf h1 a0 2 [(8, 0)] (.int x1) (fun h2 => lk_pf h2 a0 3 [(8, 0)] (.int x2) (fun h3 => lk_fR h3 a0 0 [(8, 0)] (fun r4 => lk_wxv X d 170 [.ref r4, .int 0] h3 (fun h5 => Q none h5)))))) : lk_wx X (d + 1) 51 [.ref a0, .int x1, .int x2] h Q := by
  refine lk_enter (lo := [.ref a0, .int x1, .int x2]) lk_M51 rfl (Nat.le_of_ble_eq_true rfl) ?_
  refine lk_wp_seg (lo' := [.ref a0, .int x1, .int x2]) (st' := [.int 0, .ref a0]) lk_M51 lk_s51_0_2 rfl ?_
  refine lk_wp_pf lk_i51_2 lk_M51 H (fun h1 H => ?_)
  refine lk_wp_seg (lo' := [.ref a0, .int x1, .int x2]) (st' := [.int x1, .ref a0]) lk_M51 lk_s51_5_2 rfl ?_
  refine lk_wp_pf lk_i51_7 lk_M51 H (fun h2 H => ?_)
  refine lk_wp_seg (lo' := [.ref a0, .int x1, .int x2]) (st' := [.int x2, .ref a0]) lk_M51 lk_s51_10_2 rfl ?_
  refine lk_wp_pf lk_i51_12 lk_M51 H (fun h3 H => ?_)
  refine lk_wp_seg (lo' := [.ref a0, .int x1, .int x2]) (st' := [.ref a0]) lk_M51 lk_s51_15_1 rfl ?_
  refine lk_wp_fR lk_i51_16 lk_M51 H (fun r4 H => ?_)
  refine lk_wp_seg (lo' := [.ref a0, .int x1, .int x2]) (st' := [.int 0, .ref r4]) lk_M51 lk_s51_19_1 rfl ?_
  refine lk_wp_cs (as := [.ref r4, .int 0]) (r := []) lk_i51_20 lk_M51 rfl rfl rfl rfl (Nat.le_of_ble_eq_true rfl) (lk_gv H (fun h5 H => ?_))
  exact lk_wp_ret lk_i51_23 lk_M51 rfl H
/-! LonelyDots$Sheet.holds(II)Z -/
theorem lk_M52 : lk_mt[52]? = some (yX8_holds, cX8_holds, 3, ((some FieldType.boolean))) := rfl
theorem lk_s52_0_1 : lk_seg 52 [(.iload_n 1, 1, (0, [], .null))] 0 = some 1 := by decide +kernel
theorem lk_i52_1 : lk_ins 52 1 = some (.ifCond .lt 29, 3, (30, [], .null)) := lk_eqE_eq (by decide +kernel)
theorem lk_s52_30_1 : lk_seg 52 [(.iconst 0, 1, (0, [], .int (0)))] 30 = some 31 := by decide +kernel
theorem lk_i52_31 : lk_ins 52 31 = some (.ireturn, 1, (0, [], .null)) := lk_eqE_eq (by decide +kernel)
theorem lk_s52_4_1 : lk_seg 52 [(.iload_n 2, 1, (0, [], .null))] 4 = some 5 := by decide +kernel
theorem lk_i52_5 : lk_ins 52 5 = some (.ifCond .lt 25, 3, (30, [], .null)) := lk_eqE_eq (by decide +kernel)
theorem lk_s52_8_2 : lk_seg 52 [(.iload_n 2, 1, (0, [], .null)), (.aload_n 0, 1, (0, [], .null))] 8 = some 10 := by decide +kernel
theorem lk_i52_10 : lk_ins 52 10 = some (.getfield 23, 3, (3, [(8, 0)], .null)) := lk_eqE_eq (by decide +kernel)
theorem lk_i52_13 : lk_ins 52 13 = some (.if_icmp .gt 17, 3, (30, [], .null)) := lk_eqE_eq (by decide +kernel)
theorem lk_s52_16_2 : lk_seg 52 [(.iload_n 1, 1, (0, [], .null)), (.aload_n 0, 1, (0, [], .null))] 16 = some 18 := by decide +kernel
theorem lk_i52_18 : lk_ins 52 18 = some (.getfield 23, 3, (3, [(8, 0)], .null)) := lk_eqE_eq (by decide +kernel)
theorem lk_s52_21_2 : lk_seg 52 [(.iload_n 2, 1, (0, [], .null)), (.isub, 1, (0, [], .null))] 21 = some 23 := by decide +kernel
theorem lk_i52_23 : lk_ins 52 23 = some (.if_icmp .gt 7, 3, (30, [], .null)) := lk_eqE_eq (by decide +kernel)
theorem lk_s52_26_2 : lk_seg 52 [(.iconst 1, 1, (0, [], .int (1))), (.goto 4, 3, (31, [], .null))] 26 = some 31 := by decide +kernel
set_option maxRecDepth 20000 in
theorem E_s_holds {X : lk_X} {d : Nat} {x1 x2 : Int32} {a0 : Nat} {h : lk_H} {Q : Option Value → lk_H → Prop} (H : (x1 < 0 → Q (some (.int 0)) h) ∧ (¬ x1 < 0 → (x2 < 0 → Q (some (.int 0)) h) ∧ (¬ x2 < 0 → lk_fI h a0 3 [(8, 0)] (fun r1 => (r1 < x2 → Q (some (.int 0)) h) ∧ (¬ r1 < x2 → lk_fI h a0 3 [(8, 0)] (fun r2 => ((r2 - x2) < x1 → Q (some (.int 0)) h) ∧ (¬ (r2 - x2) < x1 → Q (some (.int 1)) h))))))) : lk_wx X (d + 1) 52 [.ref a0, .int x1, .int x2] h Q := by
  refine lk_enter (lo := [.ref a0, .int x1, .int x2]) lk_M52 rfl (Nat.le_of_ble_eq_true rfl) ?_
  refine lk_wp_seg (lo' := [.ref a0, .int x1, .int x2]) (st' := [.int x1]) lk_M52 lk_s52_0_1 rfl ?_
  refine lk_wp_if_lt lk_i52_1 lk_M52 H (fun H => ?_) (fun H => ?_)
  · refine lk_wp_seg (lo' := [.ref a0, .int x1, .int x2]) (st' := [.int 0]) lk_M52 lk_s52_30_1 rfl ?_
    exact lk_wp_ret lk_i52_31 lk_M52 rfl H
  · refine lk_wp_seg (lo' := [.ref a0, .int x1, .int x2]) (st' := [.int x2]) lk_M52 lk_s52_4_1 rfl ?_
    refine lk_wp_if_lt lk_i52_5 lk_M52 H (fun H => ?_) (fun H => ?_)
    · refine lk_wp_seg (lo' := [.ref a0, .int x1, .int x2]) (st' := [.int 0]) lk_M52 lk_s52_30_1 rfl ?_
      exact lk_wp_ret lk_i52_31 lk_M52 rfl H
    · refine lk_wp_seg (lo' := [.ref a0, .int x1, .int x2]) (st' := [.ref a0, .int x2]) lk_M52 lk_s52_8_2 rfl ?_
      refine lk_wp_fI lk_i52_10 lk_M52 H (fun r1 H => ?_)
      refine lk_wp_ic_gt lk_i52_13 lk_M52 H (fun H => ?_) (fun H => ?_)
      · refine lk_wp_seg (lo' := [.ref a0, .int x1, .int x2]) (st' := [.int 0]) lk_M52 lk_s52_30_1 rfl ?_
        exact lk_wp_ret lk_i52_31 lk_M52 rfl H
      · refine lk_wp_seg (lo' := [.ref a0, .int x1, .int x2]) (st' := [.ref a0, .int x1]) lk_M52 lk_s52_16_2 rfl ?_
        refine lk_wp_fI lk_i52_18 lk_M52 H (fun r2 H => ?_)
        refine lk_wp_seg (lo' := [.ref a0, .int x1, .int x2]) (st' := [.int (r2 - x2), .int x1]) lk_M52 lk_s52_21_2 rfl ?_
        refine lk_wp_ic_gt lk_i52_23 lk_M52 H (fun H => ?_) (fun H => ?_)
        · refine lk_wp_seg (lo' := [.ref a0, .int x1, .int x2]) (st' := [.int 0]) lk_M52 lk_s52_30_1 rfl ?_
          exact lk_wp_ret lk_i52_31 lk_M52 rfl H
        · refine lk_wp_seg (lo' := [.ref a0, .int x1, .int x2]) (st' := [.int 1]) lk_M52 lk_s52_26_2 rfl ?_
          exact lk_wp_ret lk_i52_31 lk_M52 rfl H
/-! LonelyDots$Sheet.narrowed(I)I -/
theorem lk_M53 : lk_mt[53]? = some (yX8_narrowed, cX8_narrowed, 2, ((some FieldType.int))) := rfl
theorem lk_s53_0_1 : lk_seg 53 [(.aload_n 0, 1, (0, [], .null))] 0 = some 1 := by decide +kernel
theorem lk_i53_1 : lk_ins 53 1 = some (.getfield 19, 3, (2, [(8, 0)], .null)) := lk_eqE_eq (by decide +kernel)
theorem lk_i53_4 : lk_ins 53 4 = some (.lookupswitch 34 #[(0, 28), (1, 31)], 28, (38, [(0, 32), (1, 35)], .null)) := lk_eqE_eq (by decide +kernel)
theorem lk_s53_32_2 : lk_seg 53 [(.iload_n 1, 1, (0, [], .null)), (.i2b, 1, (0, [], .null))] 32 = some 34 := by decide +kernel
theorem lk_i53_34 : lk_ins 53 34 = some (.ireturn, 1, (0, [], .null)) := lk_eqE_eq (by decide +kernel)
theorem lk_s53_35_2 : lk_seg 53 [(.iload_n 1, 1, (0, [], .null)), (.i2s, 1, (0, [], .null))] 35 = some 37 := by decide +kernel
theorem lk_i53_37 : lk_ins 53 37 = some (.ireturn, 1, (0, [], .null)) := lk_eqE_eq (by decide +kernel)
theorem lk_s53_38_1 : lk_seg 53 [(.iload_n 1, 1, (0, [], .null))] 38 = some 39 := by decide +kernel
theorem lk_i53_39 : lk_ins 53 39 = some (.ireturn, 1, (0, [], .null)) := lk_eqE_eq (by decide +kernel)
set_option maxRecDepth 20000 in
theorem E_s_narrowed {X : lk_X} {d : Nat} {x1 : Int32} {a0 : Nat} {h : lk_H} {Q : Option Value → lk_H → Prop} (H : lk_fI h a0 2 [(8, 0)] (fun r1 => (r1 = Int32.ofNat 0 → Q (some (.int (x1.toInt8.toInt32))) h) ∧ (¬ r1 = Int32.ofNat 0 → (r1 = Int32.ofNat 1 → Q (some (.int (x1.toInt16.toInt32))) h) ∧ (¬ r1 = Int32.ofNat 1 → Q (some (.int x1)) h)))) : lk_wx X (d + 1) 53 [.ref a0, .int x1] h Q := by
  refine lk_enter (lo := [.ref a0, .int x1]) lk_M53 rfl (Nat.le_of_ble_eq_true rfl) ?_
  refine lk_wp_seg (lo' := [.ref a0, .int x1]) (st' := [.ref a0]) lk_M53 lk_s53_0_1 rfl ?_
  refine lk_wp_fI lk_i53_1 lk_M53 H (fun r1 H => ?_)
  refine lk_wp_ls lk_i53_4 lk_M53 ?_
  refine lk_wp_swc H (fun H => ?_) (fun H => ?_)
  · refine lk_wp_seg (lo' := [.ref a0, .int x1]) (st' := [.int (x1.toInt8.toInt32)]) lk_M53 lk_s53_32_2 rfl ?_
    exact lk_wp_ret lk_i53_34 lk_M53 rfl H
  · refine lk_wp_swc H (fun H => ?_) (fun H => ?_)
    · refine lk_wp_seg (lo' := [.ref a0, .int x1]) (st' := [.int (x1.toInt16.toInt32)]) lk_M53 lk_s53_35_2 rfl ?_
      exact lk_wp_ret lk_i53_37 lk_M53 rfl H
    · refine lk_wp_seg (lo' := [.ref a0, .int x1]) (st' := [.int x1]) lk_M53 lk_s53_38_1 rfl ?_
      exact lk_wp_ret lk_i53_39 lk_M53 rfl H
/-! LonelyDots$Sheet.read(II)[I -/
theorem lk_M54 : lk_mt[54]? = some (yX8_read, cX8_read, 3, ((some (FieldType.array FieldType.int)))) := rfl
theorem lk_s54_0_1 : lk_seg 54 [(.aload_n 0, 1, (0, [], .null))] 0 = some 1 := by decide +kernel
theorem lk_i54_1 : lk_ins 54 1 = some (.getfield 9, 3, (0, [(8, 0)], .null)) := lk_eqE_eq (by decide +kernel)
theorem lk_s54_4_4 : lk_seg 54 [(.iload_n 1, 1, (0, [], .null)), (.iload_n 1, 1, (0, [], .null)), (.iload_n 2, 1, (0, [], .null)), (.iadd, 1, (0, [], .null))] 4 = some 8 := by decide +kernel
theorem lk_i54_8 : lk_ins 54 8 = some (.invokestatic 32, 3, (0, [(0, 172)], .ref 31)) := lk_eqE_eq (by decide +kernel)
theorem lk_i54_11 : lk_ins 54 11 = some (.areturn, 1, (0, [], .null)) := lk_eqE_eq (by decide +kernel)
set_option maxRecDepth 20000 in
theorem E_s_read {X : lk_X} {d : Nat} {x1 x2 : Int32} {a0 : Nat} {h : lk_H} {Q : Option Value → lk_H → Prop} (H : lk_fR h a0 0 [(8, 0)] (fun r1 => lk_wxr X d 172 [.ref r1, .int x1, .int (x1 + x2)] h (fun h2 => Q (some (.null)) h2) (fun r3 h2 => Q (some (.ref r3)) h2))) : lk_wx X (d + 1) 54 [.ref a0, .int x1, .int x2] h Q := by
  refine lk_enter (lo := [.ref a0, .int x1, .int x2]) lk_M54 rfl (Nat.le_of_ble_eq_true rfl) ?_
  refine lk_wp_seg (lo' := [.ref a0, .int x1, .int x2]) (st' := [.ref a0]) lk_M54 lk_s54_0_1 rfl ?_
  refine lk_wp_fR lk_i54_1 lk_M54 H (fun r1 H => ?_)
  refine lk_wp_seg (lo' := [.ref a0, .int x1, .int x2]) (st' := [.int (x1 + x2), .int x1, .ref r1]) lk_M54 lk_s54_4_4 rfl ?_
  refine lk_wp_cs (as := [.ref r1, .int x1, .int (x1 + x2)]) (r := []) lk_i54_8 lk_M54 rfl rfl rfl rfl (Nat.le_of_ble_eq_true rfl) (lk_gr H (fun h2 H => ?_) (fun r3 h2 H => ?_))
  · exact lk_wp_ret lk_i54_11 lk_M54 rfl H
  · exact lk_wp_ret lk_i54_11 lk_M54 rfl H
/-! LonelyDots$Thing.<init>([I)V -/
theorem lk_M55 : lk_mt[55]? = some (yX9_init, cX9_init, 2, ((none))) := rfl
theorem lk_s55_0_1 : lk_seg 55 [(.aload_n 0, 1, (0, [], .null))] 0 = some 1 := by decide +kernel
theorem lk_i55_1 : lk_ins 55 1 = some (.invokespecial 3, 3, (100, [], .null)) := lk_eqE_eq (by decide +kernel)
theorem lk_s55_4_2 : lk_seg 55 [(.aload_n 0, 1, (0, [], .null)), (.aload_n 1, 1, (0, [], .null))] 4 = some 6 := by decide +kernel
theorem lk_i55_6 : lk_ins 55 6 = some (.putfield 9, 3, (0, [(0, 0), (2, 0), (4, 0), (5, 0), (6, 0)], .null)) := lk_eqE_eq (by decide +kernel)
theorem lk_i55_9 : lk_ins 55 9 = some (.return_, 1, (0, [], .null)) := lk_eqE_eq (by decide +kernel)
set_option maxRecDepth 20000 in
theorem E_t_init {X : lk_X} {d : Nat} {a0 a1 : Nat} {h : lk_H} {Q : Option Value → lk_H → Prop} (H : lk_pf h a0 0 [(0, 0), (2, 0), (4, 0), (5, 0), (6, 0)] (.ref a1) (fun h1 => Q none h1)) : lk_wx X (d + 1) 55 [.ref a0, .ref a1] h Q := by
  refine lk_enter (lo := [.ref a0, .ref a1]) lk_M55 rfl (Nat.le_of_ble_eq_true rfl) ?_
  refine lk_wp_seg (lo' := [.ref a0, .ref a1]) (st' := [.ref a0]) lk_M55 lk_s55_0_1 rfl ?_
  refine lk_wp_one lk_i55_1 lk_M55 rfl rfl rfl ?_
  refine lk_wp_seg (lo' := [.ref a0, .ref a1]) (st' := [.ref a1, .ref a0]) lk_M55 lk_s55_4_2 rfl ?_
  refine lk_wp_pf lk_i55_6 lk_M55 H (fun h1 H => ?_)
  exact lk_wp_ret lk_i55_9 lk_M55 rfl H
/-! LonelyDots$Thing.askSize(LLonelyDots$Trace;)I -/
theorem lk_M56 : lk_mt[56]? = some (yX9_askSize, cX9_askSize, 2, ((some FieldType.int))) := rfl
theorem lk_s56_0_2 : lk_seg 56 [(.aload_n 1, 1, (0, [], .null)), (.bipush 10, 2, (0, [], .int (10)))] 0 = some 3 := by decide +kernel
theorem lk_i56_3 : lk_ins 56 3 = some (.invokevirtual 15, 3, (1, [(9, 63)], .ref 1)) := lk_eqE_eq (by decide +kernel)
theorem lk_s56_6_1 : lk_seg 56 [(.iconst 1, 1, (0, [], .int (1)))] 6 = some 7 := by decide +kernel
theorem lk_i56_7 : lk_ins 56 7 = some (.ireturn, 1, (0, [], .null)) := lk_eqE_eq (by decide +kernel)
set_option maxRecDepth 20000 in
theorem E_t_askSize {X : lk_X} {d : Nat} {a0 a1 : Nat} {h : lk_H} {Q : Option Value → lk_H → Prop} (H : lk_vc h a1 [(9, 63)] (fun k2 => lk_wxv X d k2 [.ref a1, .int 10] h (fun h1 => Q (some (.int 1)) h1))) : lk_wx X (d + 1) 56 [.ref a0, .ref a1] h Q := by
  refine lk_enter (lo := [.ref a0, .ref a1]) lk_M56 rfl (Nat.le_of_ble_eq_true rfl) ?_
  refine lk_wp_seg (lo' := [.ref a0, .ref a1]) (st' := [.int 10, .ref a1]) lk_M56 lk_s56_0_2 rfl ?_
  refine lk_wp_cv (as := [.int 10]) (r := []) (a := a1) lk_i56_3 lk_M56 rfl rfl rfl (Nat.le_of_ble_eq_true rfl) H (fun k2 H => lk_gv H (fun h1 H => ?_))
  refine lk_wp_seg (lo' := [.ref a0, .ref a1]) (st' := [.int 1]) lk_M56 lk_s56_6_1 rfl ?_
  exact lk_wp_ret lk_i56_7 lk_M56 rfl H
/-! LonelyDots$Thing.askMark(LLonelyDots$Trace;)I -/
theorem lk_M57 : lk_mt[57]? = some (yX9_askMark, cX9_askMark, 2, ((some FieldType.int))) := rfl
theorem lk_s57_0_2 : lk_seg 57 [(.aload_n 1, 1, (0, [], .null)), (.bipush 20, 2, (0, [], .int (20)))] 0 = some 3 := by decide +kernel
theorem lk_i57_3 : lk_ins 57 3 = some (.invokevirtual 15, 3, (1, [(9, 63)], .ref 1)) := lk_eqE_eq (by decide +kernel)
theorem lk_s57_6_2 : lk_seg 57 [(.aload_n 0, 1, (0, [], .null)), (.aload_n 1, 1, (0, [], .null))] 6 = some 8 := by decide +kernel
theorem lk_i57_8 : lk_ins 57 8 = some (.invokevirtual 21, 3, (2, [(0, 33), (2, 17), (4, 33), (5, 41), (6, 44)], .ref 32)) := lk_eqE_eq (by decide +kernel)
theorem lk_s57_11_2 : lk_seg 57 [(.iconst 4, 1, (0, [], .int (4))), (.iadd, 1, (0, [], .null))] 11 = some 13 := by decide +kernel
theorem lk_i57_13 : lk_ins 57 13 = some (.ireturn, 1, (0, [], .null)) := lk_eqE_eq (by decide +kernel)
set_option maxRecDepth 20000 in
theorem E_t_askMark {X : lk_X} {d : Nat} {a0 a1 : Nat} {h : lk_H} {Q : Option Value → lk_H → Prop} (H : lk_vc h a1 [(9, 63)] (fun k5 => lk_wxv X d k5 [.ref a1, .int 20] h (fun h1 => lk_vc h1 a0 [(0, 33), (2, 17), (4, 33), (5, 41), (6, 44)] (fun k4 => lk_wxi X d k4 [.ref a0, .ref a1] h1 (fun r3 h2 => Q (some (.int (r3 + 4))) h2))))) : lk_wx X (d + 1) 57 [.ref a0, .ref a1] h Q := by
  refine lk_enter (lo := [.ref a0, .ref a1]) lk_M57 rfl (Nat.le_of_ble_eq_true rfl) ?_
  refine lk_wp_seg (lo' := [.ref a0, .ref a1]) (st' := [.int 20, .ref a1]) lk_M57 lk_s57_0_2 rfl ?_
  refine lk_wp_cv (as := [.int 20]) (r := []) (a := a1) lk_i57_3 lk_M57 rfl rfl rfl (Nat.le_of_ble_eq_true rfl) H (fun k5 H => lk_gv H (fun h1 H => ?_))
  refine lk_wp_seg (lo' := [.ref a0, .ref a1]) (st' := [.ref a1, .ref a0]) lk_M57 lk_s57_6_2 rfl ?_
  refine lk_wp_cv (as := [.ref a1]) (r := []) (a := a0) lk_i57_8 lk_M57 rfl rfl rfl (Nat.le_of_ble_eq_true rfl) H (fun k4 H => lk_gi H (fun r3 h2 H => ?_))
  refine lk_wp_seg (lo' := [.ref a0, .ref a1]) (st' := [.int (r3 + 4)]) lk_M57 lk_s57_11_2 rfl ?_
  exact lk_wp_ret lk_i57_13 lk_M57 rfl H
/-! LonelyDots$Thing.partOfAlike(I)I -/
theorem lk_M58 : lk_mt[58]? = some (yX9_partOfAlike, cX9_partOfAlike, 5, ((some FieldType.int))) := rfl
theorem lk_s58_0_2 : lk_seg 58 [(.iconst 0, 1, (0, [], .int (0))), (.istore_n 2, 1, (0, [], .null))] 0 = some 2 := by decide +kernel
theorem lk_s58_2_2 : lk_seg 58 [(.iload_n 2, 1, (0, [], .null)), (.aload_n 0, 1, (0, [], .null))] 2 = some 4 := by decide +kernel
theorem lk_i58_4 : lk_ins 58 4 = some (.getfield 9, 3, (0, [(0, 0), (2, 0), (4, 0), (5, 0), (6, 0)], .null)) := lk_eqE_eq (by decide +kernel)
theorem lk_i58_7 : lk_ins 58 7 = some (.arraylength, 1, (0, [], .null)) := lk_eqE_eq (by decide +kernel)
theorem lk_i58_8 : lk_ins 58 8 = some (.if_icmp .ge 51, 3, (59, [], .null)) := lk_eqE_eq (by decide +kernel)
theorem lk_s58_59_1 : lk_seg 58 [(.ldc 33, 2, (0, [], .int (-1000000)))] 59 = some 61 := by decide +kernel
theorem lk_i58_61 : lk_ins 58 61 = some (.ireturn, 1, (0, [], .null)) := lk_eqE_eq (by decide +kernel)
theorem lk_s58_11_4 : lk_seg 58 [(.iload_n 2, 1, (0, [], .null)), (.iconst 1, 1, (0, [], .int (1))), (.iadd, 1, (0, [], .null)), (.istore_n 3, 1, (0, [], .null))] 11 = some 15 := by decide +kernel
theorem lk_s58_15_2 : lk_seg 58 [(.iload_n 3, 1, (0, [], .null)), (.aload_n 0, 1, (0, [], .null))] 15 = some 17 := by decide +kernel
theorem lk_i58_17 : lk_ins 58 17 = some (.getfield 9, 3, (0, [(0, 0), (2, 0), (4, 0), (5, 0), (6, 0)], .null)) := lk_eqE_eq (by decide +kernel)
theorem lk_i58_20 : lk_ins 58 20 = some (.arraylength, 1, (0, [], .null)) := lk_eqE_eq (by decide +kernel)
theorem lk_i58_21 : lk_ins 58 21 = some (.if_icmp .ge 32, 3, (53, [], .null)) := lk_eqE_eq (by decide +kernel)
theorem lk_s58_53_2 : lk_seg 58 [(.iinc 2 1, 3, (0, [], .int (1))), (.goto (-54), 3, (2, [], .null))] 53 = some 2 := by decide +kernel
theorem lk_s58_24_3 : lk_seg 58 [(.aload_n 0, 1, (0, [], .null)), (.iload_n 2, 1, (0, [], .null)), (.iload_n 3, 1, (0, [], .null))] 24 = some 27 := by decide +kernel
theorem lk_i58_27 : lk_ins 58 27 = some (.invokevirtual 25, 3, (2, [(0, 59), (2, 59), (4, 59), (5, 59), (6, 59)], .ref 33)) := lk_eqE_eq (by decide +kernel)
theorem lk_s58_30_2 : lk_seg 58 [(.istore 4, 2, (0, [], .null)), (.iload 4, 2, (0, [], .null))] 30 = some 34 := by decide +kernel
theorem lk_i58_34 : lk_ins 58 34 = some (.ifCond .lt 13, 3, (47, [], .null)) := lk_eqE_eq (by decide +kernel)
theorem lk_s58_47_2 : lk_seg 58 [(.iinc 3 1, 3, (0, [], .int (1))), (.goto (-35), 3, (15, [], .null))] 47 = some 15 := by decide +kernel
theorem lk_s58_37_5 : lk_seg 58 [(.aload_n 0, 1, (0, [], .null)), (.iload_n 1, 1, (0, [], .null)), (.iload_n 2, 1, (0, [], .null)), (.iload_n 3, 1, (0, [], .null)), (.iload 4, 2, (0, [], .null))] 37 = some 43 := by decide +kernel
theorem lk_i58_43 : lk_ins 58 43 = some (.invokevirtual 29, 3, (2, [(0, 60), (2, 60), (4, 60), (5, 60), (6, 60)], .ref 34)) := lk_eqE_eq (by decide +kernel)
theorem lk_i58_46 : lk_ins 58 46 = some (.ireturn, 1, (0, [], .null)) := lk_eqE_eq (by decide +kernel)
set_option maxRecDepth 20000 in
theorem E_t_partOfAlike {X : lk_X} {d : Nat} {x1 : Int32} {a0 : Nat} {h : lk_H} {Q : Option Value → lk_H → Prop} (H : lk_wp X (d + 1) 58 2 [.ref a0, .int x1, .int 0, .retAddr 0, .retAddr 0] [] h Q) : lk_wx X (d + 1) 58 [.ref a0, .int x1] h Q := by
  refine lk_enter (lo := [.ref a0, .int x1, .retAddr 0, .retAddr 0, .retAddr 0]) lk_M58 rfl (Nat.le_of_ble_eq_true rfl) ?_
  refine lk_wp_seg (lo' := [.ref a0, .int x1, .int 0, .retAddr 0, .retAddr 0]) (st' := []) lk_M58 lk_s58_0_2 rfl ?_
  exact H
set_option maxRecDepth 20000 in
theorem F_t_partOfAlike_2 {X : lk_X} {d : Nat} {x1 x2 : Int32} {a0 : Nat} {h : lk_H} {Q : Option Value → lk_H → Prop} (H : lk_fR h a0 0 [(0, 0), (2, 0), (4, 0), (5, 0), (6, 0)] (fun r1 => lk_al2 h r1 (fun r2 => (r2 ≤ x2 → Q (some (.int ((-1000000)))) h) ∧ (¬ r2 ≤ x2 → lk_wp X (d + 1) 58 15 [.ref a0, .int x1, .int x2, .int (x2 + 1), .retAddr 0] [] h Q)))) : lk_wp X (d + 1) 58 2 [.ref a0, .int x1, .int x2, .retAddr 0, .retAddr 0] [] h Q := by
  refine lk_wp_seg (lo' := [.ref a0, .int x1, .int x2, .retAddr 0, .retAddr 0]) (st' := [.ref a0, .int x2]) lk_M58 lk_s58_2_2 rfl ?_
  refine lk_wp_fR lk_i58_4 lk_M58 H (fun r1 H => ?_)
  refine lk_wp_al lk_i58_7 lk_M58 H (fun r2 H => ?_)
  refine lk_wp_ic_ge lk_i58_8 lk_M58 H (fun H => ?_) (fun H => ?_)
  · refine lk_wp_seg (lo' := [.ref a0, .int x1, .int x2, .retAddr 0, .retAddr 0]) (st' := [.int ((-1000000))]) lk_M58 lk_s58_59_1 rfl ?_
    exact lk_wp_ret lk_i58_61 lk_M58 rfl H
  · refine lk_wp_seg (lo' := [.ref a0, .int x1, .int x2, .int (x2 + 1), .retAddr 0]) (st' := []) lk_M58 lk_s58_11_4 rfl ?_
    exact H
set_option maxRecDepth 20000 in
theorem F_t_partOfAlike_15 {X : lk_X} {d : Nat} {x1 x2 x3 : Int32} {a0 : Nat} {h : lk_H} {Q : Option Value → lk_H → Prop} (H : lk_fR h a0 0 [(0, 0), (2, 0), (4, 0), (5, 0), (6, 0)] (fun r1 => lk_al2 h r1 (fun r2 => (r2 ≤ x3 → lk_wp X (d + 1) 58 2 [.ref a0, .int x1, .int (x2 + 1), .retAddr 0, .retAddr 0] [] h Q) ∧ (¬ r2 ≤ x3 → lk_vc h a0 [(0, 59), (2, 59), (4, 59), (5, 59), (6, 59)] (fun k8 => lk_wxi X d k8 [.ref a0, .int x2, .int x3] h (fun r4 h3 => (r4 < 0 → lk_wp X (d + 1) 58 15 [.ref a0, .int x1, .int x2, .int (x3 + 1), .retAddr 0] [] h3 Q) ∧ (¬ r4 < 0 → lk_vc h3 a0 [(0, 60), (2, 60), (4, 60), (5, 60), (6, 60)] (fun k7 => lk_wxi X d k7 [.ref a0, .int x1, .int x2, .int x3, .int r4] h3 (fun r6 h5 => Q (some (.int r6)) h5))))))))) : lk_wp X (d + 1) 58 15 [.ref a0, .int x1, .int x2, .int x3, .retAddr 0] [] h Q := by
  refine lk_wp_seg (lo' := [.ref a0, .int x1, .int x2, .int x3, .retAddr 0]) (st' := [.ref a0, .int x3]) lk_M58 lk_s58_15_2 rfl ?_
  refine lk_wp_fR lk_i58_17 lk_M58 H (fun r1 H => ?_)
  refine lk_wp_al lk_i58_20 lk_M58 H (fun r2 H => ?_)
  refine lk_wp_ic_ge lk_i58_21 lk_M58 H (fun H => ?_) (fun H => ?_)
  · refine lk_wp_seg (lo' := [.ref a0, .int x1, .int (x2 + 1), .int x3, .retAddr 0]) (st' := []) lk_M58 lk_s58_53_2 rfl ?_
    exact H.forget (lk_le_s (lk_le_s (lk_le_s (lk_le_d (lk_le_s lk_le_n)))))
  · refine lk_wp_seg (lo' := [.ref a0, .int x1, .int x2, .int x3, .retAddr 0]) (st' := [.int x3, .int x2, .ref a0]) lk_M58 lk_s58_24_3 rfl ?_
    refine lk_wp_cv (as := [.int x2, .int x3]) (r := []) (a := a0) lk_i58_27 lk_M58 rfl rfl rfl (Nat.le_of_ble_eq_true rfl) H (fun k8 H => lk_gi H (fun r4 h3 H => ?_))
    refine lk_wp_seg (lo' := [.ref a0, .int x1, .int x2, .int x3, .int r4]) (st' := [.int r4]) lk_M58 lk_s58_30_2 rfl ?_
    refine lk_wp_if_lt lk_i58_34 lk_M58 H (fun H => ?_) (fun H => ?_)
    · refine lk_wp_seg (lo' := [.ref a0, .int x1, .int x2, .int (x3 + 1), .int r4]) (st' := []) lk_M58 lk_s58_47_2 rfl ?_
      exact H.forget (lk_le_s (lk_le_s (lk_le_s (lk_le_s (lk_le_d lk_le_n)))))
    · refine lk_wp_seg (lo' := [.ref a0, .int x1, .int x2, .int x3, .int r4]) (st' := [.int r4, .int x3, .int x2, .int x1, .ref a0]) lk_M58 lk_s58_37_5 rfl ?_
      refine lk_wp_cv (as := [.int x1, .int x2, .int x3, .int r4]) (r := []) (a := a0) lk_i58_43 lk_M58 rfl rfl rfl (Nat.le_of_ble_eq_true rfl) H (fun k7 H => lk_gi H (fun r6 h5 H => ?_))
      exact lk_wp_ret lk_i58_46 lk_M58 rfl H
/-! LonelyDots$Thing.laterFirst(II)I -/
theorem lk_M59 : lk_mt[59]? = some (yX9_laterFirst, cX9_laterFirst, 4, ((some FieldType.int))) := rfl
theorem lk_s59_0_4 : lk_seg 59 [(.iload_n 1, 1, (0, [], .null)), (.iconst 1, 1, (0, [], .int (1))), (.iadd, 1, (0, [], .null)), (.istore_n 3, 1, (0, [], .null))] 0 = some 4 := by decide +kernel
theorem lk_s59_4_2 : lk_seg 59 [(.iload_n 3, 1, (0, [], .null)), (.aload_n 0, 1, (0, [], .null))] 4 = some 6 := by decide +kernel
theorem lk_i59_6 : lk_ins 59 6 = some (.getfield 9, 3, (0, [(0, 0), (2, 0), (4, 0), (5, 0), (6, 0)], .null)) := lk_eqE_eq (by decide +kernel)
theorem lk_i59_9 : lk_ins 59 9 = some (.arraylength, 1, (0, [], .null)) := lk_eqE_eq (by decide +kernel)
theorem lk_i59_10 : lk_ins 59 10 = some (.if_icmp .ge 21, 3, (31, [], .null)) := lk_eqE_eq (by decide +kernel)
theorem lk_s59_31_1 : lk_seg 59 [(.iconst (-1), 1, (0, [], .int (-1)))] 31 = some 32 := by decide +kernel
theorem lk_i59_32 : lk_ins 59 32 = some (.ireturn, 1, (0, [], .null)) := lk_eqE_eq (by decide +kernel)
theorem lk_s59_13_4 : lk_seg 59 [(.aload_n 0, 1, (0, [], .null)), (.iload_n 1, 1, (0, [], .null)), (.iload_n 2, 1, (0, [], .null)), (.iload_n 3, 1, (0, [], .null))] 13 = some 17 := by decide +kernel
theorem lk_i59_17 : lk_ins 59 17 = some (.invokevirtual 34, 3, (2, [(0, 32), (2, 16), (4, 32), (5, 16), (6, 16)], .ref 35)) := lk_eqE_eq (by decide +kernel)
theorem lk_i59_20 : lk_ins 59 20 = some (.ifCond .lt 5, 3, (25, [], .null)) := lk_eqE_eq (by decide +kernel)
theorem lk_s59_25_2 : lk_seg 59 [(.iinc 3 1, 3, (0, [], .int (1))), (.goto (-24), 3, (4, [], .null))] 25 = some 4 := by decide +kernel
theorem lk_s59_23_1 : lk_seg 59 [(.iload_n 3, 1, (0, [], .null))] 23 = some 24 := by decide +kernel
theorem lk_i59_24 : lk_ins 59 24 = some (.ireturn, 1, (0, [], .null)) := lk_eqE_eq (by decide +kernel)
set_option maxRecDepth 20000 in
theorem E_t_laterFirst {X : lk_X} {d : Nat} {x1 x2 : Int32} {a0 : Nat} {h : lk_H} {Q : Option Value → lk_H → Prop} (H : lk_wp X (d + 1) 59 4 [.ref a0, .int x1, .int x2, .int (x1 + 1)] [] h Q) : lk_wx X (d + 1) 59 [.ref a0, .int x1, .int x2] h Q := by
  refine lk_enter (lo := [.ref a0, .int x1, .int x2, .retAddr 0]) lk_M59 rfl (Nat.le_of_ble_eq_true rfl) ?_
  refine lk_wp_seg (lo' := [.ref a0, .int x1, .int x2, .int (x1 + 1)]) (st' := []) lk_M59 lk_s59_0_4 rfl ?_
  exact H
set_option maxRecDepth 20000 in
theorem F_t_laterFirst_4 {X : lk_X} {d : Nat} {x1 x2 x3 : Int32} {a0 : Nat} {h : lk_H} {Q : Option Value → lk_H → Prop} (H : lk_fR h a0 0 [(0, 0), (2, 0), (4, 0), (5, 0), (6, 0)] (fun r1 => lk_al2 h r1 (fun r2 => (r2 ≤ x3 → Q (some (.int ((-1)))) h) ∧ (¬ r2 ≤ x3 → lk_vc h a0 [(0, 32), (2, 16), (4, 32), (5, 16), (6, 16)] (fun k5 => lk_wxi X d k5 [.ref a0, .int x1, .int x2, .int x3] h (fun r4 h3 => (r4 < 0 → lk_wp X (d + 1) 59 4 [.ref a0, .int x1, .int x2, .int (x3 + 1)] [] h3 Q) ∧ (¬ r4 < 0 → Q (some (.int x3)) h3))))))) : lk_wp X (d + 1) 59 4 [.ref a0, .int x1, .int x2, .int x3] [] h Q := by
  refine lk_wp_seg (lo' := [.ref a0, .int x1, .int x2, .int x3]) (st' := [.ref a0, .int x3]) lk_M59 lk_s59_4_2 rfl ?_
  refine lk_wp_fR lk_i59_6 lk_M59 H (fun r1 H => ?_)
  refine lk_wp_al lk_i59_9 lk_M59 H (fun r2 H => ?_)
  refine lk_wp_ic_ge lk_i59_10 lk_M59 H (fun H => ?_) (fun H => ?_)
  · refine lk_wp_seg (lo' := [.ref a0, .int x1, .int x2, .int x3]) (st' := [.int ((-1))]) lk_M59 lk_s59_31_1 rfl ?_
    exact lk_wp_ret lk_i59_32 lk_M59 rfl H
  · refine lk_wp_seg (lo' := [.ref a0, .int x1, .int x2, .int x3]) (st' := [.int x3, .int x2, .int x1, .ref a0]) lk_M59 lk_s59_13_4 rfl ?_
    refine lk_wp_cv (as := [.int x1, .int x2, .int x3]) (r := []) (a := a0) lk_i59_17 lk_M59 rfl rfl rfl (Nat.le_of_ble_eq_true rfl) H (fun k5 H => lk_gi H (fun r4 h3 H => ?_))
    refine lk_wp_if_lt lk_i59_20 lk_M59 H (fun H => ?_) (fun H => ?_)
    · refine lk_wp_seg (lo' := [.ref a0, .int x1, .int x2, .int (x3 + 1)]) (st' := []) lk_M59 lk_s59_25_2 rfl ?_
      exact H
    · refine lk_wp_seg (lo' := [.ref a0, .int x1, .int x2, .int x3]) (st' := [.int x3]) lk_M59 lk_s59_23_1 rfl ?_
      exact lk_wp_ret lk_i59_24 lk_M59 rfl H
/-! LonelyDots$Thing.partOfPairs(IIII)I -/
theorem lk_M60 : lk_mt[60]? = some (yX9_partOfPairs, cX9_partOfPairs, 5, ((some FieldType.int))) := rfl
theorem lk_s60_0_1 : lk_seg 60 [(.iload_n 1, 1, (0, [], .null))] 0 = some 1 := by decide +kernel
theorem lk_i60_1 : lk_ins 60 1 = some (.tableswitch 34 0 2 #[27, 29, 31], 27, (35, [(0, 28), (1, 30), (2, 32)], .null)) := lk_eqE_eq (by decide +kernel)
theorem lk_s60_28_1 : lk_seg 60 [(.iload_n 2, 1, (0, [], .null))] 28 = some 29 := by decide +kernel
theorem lk_i60_29 : lk_ins 60 29 = some (.ireturn, 1, (0, [], .null)) := lk_eqE_eq (by decide +kernel)
theorem lk_s60_30_1 : lk_seg 60 [(.iload_n 3, 1, (0, [], .null))] 30 = some 31 := by decide +kernel
theorem lk_i60_31 : lk_ins 60 31 = some (.ireturn, 1, (0, [], .null)) := lk_eqE_eq (by decide +kernel)
theorem lk_s60_32_1 : lk_seg 60 [(.iload 4, 2, (0, [], .null))] 32 = some 34 := by decide +kernel
theorem lk_i60_34 : lk_ins 60 34 = some (.ireturn, 1, (0, [], .null)) := lk_eqE_eq (by decide +kernel)
theorem lk_s60_35_4 : lk_seg 60 [(.aload_n 0, 1, (0, [], .null)), (.iload_n 2, 1, (0, [], .null)), (.iload_n 3, 1, (0, [], .null)), (.iload 4, 2, (0, [], .null))] 35 = some 40 := by decide +kernel
theorem lk_i60_40 : lk_ins 60 40 = some (.invokevirtual 34, 3, (2, [(0, 32), (2, 16), (4, 32), (5, 16), (6, 16)], .ref 35)) := lk_eqE_eq (by decide +kernel)
theorem lk_i60_43 : lk_ins 60 43 = some (.ireturn, 1, (0, [], .null)) := lk_eqE_eq (by decide +kernel)
set_option maxRecDepth 20000 in
theorem E_t_partOfPairs {X : lk_X} {d : Nat} {x1 x2 x3 x4 : Int32} {a0 : Nat} {h : lk_H} {Q : Option Value → lk_H → Prop} (H : (x1 = Int32.ofNat 0 → Q (some (.int x2)) h) ∧ (¬ x1 = Int32.ofNat 0 → (x1 = Int32.ofNat 1 → Q (some (.int x3)) h) ∧ (¬ x1 = Int32.ofNat 1 → (x1 = Int32.ofNat 2 → Q (some (.int x4)) h) ∧ (¬ x1 = Int32.ofNat 2 → lk_vc h a0 [(0, 32), (2, 16), (4, 32), (5, 16), (6, 16)] (fun k3 => lk_wxi X d k3 [.ref a0, .int x2, .int x3, .int x4] h (fun r2 h1 => Q (some (.int r2)) h1)))))) : lk_wx X (d + 1) 60 [.ref a0, .int x1, .int x2, .int x3, .int x4] h Q := by
  refine lk_enter (lo := [.ref a0, .int x1, .int x2, .int x3, .int x4]) lk_M60 rfl (Nat.le_of_ble_eq_true rfl) ?_
  refine lk_wp_seg (lo' := [.ref a0, .int x1, .int x2, .int x3, .int x4]) (st' := [.int x1]) lk_M60 lk_s60_0_1 rfl ?_
  refine lk_wp_sw lk_i60_1 lk_M60 ?_
  refine lk_wp_swc H (fun H => ?_) (fun H => ?_)
  · refine lk_wp_seg (lo' := [.ref a0, .int x1, .int x2, .int x3, .int x4]) (st' := [.int x2]) lk_M60 lk_s60_28_1 rfl ?_
    exact lk_wp_ret lk_i60_29 lk_M60 rfl H
  · refine lk_wp_swc H (fun H => ?_) (fun H => ?_)
    · refine lk_wp_seg (lo' := [.ref a0, .int x1, .int x2, .int x3, .int x4]) (st' := [.int x3]) lk_M60 lk_s60_30_1 rfl ?_
      exact lk_wp_ret lk_i60_31 lk_M60 rfl H
    · refine lk_wp_swc H (fun H => ?_) (fun H => ?_)
      · refine lk_wp_seg (lo' := [.ref a0, .int x1, .int x2, .int x3, .int x4]) (st' := [.int x4]) lk_M60 lk_s60_32_1 rfl ?_
        exact lk_wp_ret lk_i60_34 lk_M60 rfl H
      · refine lk_wp_seg (lo' := [.ref a0, .int x1, .int x2, .int x3, .int x4]) (st' := [.int x4, .int x3, .int x2, .ref a0]) lk_M60 lk_s60_35_4 rfl ?_
        refine lk_wp_cv (as := [.int x2, .int x3, .int x4]) (r := []) (a := a0) lk_i60_40 lk_M60 rfl rfl rfl (Nat.le_of_ble_eq_true rfl) H (fun k3 H => lk_gi H (fun r2 h1 H => ?_))
        exact lk_wp_ret lk_i60_43 lk_M60 rfl H
/-! LonelyDots$Trace.<init>()V -/
theorem lk_M61 : lk_mt[61]? = some (yX10_init, cX10_init, 1, ((none))) := rfl
theorem lk_s61_0_1 : lk_seg 61 [(.aload_n 0, 1, (0, [], .null))] 0 = some 1 := by decide +kernel
theorem lk_i61_1 : lk_ins 61 1 = some (.invokespecial 3, 3, (100, [], .null)) := lk_eqE_eq (by decide +kernel)
theorem lk_s61_4_2 : lk_seg 61 [(.aload_n 0, 1, (0, [], .null)), (.bipush 16, 2, (0, [], .int (16)))] 4 = some 7 := by decide +kernel
theorem lk_i61_7 : lk_ins 61 7 = some (.newarray .int, 2, (0, [], .null)) := lk_eqE_eq (by decide +kernel)
theorem lk_i61_9 : lk_ins 61 9 = some (.putfield 9, 3, (0, [(9, 0)], .null)) := lk_eqE_eq (by decide +kernel)
theorem lk_i61_12 : lk_ins 61 12 = some (.return_, 1, (0, [], .null)) := lk_eqE_eq (by decide +kernel)
set_option maxRecDepth 20000 in
theorem E_tr_init {X : lk_X} {d : Nat} {a0 : Nat} {h : lk_H} {Q : Option Value → lk_H → Prop} (H : lk_nw (16 : Int32) (lk_pf ((h ++ [.inl (0, ((16 : Int32).toNatClampNeg, .inl (fun _ => 0)))])) a0 0 [(9, 0)] (.ref (h.length)) (fun h1 => Q none h1))) : lk_wx X (d + 1) 61 [.ref a0] h Q := by
  refine lk_enter (lo := [.ref a0]) lk_M61 rfl (Nat.le_of_ble_eq_true rfl) ?_
  refine lk_wp_seg (lo' := [.ref a0]) (st' := [.ref a0]) lk_M61 lk_s61_0_1 rfl ?_
  refine lk_wp_one lk_i61_1 lk_M61 rfl rfl rfl ?_
  refine lk_wp_seg (lo' := [.ref a0]) (st' := [.int 16, .ref a0]) lk_M61 lk_s61_4_2 rfl ?_
  refine lk_wp_new_int lk_i61_7 lk_M61 H (fun H => ?_)
  refine lk_wp_pf lk_i61_9 lk_M61 H (fun h1 H => ?_)
  exact lk_wp_ret lk_i61_12 lk_M61 rfl H
/-! LonelyDots$Trace.empty()V -/
theorem lk_M62 : lk_mt[62]? = some (yX10_empty, cX10_empty, 1, ((none))) := rfl
theorem lk_s62_0_2 : lk_seg 62 [(.aload_n 0, 1, (0, [], .null)), (.iconst 0, 1, (0, [], .int (0)))] 0 = some 2 := by decide +kernel
theorem lk_i62_2 : lk_ins 62 2 = some (.putfield 15, 3, (1, [(9, 0)], .null)) := lk_eqE_eq (by decide +kernel)
theorem lk_i62_5 : lk_ins 62 5 = some (.return_, 1, (0, [], .null)) := lk_eqE_eq (by decide +kernel)
set_option maxRecDepth 20000 in
theorem E_tr_empty {X : lk_X} {d : Nat} {a0 : Nat} {h : lk_H} {Q : Option Value → lk_H → Prop} (H : lk_pf h a0 1 [(9, 0)] (.int 0) (fun h1 => Q none h1)) : lk_wx X (d + 1) 62 [.ref a0] h Q := by
  refine lk_enter (lo := [.ref a0]) lk_M62 rfl (Nat.le_of_ble_eq_true rfl) ?_
  refine lk_wp_seg (lo' := [.ref a0]) (st' := [.int 0, .ref a0]) lk_M62 lk_s62_0_2 rfl ?_
  refine lk_wp_pf lk_i62_2 lk_M62 H (fun h1 H => ?_)
  exact lk_wp_ret lk_i62_5 lk_M62 rfl H
/-! LonelyDots$Trace.begin(I)V -/
theorem lk_M63 : lk_mt[63]? = some (yX10_begin, cX10_begin, 2, ((none))) := rfl
theorem lk_s63_0_1 : lk_seg 63 [(.aload_n 0, 1, (0, [], .null))] 0 = some 1 := by decide +kernel
theorem lk_i63_1 : lk_ins 63 1 = some (.getfield 15, 3, (1, [(9, 0)], .null)) := lk_eqE_eq (by decide +kernel)
theorem lk_s63_4_1 : lk_seg 63 [(.aload_n 0, 1, (0, [], .null))] 4 = some 5 := by decide +kernel
theorem lk_i63_5 : lk_ins 63 5 = some (.getfield 9, 3, (0, [(9, 0)], .null)) := lk_eqE_eq (by decide +kernel)
theorem lk_i63_8 : lk_ins 63 8 = some (.arraylength, 1, (0, [], .null)) := lk_eqE_eq (by decide +kernel)
theorem lk_i63_9 : lk_ins 63 9 = some (.if_icmp .ge 23, 3, (32, [], .null)) := lk_eqE_eq (by decide +kernel)
theorem lk_i63_32 : lk_ins 63 32 = some (.return_, 1, (0, [], .null)) := lk_eqE_eq (by decide +kernel)
theorem lk_s63_12_1 : lk_seg 63 [(.aload_n 0, 1, (0, [], .null))] 12 = some 13 := by decide +kernel
theorem lk_i63_13 : lk_ins 63 13 = some (.getfield 9, 3, (0, [(9, 0)], .null)) := lk_eqE_eq (by decide +kernel)
theorem lk_s63_16_1 : lk_seg 63 [(.aload_n 0, 1, (0, [], .null))] 16 = some 17 := by decide +kernel
theorem lk_i63_17 : lk_ins 63 17 = some (.getfield 15, 3, (1, [(9, 0)], .null)) := lk_eqE_eq (by decide +kernel)
theorem lk_s63_20_1 : lk_seg 63 [(.iload_n 1, 1, (0, [], .null))] 20 = some 21 := by decide +kernel
theorem lk_i63_21 : lk_ins 63 21 = some (.iastore, 1, (0, [], .null)) := lk_eqE_eq (by decide +kernel)
theorem lk_s63_22_2 : lk_seg 63 [(.aload_n 0, 1, (0, [], .null)), (.dup, 1, (0, [], .null))] 22 = some 24 := by decide +kernel
theorem lk_i63_24 : lk_ins 63 24 = some (.getfield 15, 3, (1, [(9, 0)], .null)) := lk_eqE_eq (by decide +kernel)
theorem lk_s63_27_2 : lk_seg 63 [(.iconst 1, 1, (0, [], .int (1))), (.iadd, 1, (0, [], .null))] 27 = some 29 := by decide +kernel
theorem lk_i63_29 : lk_ins 63 29 = some (.putfield 15, 3, (1, [(9, 0)], .null)) := lk_eqE_eq (by decide +kernel)
set_option maxRecDepth 20000 in
theorem E_tr_begin {X : lk_X} {d : Nat} {x1 : Int32} {a0 : Nat} {h : lk_H} {Q : Option Value → lk_H → Prop} (H : lk_fI h a0 1 [(9, 0)] (fun r1 => lk_fR h a0 0 [(9, 0)] (fun r2 => lk_al2 h r2 (fun r3 => (r3 ≤ r1 → Q none h) ∧ (¬ r3 ≤ r1 → lk_fR h a0 0 [(9, 0)] (fun r4 => lk_fI h a0 1 [(9, 0)] (fun r5 => lk_as h r4 r5 x1 (fun h6 => lk_fI h6 a0 1 [(9, 0)] (fun r7 => lk_pf h6 a0 1 [(9, 0)] (.int (r7 + 1)) (fun h8 => Q none h8)))))))))) : lk_wx X (d + 1) 63 [.ref a0, .int x1] h Q := by
  refine lk_enter (lo := [.ref a0, .int x1]) lk_M63 rfl (Nat.le_of_ble_eq_true rfl) ?_
  refine lk_wp_seg (lo' := [.ref a0, .int x1]) (st' := [.ref a0]) lk_M63 lk_s63_0_1 rfl ?_
  refine lk_wp_fI lk_i63_1 lk_M63 H (fun r1 H => ?_)
  refine lk_wp_seg (lo' := [.ref a0, .int x1]) (st' := [.ref a0, .int r1]) lk_M63 lk_s63_4_1 rfl ?_
  refine lk_wp_fR lk_i63_5 lk_M63 H (fun r2 H => ?_)
  refine lk_wp_al lk_i63_8 lk_M63 H (fun r3 H => ?_)
  refine lk_wp_ic_ge lk_i63_9 lk_M63 H (fun H => ?_) (fun H => ?_)
  · exact lk_wp_ret lk_i63_32 lk_M63 rfl H
  · refine lk_wp_seg (lo' := [.ref a0, .int x1]) (st' := [.ref a0]) lk_M63 lk_s63_12_1 rfl ?_
    refine lk_wp_fR lk_i63_13 lk_M63 H (fun r4 H => ?_)
    refine lk_wp_seg (lo' := [.ref a0, .int x1]) (st' := [.ref a0, .ref r4]) lk_M63 lk_s63_16_1 rfl ?_
    refine lk_wp_fI lk_i63_17 lk_M63 H (fun r5 H => ?_)
    refine lk_wp_seg (lo' := [.ref a0, .int x1]) (st' := [.int x1, .int r5, .ref r4]) lk_M63 lk_s63_20_1 rfl ?_
    refine lk_wp_as lk_i63_21 lk_M63 H (fun h6 H => ?_)
    refine lk_wp_seg (lo' := [.ref a0, .int x1]) (st' := [.ref a0, .ref a0]) lk_M63 lk_s63_22_2 rfl ?_
    refine lk_wp_fI lk_i63_24 lk_M63 H (fun r7 H => ?_)
    refine lk_wp_seg (lo' := [.ref a0, .int x1]) (st' := [.int (r7 + 1), .ref a0]) lk_M63 lk_s63_27_2 rfl ?_
    refine lk_wp_pf lk_i63_29 lk_M63 H (fun h8 H => ?_)
    exact lk_wp_ret lk_i63_32 lk_M63 rfl H
/-! LonelyDots$Trace.number(I)I -/
theorem lk_M64 : lk_mt[64]? = some (yX10_number, cX10_number, 2, ((some FieldType.int))) := rfl
theorem lk_s64_0_1 : lk_seg 64 [(.iload_n 1, 1, (0, [], .null))] 0 = some 1 := by decide +kernel
theorem lk_i64_1 : lk_ins 64 1 = some (.ifCond .lt 20, 3, (21, [], .null)) := lk_eqE_eq (by decide +kernel)
theorem lk_s64_21_1 : lk_seg 64 [(.ldc 19, 2, (0, [], .int (-1000000)))] 21 = some 23 := by decide +kernel
theorem lk_i64_23 : lk_ins 64 23 = some (.ireturn, 1, (0, [], .null)) := lk_eqE_eq (by decide +kernel)
theorem lk_s64_4_2 : lk_seg 64 [(.iload_n 1, 1, (0, [], .null)), (.aload_n 0, 1, (0, [], .null))] 4 = some 6 := by decide +kernel
theorem lk_i64_6 : lk_ins 64 6 = some (.getfield 15, 3, (1, [(9, 0)], .null)) := lk_eqE_eq (by decide +kernel)
theorem lk_i64_9 : lk_ins 64 9 = some (.if_icmp .ge 12, 3, (21, [], .null)) := lk_eqE_eq (by decide +kernel)
theorem lk_s64_12_1 : lk_seg 64 [(.aload_n 0, 1, (0, [], .null))] 12 = some 13 := by decide +kernel
theorem lk_i64_13 : lk_ins 64 13 = some (.getfield 9, 3, (0, [(9, 0)], .null)) := lk_eqE_eq (by decide +kernel)
theorem lk_s64_16_1 : lk_seg 64 [(.iload_n 1, 1, (0, [], .null))] 16 = some 17 := by decide +kernel
theorem lk_i64_17 : lk_ins 64 17 = some (.iaload, 1, (0, [], .null)) := lk_eqE_eq (by decide +kernel)
theorem lk_s64_18_1 : lk_seg 64 [(.goto 5, 3, (23, [], .null))] 18 = some 23 := by decide +kernel
set_option maxRecDepth 20000 in
theorem E_tr_number {X : lk_X} {d : Nat} {x1 : Int32} {a0 : Nat} {h : lk_H} {Q : Option Value → lk_H → Prop} (H : (x1 < 0 → Q (some (.int ((-1000000)))) h) ∧ (¬ x1 < 0 → lk_fI h a0 1 [(9, 0)] (fun r1 => (r1 ≤ x1 → Q (some (.int ((-1000000)))) h) ∧ (¬ r1 ≤ x1 → lk_fR h a0 0 [(9, 0)] (fun r2 => lk_ai h r2 x1 (fun r3 => Q (some (.int r3)) h)))))) : lk_wx X (d + 1) 64 [.ref a0, .int x1] h Q := by
  refine lk_enter (lo := [.ref a0, .int x1]) lk_M64 rfl (Nat.le_of_ble_eq_true rfl) ?_
  refine lk_wp_seg (lo' := [.ref a0, .int x1]) (st' := [.int x1]) lk_M64 lk_s64_0_1 rfl ?_
  refine lk_wp_if_lt lk_i64_1 lk_M64 H (fun H => ?_) (fun H => ?_)
  · refine lk_wp_seg (lo' := [.ref a0, .int x1]) (st' := [.int ((-1000000))]) lk_M64 lk_s64_21_1 rfl ?_
    exact lk_wp_ret lk_i64_23 lk_M64 rfl H
  · refine lk_wp_seg (lo' := [.ref a0, .int x1]) (st' := [.ref a0, .int x1]) lk_M64 lk_s64_4_2 rfl ?_
    refine lk_wp_fI lk_i64_6 lk_M64 H (fun r1 H => ?_)
    refine lk_wp_ic_ge lk_i64_9 lk_M64 H (fun H => ?_) (fun H => ?_)
    · refine lk_wp_seg (lo' := [.ref a0, .int x1]) (st' := [.int ((-1000000))]) lk_M64 lk_s64_21_1 rfl ?_
      exact lk_wp_ret lk_i64_23 lk_M64 rfl H
    · refine lk_wp_seg (lo' := [.ref a0, .int x1]) (st' := [.ref a0]) lk_M64 lk_s64_12_1 rfl ?_
      refine lk_wp_fR lk_i64_13 lk_M64 H (fun r2 H => ?_)
      refine lk_wp_seg (lo' := [.ref a0, .int x1]) (st' := [.int x1, .ref r2]) lk_M64 lk_s64_16_1 rfl ?_
      refine lk_wp_ai lk_i64_17 lk_M64 H (fun r3 H => ?_)
      refine lk_wp_seg (lo' := [.ref a0, .int x1]) (st' := [.int r3]) lk_M64 lk_s64_18_1 rfl ?_
      exact lk_wp_ret lk_i64_23 lk_M64 rfl H
/-! java/util/Arrays.fill([II)V -/
theorem lk_M170 : lk_mt[170]? = some (yJ7_fill_53178, cJ7_fill_53178, 4, ((none))) := rfl
theorem lk_s170_0_3 : lk_seg 170 [(.iconst 0, 1, (0, [], .int (0))), (.istore_n 2, 1, (0, [], .null)), (.aload_n 0, 1, (0, [], .null))] 0 = some 3 := by decide +kernel
theorem lk_i170_3 : lk_ins 170 3 = some (.arraylength, 1, (0, [], .null)) := lk_eqE_eq (by decide +kernel)
theorem lk_s170_4_1 : lk_seg 170 [(.istore_n 3, 1, (0, [], .null))] 4 = some 5 := by decide +kernel
theorem lk_s170_5_2 : lk_seg 170 [(.iload_n 2, 1, (0, [], .null)), (.iload_n 3, 1, (0, [], .null))] 5 = some 7 := by decide +kernel
theorem lk_i170_7 : lk_ins 170 7 = some (.if_icmp .ge 13, 3, (20, [], .null)) := lk_eqE_eq (by decide +kernel)
theorem lk_i170_20 : lk_ins 170 20 = some (.return_, 1, (0, [], .null)) := lk_eqE_eq (by decide +kernel)
theorem lk_s170_10_3 : lk_seg 170 [(.aload_n 0, 1, (0, [], .null)), (.iload_n 2, 1, (0, [], .null)), (.iload_n 1, 1, (0, [], .null))] 10 = some 13 := by decide +kernel
theorem lk_i170_13 : lk_ins 170 13 = some (.iastore, 1, (0, [], .null)) := lk_eqE_eq (by decide +kernel)
theorem lk_s170_14_2 : lk_seg 170 [(.iinc 2 1, 3, (0, [], .int (1))), (.goto (-12), 3, (5, [], .null))] 14 = some 5 := by decide +kernel
set_option maxRecDepth 20000 in
theorem E_ja_fill {X : lk_X} {d : Nat} {x1 : Int32} {a0 : Nat} {h : lk_H} {Q : Option Value → lk_H → Prop} (H : lk_al2 h a0 (fun r1 => lk_wp X (d + 1) 170 5 [.ref a0, .int x1, .int 0, .int r1] [] h Q)) : lk_wx X (d + 1) 170 [.ref a0, .int x1] h Q := by
  refine lk_enter (lo := [.ref a0, .int x1, .retAddr 0, .retAddr 0]) lk_M170 rfl (Nat.le_of_ble_eq_true rfl) ?_
  refine lk_wp_seg (lo' := [.ref a0, .int x1, .int 0, .retAddr 0]) (st' := [.ref a0]) lk_M170 lk_s170_0_3 rfl ?_
  refine lk_wp_al lk_i170_3 lk_M170 H (fun r1 H => ?_)
  refine lk_wp_seg (lo' := [.ref a0, .int x1, .int 0, .int r1]) (st' := []) lk_M170 lk_s170_4_1 rfl ?_
  exact H
set_option maxRecDepth 20000 in
theorem F_ja_fill_5 {X : lk_X} {d : Nat} {x1 x2 x3 : Int32} {a0 : Nat} {h : lk_H} {Q : Option Value → lk_H → Prop} (H : (x3 ≤ x2 → Q none h) ∧ (¬ x3 ≤ x2 → lk_as h a0 x2 x1 (fun h1 => lk_wp X (d + 1) 170 5 [.ref a0, .int x1, .int (x2 + 1), .int x3] [] h1 Q))) : lk_wp X (d + 1) 170 5 [.ref a0, .int x1, .int x2, .int x3] [] h Q := by
  refine lk_wp_seg (lo' := [.ref a0, .int x1, .int x2, .int x3]) (st' := [.int x3, .int x2]) lk_M170 lk_s170_5_2 rfl ?_
  refine lk_wp_ic_ge lk_i170_7 lk_M170 H (fun H => ?_) (fun H => ?_)
  · exact lk_wp_ret lk_i170_20 lk_M170 rfl H
  · refine lk_wp_seg (lo' := [.ref a0, .int x1, .int x2, .int x3]) (st' := [.int x1, .int x2, .ref a0]) lk_M170 lk_s170_10_3 rfl ?_
    refine lk_wp_as lk_i170_13 lk_M170 H (fun h1 H => ?_)
    refine lk_wp_seg (lo' := [.ref a0, .int x1, .int (x2 + 1), .int x3]) (st' := []) lk_M170 lk_s170_14_2 rfl ?_
    exact H
/-! java/util/Arrays.checkLength(II)V -/
theorem lk_M171 : lk_mt[171]? = some (yJ7_checkLength_df160, cJ7_checkLength_df160, 2, ((none))) := rfl
theorem lk_s171_0_2 : lk_seg 171 [(.iload_n 1, 1, (0, [], .null)), (.iload_n 0, 1, (0, [], .null))] 0 = some 2 := by decide +kernel
theorem lk_i171_2 : lk_ins 171 2 = some (.if_icmp .ge 35, 3, (37, [], .null)) := lk_eqE_eq (by decide +kernel)
theorem lk_i171_37 : lk_ins 171 37 = some (.return_, 1, (0, [], .null)) := lk_eqE_eq (by decide +kernel)
set_option maxRecDepth 20000 in
theorem E_ja_checkLength {X : lk_X} {d : Nat} {x0 x1 : Int32} {h : lk_H} {Q : Option Value → lk_H → Prop} (H : (x0 ≤ x1 → Q none h) ∧ (¬ x0 ≤ x1 → False)) : lk_wx X (d + 1) 171 [.int x0, .int x1] h Q := by
  refine lk_enter (lo := [.int x0, .int x1]) lk_M171 rfl (Nat.le_of_ble_eq_true rfl) ?_
  refine lk_wp_seg (lo' := [.int x0, .int x1]) (st' := [.int x0, .int x1]) lk_M171 lk_s171_0_2 rfl ?_
  refine lk_wp_ic_ge lk_i171_2 lk_M171 H (fun H => ?_) (fun H => ?_)
  · exact lk_wp_ret lk_i171_37 lk_M171 rfl H
  · exact H.elim
/-! java/util/Arrays.copyOfRange([III)[I -/
theorem lk_M172 : lk_mt[172]? = some (yJ7_copyOfRange_feecc, cJ7_copyOfRange_feecc, 3, ((some (FieldType.array FieldType.int)))) := rfl
theorem lk_s172_0_1 : lk_seg 172 [(.iload_n 1, 1, (0, [], .null))] 0 = some 1 := by decide +kernel
theorem lk_i172_1 : lk_ins 172 1 = some (.ifCond .ne 9, 3, (10, [], .null)) := lk_eqE_eq (by decide +kernel)
theorem lk_s172_10_3 : lk_seg 172 [(.aload_n 0, 1, (0, [], .null)), (.iload_n 1, 1, (0, [], .null)), (.iload_n 2, 1, (0, [], .null))] 10 = some 13 := by decide +kernel
theorem lk_i172_13 : lk_ins 172 13 = some (.invokestatic 351, 3, (0, [(0, 173)], .ref 110)) := lk_eqE_eq (by decide +kernel)
theorem lk_i172_16 : lk_ins 172 16 = some (.areturn, 1, (0, [], .null)) := lk_eqE_eq (by decide +kernel)
theorem lk_s172_4_2 : lk_seg 172 [(.iload_n 2, 1, (0, [], .null)), (.aload_n 0, 1, (0, [], .null))] 4 = some 6 := by decide +kernel
theorem lk_i172_6 : lk_ins 172 6 = some (.arraylength, 1, (0, [], .null)) := lk_eqE_eq (by decide +kernel)
theorem lk_i172_7 : lk_ins 172 7 = some (.if_icmp .eq 10, 3, (17, [], .null)) := lk_eqE_eq (by decide +kernel)
theorem lk_s172_17_1 : lk_seg 172 [(.aload_n 0, 1, (0, [], .null))] 17 = some 18 := by decide +kernel
set_option maxRecDepth 20000 in
theorem E_ja_copyOfRange {X : lk_X} {d : Nat} {x1 x2 : Int32} {a0 : Nat} {h : lk_H} {Q : Option Value → lk_H → Prop} (H : (¬ x1 = 0 → lk_wxr X d 173 [.ref a0, .int x1, .int x2] h (fun h1 => Q (some (.null)) h1) (fun r2 h1 => Q (some (.ref r2)) h1)) ∧ (x1 = 0 → lk_al2 h a0 (fun r3 => (x2 = r3 → False) ∧ (¬ x2 = r3 → lk_wxr X d 173 [.ref a0, .int x1, .int x2] h (fun h4 => Q (some (.null)) h4) (fun r5 h4 => Q (some (.ref r5)) h4))))) : lk_wx X (d + 1) 172 [.ref a0, .int x1, .int x2] h Q := by
  refine lk_enter (lo := [.ref a0, .int x1, .int x2]) lk_M172 rfl (Nat.le_of_ble_eq_true rfl) ?_
  refine lk_wp_seg (lo' := [.ref a0, .int x1, .int x2]) (st' := [.int x1]) lk_M172 lk_s172_0_1 rfl ?_
  refine lk_wp_if_ne lk_i172_1 lk_M172 H (fun H => ?_) (fun H => ?_)
  · refine lk_wp_seg (lo' := [.ref a0, .int x1, .int x2]) (st' := [.int x2, .int x1, .ref a0]) lk_M172 lk_s172_10_3 rfl ?_
    refine lk_wp_cs (as := [.ref a0, .int x1, .int x2]) (r := []) lk_i172_13 lk_M172 rfl rfl rfl rfl (Nat.le_of_ble_eq_true rfl) (lk_gr H (fun h1 H => ?_) (fun r2 h1 H => ?_))
    · exact lk_wp_ret lk_i172_16 lk_M172 rfl H
    · exact lk_wp_ret lk_i172_16 lk_M172 rfl H
  · refine lk_wp_seg (lo' := [.ref a0, .int x1, .int x2]) (st' := [.ref a0, .int x2]) lk_M172 lk_s172_4_2 rfl ?_
    refine lk_wp_al lk_i172_6 lk_M172 H (fun r3 H => ?_)
    refine lk_wp_ic_eq lk_i172_7 lk_M172 H (fun H => ?_) (fun H => ?_)
    · refine lk_wp_seg (lo' := [.ref a0, .int x1, .int x2]) (st' := [.ref a0]) lk_M172 lk_s172_17_1 rfl ?_
      exact H.elim
    · refine lk_wp_seg (lo' := [.ref a0, .int x1, .int x2]) (st' := [.int x2, .int x1, .ref a0]) lk_M172 lk_s172_10_3 rfl ?_
      refine lk_wp_cs (as := [.ref a0, .int x1, .int x2]) (r := []) lk_i172_13 lk_M172 rfl rfl rfl rfl (Nat.le_of_ble_eq_true rfl) (lk_gr H (fun h4 H => ?_) (fun r5 h4 H => ?_))
      · exact lk_wp_ret lk_i172_16 lk_M172 rfl H
      · exact lk_wp_ret lk_i172_16 lk_M172 rfl H
/-! java/util/Arrays.copyOfRangeInt([III)[I -/
theorem lk_M173 : lk_mt[173]? = some (yJ7_copyOfRangeInt_feecc, cJ7_copyOfRangeInt_feecc, 5, ((some (FieldType.array FieldType.int)))) := rfl
theorem lk_s173_0_2 : lk_seg 173 [(.iload_n 1, 1, (0, [], .null)), (.iload_n 2, 1, (0, [], .null))] 0 = some 2 := by decide +kernel
theorem lk_i173_2 : lk_ins 173 2 = some (.invokestatic 343, 3, (0, [(0, 171)], .ref 111)) := lk_eqE_eq (by decide +kernel)
theorem lk_s173_5_5 : lk_seg 173 [(.iload_n 2, 1, (0, [], .null)), (.iload_n 1, 1, (0, [], .null)), (.isub, 1, (0, [], .null)), (.istore_n 3, 1, (0, [], .null)), (.iload_n 3, 1, (0, [], .null))] 5 = some 10 := by decide +kernel
theorem lk_i173_10 : lk_ins 173 10 = some (.newarray .int, 2, (0, [], .null)) := lk_eqE_eq (by decide +kernel)
theorem lk_s173_12_6 : lk_seg 173 [(.astore 4, 2, (0, [], .null)), (.aload_n 0, 1, (0, [], .null)), (.iload_n 1, 1, (0, [], .null)), (.aload 4, 2, (0, [], .null)), (.iconst 0, 1, (0, [], .int (0))), (.aload_n 0, 1, (0, [], .null))] 12 = some 20 := by decide +kernel
theorem lk_i173_20 : lk_ins 173 20 = some (.arraylength, 1, (0, [], .null)) := lk_eqE_eq (by decide +kernel)
theorem lk_s173_21_3 : lk_seg 173 [(.iload_n 1, 1, (0, [], .null)), (.isub, 1, (0, [], .null)), (.iload_n 3, 1, (0, [], .null))] 21 = some 24 := by decide +kernel
theorem lk_i173_24 : lk_ins 173 24 = some (.invokestatic 304, 3, (103, [], .null)) := lk_eqE_eq (by decide +kernel)
theorem lk_i173_27 : lk_ins 173 27 = some (.invokestatic 150, 3, (101, [], .null)) := lk_eqE_eq (by decide +kernel)
theorem lk_s173_30_1 : lk_seg 173 [(.aload 4, 2, (0, [], .null))] 30 = some 32 := by decide +kernel
theorem lk_i173_32 : lk_ins 173 32 = some (.areturn, 1, (0, [], .null)) := lk_eqE_eq (by decide +kernel)
set_option maxRecDepth 20000 in
theorem E_ja_copyOfRangeInt {X : lk_X} {d : Nat} {x1 x2 : Int32} {a0 : Nat} {h : lk_H} {Q : Option Value → lk_H → Prop} (H : lk_wxv X d 171 [.int x1, .int x2] h (fun h1 => lk_nw (x2 - x1) (lk_al2 ((h1 ++ [.inl (0, ((x2 - x1).toNatClampNeg, .inl (fun _ => 0)))])) a0 (fun r2 => lk_ac ((h1 ++ [.inl (0, ((x2 - x1).toNatClampNeg, .inl (fun _ => 0)))])) a0 x1 h1.length 0 (if (x2 - x1) < (r2 - x1) then (x2 - x1) else (r2 - x1)) (fun h3 => Q (some (.ref (h1.length))) h3))))) : lk_wx X (d + 1) 173 [.ref a0, .int x1, .int x2] h Q := by
  refine lk_enter (lo := [.ref a0, .int x1, .int x2, .retAddr 0, .retAddr 0]) lk_M173 rfl (Nat.le_of_ble_eq_true rfl) ?_
  refine lk_wp_seg (lo' := [.ref a0, .int x1, .int x2, .retAddr 0, .retAddr 0]) (st' := [.int x2, .int x1]) lk_M173 lk_s173_0_2 rfl ?_
  refine lk_wp_cs (as := [.int x1, .int x2]) (r := []) lk_i173_2 lk_M173 rfl rfl rfl rfl (Nat.le_of_ble_eq_true rfl) (lk_gv H (fun h1 H => ?_))
  refine lk_wp_seg (lo' := [.ref a0, .int x1, .int x2, .int (x2 - x1), .retAddr 0]) (st' := [.int (x2 - x1)]) lk_M173 lk_s173_5_5 rfl ?_
  refine lk_wp_new_int lk_i173_10 lk_M173 H (fun H => ?_)
  refine lk_wp_seg (lo' := [.ref a0, .int x1, .int x2, .int (x2 - x1), .ref (h1.length)]) (st' := [.ref a0, .int 0, .ref (h1.length), .int x1, .ref a0]) lk_M173 lk_s173_12_6 rfl ?_
  refine lk_wp_al lk_i173_20 lk_M173 H (fun r2 H => ?_)
  refine lk_wp_seg (lo' := [.ref a0, .int x1, .int x2, .int (x2 - x1), .ref (h1.length)]) (st' := [.int (x2 - x1), .int (r2 - x1), .int 0, .ref (h1.length), .int x1, .ref a0]) lk_M173 lk_s173_21_3 rfl ?_
  refine lk_wp_min lk_i173_24 lk_M173 rfl rfl (Nat.le_of_ble_eq_true rfl) ?_
  refine lk_wp_ac lk_i173_27 lk_M173 rfl rfl (Nat.le_of_ble_eq_true rfl) H (fun h3 H => ?_)
  refine lk_wp_seg (lo' := [.ref a0, .int x1, .int x2, .int (x2 - x1), .ref (h1.length)]) (st' := [.ref (h1.length)]) lk_M173 lk_s173_30_1 rfl ?_
  exact lk_wp_ret lk_i173_32 lk_M173 rfl H
