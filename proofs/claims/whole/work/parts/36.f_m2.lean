/-! LonelyDotsModel.meet(IIII)I -/
theorem lk_M157 : lk_mt[157]? = some (yX12_meet, cX12_meet, 7, ((some FieldType.int))) := rfl
theorem lk_s157_0_4 : lk_seg 157 [(.iconst 0, 1, (0, [], .int (0))), (.istore 5, 2, (0, [], .null)), (.iconst 0, 1, (0, [], .int (0))), (.istore 6, 2, (0, [], .null))] 0 = some 6 := by decide +kernel
theorem lk_s157_6_2 : lk_seg 157 [(.iload 6, 2, (0, [], .null)), (.aload_n 0, 1, (0, [], .null))] 6 = some 9 := by decide +kernel
theorem lk_i157_9 : lk_ins 157 9 = some (.getfield 25, 3, (5, [(11, 0)], .null)) := lk_eqE_eq (by decide +kernel)
theorem lk_s157_12_1 : lk_seg 157 [(.iload_n 2, 1, (0, [], .null))] 12 = some 13 := by decide +kernel
theorem lk_i157_13 : lk_ins 157 13 = some (.iaload, 1, (0, [], .null)) := lk_eqE_eq (by decide +kernel)
theorem lk_i157_14 : lk_ins 157 14 = some (.if_icmp .ge 62, 3, (76, [], .null)) := lk_eqE_eq (by decide +kernel)
theorem lk_s157_76_1 : lk_seg 157 [(.iload 5, 2, (0, [], .null))] 76 = some 78 := by decide +kernel
theorem lk_i157_78 : lk_ins 157 78 = some (.ireturn, 1, (0, [], .null)) := lk_eqE_eq (by decide +kernel)
theorem lk_s157_17_7 : lk_seg 157 [(.iload 5, 2, (0, [], .null)), (.iload 6, 2, (0, [], .null)), (.iload_n 3, 1, (0, [], .null)), (.iadd, 1, (0, [], .null)), (.i2l, 1, (0, [], .null)), (.lconst 0, 1, (0, [], .long 0)), (.aload_n 0, 1, (0, [], .null))] 17 = some 26 := by decide +kernel
theorem lk_i157_26 : lk_ins 157 26 = some (.getfield 25, 3, (5, [(11, 0)], .null)) := lk_eqE_eq (by decide +kernel)
theorem lk_s157_29_1 : lk_seg 157 [(.iload_n 1, 1, (0, [], .null))] 29 = some 30 := by decide +kernel
theorem lk_i157_30 : lk_ins 157 30 = some (.iaload, 1, (0, [], .null)) := lk_eqE_eq (by decide +kernel)
theorem lk_s157_31_3 : lk_seg 157 [(.iconst 1, 1, (0, [], .int (1))), (.isub, 1, (0, [], .null)), (.i2l, 1, (0, [], .null))] 31 = some 34 := by decide +kernel
theorem lk_i157_34 : lk_ins 157 34 = some (.invokestatic 60, 3, (0, [(0, 112)], .ref 80)) := lk_eqE_eq (by decide +kernel)
theorem lk_i157_37 : lk_ins 157 37 = some (.ifCond .eq 29, 3, (66, [], .null)) := lk_eqE_eq (by decide +kernel)
theorem lk_s157_66_5 : lk_seg 157 [(.iconst 0, 1, (0, [], .int (0))), (.iadd, 1, (0, [], .null)), (.istore 5, 2, (0, [], .null)), (.iinc 6 1, 3, (0, [], .int (1))), (.goto (-67), 3, (6, [], .null))] 66 = some 6 := by decide +kernel
theorem lk_s157_40_5 : lk_seg 157 [(.aload_n 0, 1, (0, [], .null)), (.iload_n 1, 1, (0, [], .null)), (.iload 6, 2, (0, [], .null)), (.iload_n 3, 1, (0, [], .null)), (.iadd, 1, (0, [], .null))] 40 = some 46 := by decide +kernel
theorem lk_i157_46 : lk_ins 157 46 = some (.invokevirtual 80, 3, (1, [(11, 122)], .ref 84)) := lk_eqE_eq (by decide +kernel)
theorem lk_s157_49_3 : lk_seg 157 [(.aload_n 0, 1, (0, [], .null)), (.iload_n 2, 1, (0, [], .null)), (.iload 6, 2, (0, [], .null))] 49 = some 53 := by decide +kernel
theorem lk_i157_53 : lk_ins 157 53 = some (.invokevirtual 80, 3, (1, [(11, 122)], .ref 84)) := lk_eqE_eq (by decide +kernel)
theorem lk_s157_56_2 : lk_seg 157 [(.iload 4, 2, (0, [], .null)), (.iadd, 1, (0, [], .null))] 56 = some 59 := by decide +kernel
theorem lk_i157_59 : lk_ins 157 59 = some (.if_icmp .ne 7, 3, (66, [], .null)) := lk_eqE_eq (by decide +kernel)
theorem lk_s157_62_2 : lk_seg 157 [(.iconst 1, 1, (0, [], .int (1))), (.goto 4, 3, (67, [], .null))] 62 = some 67 := by decide +kernel
theorem lk_s157_67_4 : lk_seg 157 [(.iadd, 1, (0, [], .null)), (.istore 5, 2, (0, [], .null)), (.iinc 6 1, 3, (0, [], .int (1))), (.goto (-67), 3, (6, [], .null))] 67 = some 6 := by decide +kernel
set_option maxRecDepth 20000 in
theorem E_m_meet {X : lk_X} {d : Nat} {x1 x2 x3 x4 : Int32} {a0 : Nat} {h : lk_H} {Q : Option Value → lk_H → Prop} (H : lk_wp X (d + 1) 157 6 [.ref a0, .int x1, .int x2, .int x3, .int x4, .int 0, .int 0] [] h Q) : lk_wx X (d + 1) 157 [.ref a0, .int x1, .int x2, .int x3, .int x4] h Q := by
  refine lk_enter (lo := [.ref a0, .int x1, .int x2, .int x3, .int x4, .retAddr 0, .retAddr 0]) lk_M157 rfl (Nat.le_of_ble_eq_true rfl) ?_
  refine lk_wp_seg (lo' := [.ref a0, .int x1, .int x2, .int x3, .int x4, .int 0, .int 0]) (st' := []) lk_M157 lk_s157_0_4 rfl ?_
  exact H
set_option maxRecDepth 20000 in
theorem F_m_meet_6 {X : lk_X} {d : Nat} {x1 x2 x3 x4 x5 x6 : Int32} {a0 : Nat} {h : lk_H} {Q : Option Value → lk_H → Prop} (H : lk_fR h a0 5 [(11, 0)] (fun r1 => lk_ai h r1 x2 (fun r2 => (r2 ≤ x6 → Q (some (.int x5)) h) ∧ (¬ r2 ≤ x6 → lk_fR h a0 5 [(11, 0)] (fun r3 => lk_ai h r3 x1 (fun r4 => lk_wxi X d 112 [.long ((x6 + x3).toInt64), .long 0, .long ((r4 - 1).toInt64)] h (fun r6 h5 => (r6 = 0 → lk_wp X (d + 1) 157 6 [.ref a0, .int x1, .int x2, .int x3, .int x4, .int (x5 + 0), .int (x6 + 1)] [] h5 Q) ∧ (¬ r6 = 0 → lk_vc h5 a0 [(11, 122)] (fun k12 => lk_wxi X d k12 [.ref a0, .int x1, .int (x6 + x3)] h5 (fun r8 h7 => lk_vc h7 a0 [(11, 122)] (fun k11 => lk_wxi X d k11 [.ref a0, .int x2, .int x6] h7 (fun r10 h9 => (¬ r8 = (r10 + x4) → lk_wp X (d + 1) 157 6 [.ref a0, .int x1, .int x2, .int x3, .int x4, .int (x5 + 0), .int (x6 + 1)] [] h9 Q) ∧ (r8 = (r10 + x4) → lk_wp X (d + 1) 157 6 [.ref a0, .int x1, .int x2, .int x3, .int x4, .int (x5 + 1), .int (x6 + 1)] [] h9 Q))))))))))))) : lk_wp X (d + 1) 157 6 [.ref a0, .int x1, .int x2, .int x3, .int x4, .int x5, .int x6] [] h Q := by
  refine lk_wp_seg (lo' := [.ref a0, .int x1, .int x2, .int x3, .int x4, .int x5, .int x6]) (st' := [.ref a0, .int x6]) lk_M157 lk_s157_6_2 rfl ?_
  refine lk_wp_fR lk_i157_9 lk_M157 H (fun r1 H => ?_)
  refine lk_wp_seg (lo' := [.ref a0, .int x1, .int x2, .int x3, .int x4, .int x5, .int x6]) (st' := [.int x2, .ref r1, .int x6]) lk_M157 lk_s157_12_1 rfl ?_
  refine lk_wp_ai lk_i157_13 lk_M157 H (fun r2 H => ?_)
  refine lk_wp_ic_ge lk_i157_14 lk_M157 H (fun H => ?_) (fun H => ?_)
  · refine lk_wp_seg (lo' := [.ref a0, .int x1, .int x2, .int x3, .int x4, .int x5, .int x6]) (st' := [.int x5]) lk_M157 lk_s157_76_1 rfl ?_
    exact lk_wp_ret lk_i157_78 lk_M157 rfl H
  · refine lk_wp_seg (lo' := [.ref a0, .int x1, .int x2, .int x3, .int x4, .int x5, .int x6]) (st' := [.ref a0, .long 0, .long ((x6 + x3).toInt64), .int x5]) lk_M157 lk_s157_17_7 rfl ?_
    refine lk_wp_fR lk_i157_26 lk_M157 H (fun r3 H => ?_)
    refine lk_wp_seg (lo' := [.ref a0, .int x1, .int x2, .int x3, .int x4, .int x5, .int x6]) (st' := [.int x1, .ref r3, .long 0, .long ((x6 + x3).toInt64), .int x5]) lk_M157 lk_s157_29_1 rfl ?_
    refine lk_wp_ai lk_i157_30 lk_M157 H (fun r4 H => ?_)
    refine lk_wp_seg (lo' := [.ref a0, .int x1, .int x2, .int x3, .int x4, .int x5, .int x6]) (st' := [.long ((r4 - 1).toInt64), .long 0, .long ((x6 + x3).toInt64), .int x5]) lk_M157 lk_s157_31_3 rfl ?_
    refine lk_wp_cs (as := [.long ((x6 + x3).toInt64), .long 0, .long ((r4 - 1).toInt64)]) (r := [.int x5]) lk_i157_34 lk_M157 rfl rfl rfl rfl (Nat.le_of_ble_eq_true rfl) (lk_gi H (fun r6 h5 H => ?_))
    refine lk_wp_if_eq lk_i157_37 lk_M157 H (fun H => ?_) (fun H => ?_)
    · refine lk_wp_seg (lo' := [.ref a0, .int x1, .int x2, .int x3, .int x4, .int (x5 + 0), .int (x6 + 1)]) (st' := []) lk_M157 lk_s157_66_5 rfl ?_
      exact H
    · refine lk_wp_seg (lo' := [.ref a0, .int x1, .int x2, .int x3, .int x4, .int x5, .int x6]) (st' := [.int (x6 + x3), .int x1, .ref a0, .int x5]) lk_M157 lk_s157_40_5 rfl ?_
      refine lk_wp_cv (as := [.int x1, .int (x6 + x3)]) (r := [.int x5]) (a := a0) lk_i157_46 lk_M157 rfl rfl rfl (Nat.le_of_ble_eq_true rfl) H (fun k12 H => lk_gi H (fun r8 h7 H => ?_))
      refine lk_wp_seg (lo' := [.ref a0, .int x1, .int x2, .int x3, .int x4, .int x5, .int x6]) (st' := [.int x6, .int x2, .ref a0, .int r8, .int x5]) lk_M157 lk_s157_49_3 rfl ?_
      refine lk_wp_cv (as := [.int x2, .int x6]) (r := [.int r8, .int x5]) (a := a0) lk_i157_53 lk_M157 rfl rfl rfl (Nat.le_of_ble_eq_true rfl) H (fun k11 H => lk_gi H (fun r10 h9 H => ?_))
      refine lk_wp_seg (lo' := [.ref a0, .int x1, .int x2, .int x3, .int x4, .int x5, .int x6]) (st' := [.int (r10 + x4), .int r8, .int x5]) lk_M157 lk_s157_56_2 rfl ?_
      refine lk_wp_ic_ne lk_i157_59 lk_M157 H (fun H => ?_) (fun H => ?_)
      · refine lk_wp_seg (lo' := [.ref a0, .int x1, .int x2, .int x3, .int x4, .int (x5 + 0), .int (x6 + 1)]) (st' := []) lk_M157 lk_s157_66_5 rfl ?_
        exact H
      · refine lk_wp_seg (lo' := [.ref a0, .int x1, .int x2, .int x3, .int x4, .int x5, .int x6]) (st' := [.int 1, .int x5]) lk_M157 lk_s157_62_2 rfl ?_
        refine lk_wp_seg (lo' := [.ref a0, .int x1, .int x2, .int x3, .int x4, .int (x5 + 1), .int (x6 + 1)]) (st' := []) lk_M157 lk_s157_67_4 rfl ?_
        exact H
/-! LonelyDotsModel.isMove(I)Z -/
theorem lk_M158 : lk_mt[158]? = some (yX12_isMove, cX12_isMove, 1, ((some FieldType.boolean))) := rfl
theorem lk_s158_0_4 : lk_seg 158 [(.iload_n 0, 1, (0, [], .null)), (.i2l, 1, (0, [], .null)), (.ldc2_w 169, 3, (0, [], .long (-20))), (.ldc2_w 171, 3, (0, [], .long (20)))] 0 = some 8 := by decide +kernel
theorem lk_i158_8 : lk_ins 158 8 = some (.invokestatic 60, 3, (0, [(0, 112)], .ref 80)) := lk_eqE_eq (by decide +kernel)
theorem lk_i158_11 : lk_ins 158 11 = some (.ireturn, 1, (0, [], .null)) := lk_eqE_eq (by decide +kernel)
set_option maxRecDepth 20000 in
theorem E_m_isMove {X : lk_X} {d : Nat} {x0 : Int32} {h : lk_H} {Q : Option Value → lk_H → Prop} (H : lk_wxi X d 112 [.long (x0.toInt64), .long ((-20)), .long 20] h (fun r2 h1 => (r2 = 0 ∨ r2 = 1) ∧ Q (some (.int r2)) h1)) : lk_wx X (d + 1) 158 [.int x0] h Q := by
  refine lk_enter (lo := [.int x0]) lk_M158 rfl (Nat.le_of_ble_eq_true rfl) ?_
  refine lk_wp_seg (lo' := [.int x0]) (st' := [.long 20, .long ((-20)), .long (x0.toInt64)]) lk_M158 lk_s158_0_4 rfl ?_
  refine lk_wp_cs (as := [.long (x0.toInt64), .long ((-20)), .long 20]) (r := []) lk_i158_8 lk_M158 rfl rfl rfl rfl (Nat.le_of_ble_eq_true rfl) (lk_gi H (fun r2 h1 H => ?_))
  exact lk_wp_retz lk_i158_11 lk_M158 rfl H
/-! LonelyDotsModel.meeting(IIII)I -/
theorem lk_M159 : lk_mt[159]? = some (yX12_meeting, cX12_meeting, 6, ((some FieldType.int))) := rfl
theorem lk_s159_0_1 : lk_seg 159 [(.iload_n 1, 1, (0, [], .null))] 0 = some 1 := by decide +kernel
theorem lk_i159_1 : lk_ins 159 1 = some (.invokestatic 100, 3, (0, [(0, 120)], .ref 89)) := lk_eqE_eq (by decide +kernel)
theorem lk_i159_4 : lk_ins 159 4 = some (.ifCond .eq 25, 3, (29, [], .null)) := lk_eqE_eq (by decide +kernel)
theorem lk_s159_29_1 : lk_seg 159 [(.ldc 70, 2, (0, [], .int (-1000001)))] 29 = some 31 := by decide +kernel
theorem lk_i159_31 : lk_ins 159 31 = some (.ireturn, 1, (0, [], .null)) := lk_eqE_eq (by decide +kernel)
theorem lk_s159_7_1 : lk_seg 159 [(.iload_n 2, 1, (0, [], .null))] 7 = some 8 := by decide +kernel
theorem lk_i159_8 : lk_ins 159 8 = some (.invokestatic 100, 3, (0, [(0, 120)], .ref 89)) := lk_eqE_eq (by decide +kernel)
theorem lk_i159_11 : lk_ins 159 11 = some (.ifCond .eq 18, 3, (29, [], .null)) := lk_eqE_eq (by decide +kernel)
theorem lk_s159_14_1 : lk_seg 159 [(.iload_n 3, 1, (0, [], .null))] 14 = some 15 := by decide +kernel
theorem lk_i159_15 : lk_ins 159 15 = some (.invokestatic 173, 3, (0, [(0, 158)], .ref 105)) := lk_eqE_eq (by decide +kernel)
theorem lk_i159_18 : lk_ins 159 18 = some (.ifCond .eq 11, 3, (29, [], .null)) := lk_eqE_eq (by decide +kernel)
theorem lk_s159_21_1 : lk_seg 159 [(.iload 4, 2, (0, [], .null))] 21 = some 23 := by decide +kernel
theorem lk_i159_23 : lk_ins 159 23 = some (.invokestatic 173, 3, (0, [(0, 158)], .ref 105)) := lk_eqE_eq (by decide +kernel)
theorem lk_i159_26 : lk_ins 159 26 = some (.ifCond .ne 6, 3, (32, [], .null)) := lk_eqE_eq (by decide +kernel)
theorem lk_s159_32_3 : lk_seg 159 [(.aload_n 0, 1, (0, [], .null)), (.iload_n 1, 1, (0, [], .null)), (.iconst 1, 1, (0, [], .int (1)))] 32 = some 35 := by decide +kernel
theorem lk_i159_35 : lk_ins 159 35 = some (.invokevirtual 134, 3, (1, [(11, 136)], .ref 96)) := lk_eqE_eq (by decide +kernel)
theorem lk_s159_38_2 : lk_seg 159 [(.istore 5, 2, (0, [], .null)), (.iload 5, 2, (0, [], .null))] 38 = some 42 := by decide +kernel
theorem lk_i159_42 : lk_ins 159 42 = some (.ifCond .ne 12, 3, (54, [], .null)) := lk_eqE_eq (by decide +kernel)
theorem lk_s159_54_3 : lk_seg 159 [(.iload 5, 2, (0, [], .null)), (.istore 5, 2, (0, [], .null)), (.iload 5, 2, (0, [], .null))] 54 = some 60 := by decide +kernel
theorem lk_i159_60 : lk_ins 159 60 = some (.ifCond .eq 8, 3, (68, [], .null)) := lk_eqE_eq (by decide +kernel)
theorem lk_s159_68_6 : lk_seg 159 [(.aload_n 0, 1, (0, [], .null)), (.aload_n 0, 1, (0, [], .null)), (.iload_n 1, 1, (0, [], .null)), (.iload_n 2, 1, (0, [], .null)), (.iload_n 3, 1, (0, [], .null)), (.iload 4, 2, (0, [], .null))] 68 = some 75 := by decide +kernel
theorem lk_i159_75 : lk_ins 159 75 = some (.invokevirtual 176, 3, (1, [(11, 157)], .ref 106)) := lk_eqE_eq (by decide +kernel)
theorem lk_i159_78 : lk_ins 159 78 = some (.invokevirtual 75, 3, (1, [(11, 114)], .ref 83)) := lk_eqE_eq (by decide +kernel)
theorem lk_i159_81 : lk_ins 159 81 = some (.ireturn, 1, (0, [], .null)) := lk_eqE_eq (by decide +kernel)
theorem lk_s159_63_2 : lk_seg 159 [(.iload 5, 2, (0, [], .null)), (.goto 16, 3, (81, [], .null))] 63 = some 81 := by decide +kernel
theorem lk_s159_45_3 : lk_seg 159 [(.aload_n 0, 1, (0, [], .null)), (.iload_n 2, 1, (0, [], .null)), (.iconst 1, 1, (0, [], .int (1)))] 45 = some 48 := by decide +kernel
theorem lk_i159_48 : lk_ins 159 48 = some (.invokevirtual 134, 3, (1, [(11, 136)], .ref 96)) := lk_eqE_eq (by decide +kernel)
theorem lk_s159_51_1 : lk_seg 159 [(.goto 5, 3, (56, [], .null))] 51 = some 56 := by decide +kernel
theorem lk_s159_56_2 : lk_seg 159 [(.istore 5, 2, (0, [], .null)), (.iload 5, 2, (0, [], .null))] 56 = some 60 := by decide +kernel
set_option maxRecDepth 20000 in
theorem E_m_meeting {X : lk_X} {d : Nat} {x1 x2 x3 x4 : Int32} {a0 : Nat} {h : lk_H} {Q : Option Value → lk_H → Prop} (H : lk_wxi X d 120 [.int x1] h (fun r2 h1 => (r2 = 0 → Q (some (.int ((-1000001)))) h1) ∧ (¬ r2 = 0 → lk_wxi X d 120 [.int x2] h1 (fun r4 h3 => (r4 = 0 → Q (some (.int ((-1000001)))) h3) ∧ (¬ r4 = 0 → lk_wxi X d 158 [.int x3] h3 (fun r6 h5 => (r6 = 0 → Q (some (.int ((-1000001)))) h5) ∧ (¬ r6 = 0 → lk_wxi X d 158 [.int x4] h5 (fun r8 h7 => (¬ r8 = 0 → lk_vc h7 a0 [(11, 136)] (fun k26 => lk_wxi X d k26 [.ref a0, .int x1, .int 1] h7 (fun r10 h9 => (¬ r10 = 0 → (r10 = 0 → lk_vc h9 a0 [(11, 157)] (fun k16 => lk_wxi X d k16 [.ref a0, .int x1, .int x2, .int x3, .int x4] h9 (fun r12 h11 => lk_vc h11 a0 [(11, 114)] (fun k15 => lk_wxi X d k15 [.ref a0, .int r12] h11 (fun r14 h13 => Q (some (.int r14)) h13))))) ∧ (¬ r10 = 0 → Q (some (.int r10)) h9)) ∧ (r10 = 0 → lk_vc h9 a0 [(11, 136)] (fun k25 => lk_wxi X d k25 [.ref a0, .int x2, .int 1] h9 (fun r18 h17 => (r18 = 0 → lk_vc h17 a0 [(11, 157)] (fun k24 => lk_wxi X d k24 [.ref a0, .int x1, .int x2, .int x3, .int x4] h17 (fun r20 h19 => lk_vc h19 a0 [(11, 114)] (fun k23 => lk_wxi X d k23 [.ref a0, .int r20] h19 (fun r22 h21 => Q (some (.int r22)) h21))))) ∧ (¬ r18 = 0 → Q (some (.int r18)) h17))))))) ∧ (r8 = 0 → Q (some (.int ((-1000001)))) h7))))))))) : lk_wx X (d + 1) 159 [.ref a0, .int x1, .int x2, .int x3, .int x4] h Q := by
  refine lk_enter (lo := [.ref a0, .int x1, .int x2, .int x3, .int x4, .retAddr 0]) lk_M159 rfl (Nat.le_of_ble_eq_true rfl) ?_
  refine lk_wp_seg (lo' := [.ref a0, .int x1, .int x2, .int x3, .int x4, .retAddr 0]) (st' := [.int x1]) lk_M159 lk_s159_0_1 rfl ?_
  refine lk_wp_cs (as := [.int x1]) (r := []) lk_i159_1 lk_M159 rfl rfl rfl rfl (Nat.le_of_ble_eq_true rfl) (lk_gi H (fun r2 h1 H => ?_))
  refine lk_wp_if_eq lk_i159_4 lk_M159 H (fun H => ?_) (fun H => ?_)
  · refine lk_wp_seg (lo' := [.ref a0, .int x1, .int x2, .int x3, .int x4, .retAddr 0]) (st' := [.int ((-1000001))]) lk_M159 lk_s159_29_1 rfl ?_
    exact lk_wp_ret lk_i159_31 lk_M159 rfl H
  · refine lk_wp_seg (lo' := [.ref a0, .int x1, .int x2, .int x3, .int x4, .retAddr 0]) (st' := [.int x2]) lk_M159 lk_s159_7_1 rfl ?_
    refine lk_wp_cs (as := [.int x2]) (r := []) lk_i159_8 lk_M159 rfl rfl rfl rfl (Nat.le_of_ble_eq_true rfl) (lk_gi H (fun r4 h3 H => ?_))
    refine lk_wp_if_eq lk_i159_11 lk_M159 H (fun H => ?_) (fun H => ?_)
    · refine lk_wp_seg (lo' := [.ref a0, .int x1, .int x2, .int x3, .int x4, .retAddr 0]) (st' := [.int ((-1000001))]) lk_M159 lk_s159_29_1 rfl ?_
      exact lk_wp_ret lk_i159_31 lk_M159 rfl H
    · refine lk_wp_seg (lo' := [.ref a0, .int x1, .int x2, .int x3, .int x4, .retAddr 0]) (st' := [.int x3]) lk_M159 lk_s159_14_1 rfl ?_
      refine lk_wp_cs (as := [.int x3]) (r := []) lk_i159_15 lk_M159 rfl rfl rfl rfl (Nat.le_of_ble_eq_true rfl) (lk_gi H (fun r6 h5 H => ?_))
      refine lk_wp_if_eq lk_i159_18 lk_M159 H (fun H => ?_) (fun H => ?_)
      · refine lk_wp_seg (lo' := [.ref a0, .int x1, .int x2, .int x3, .int x4, .retAddr 0]) (st' := [.int ((-1000001))]) lk_M159 lk_s159_29_1 rfl ?_
        exact lk_wp_ret lk_i159_31 lk_M159 rfl H
      · refine lk_wp_seg (lo' := [.ref a0, .int x1, .int x2, .int x3, .int x4, .retAddr 0]) (st' := [.int x4]) lk_M159 lk_s159_21_1 rfl ?_
        refine lk_wp_cs (as := [.int x4]) (r := []) lk_i159_23 lk_M159 rfl rfl rfl rfl (Nat.le_of_ble_eq_true rfl) (lk_gi H (fun r8 h7 H => ?_))
        refine lk_wp_if_ne lk_i159_26 lk_M159 H (fun H => ?_) (fun H => ?_)
        · refine lk_wp_seg (lo' := [.ref a0, .int x1, .int x2, .int x3, .int x4, .retAddr 0]) (st' := [.int 1, .int x1, .ref a0]) lk_M159 lk_s159_32_3 rfl ?_
          refine lk_wp_cv (as := [.int x1, .int 1]) (r := []) (a := a0) lk_i159_35 lk_M159 rfl rfl rfl (Nat.le_of_ble_eq_true rfl) H (fun k26 H => lk_gi H (fun r10 h9 H => ?_))
          refine lk_wp_seg (lo' := [.ref a0, .int x1, .int x2, .int x3, .int x4, .int r10]) (st' := [.int r10]) lk_M159 lk_s159_38_2 rfl ?_
          refine lk_wp_if_ne lk_i159_42 lk_M159 H (fun H => ?_) (fun H => ?_)
          · refine lk_wp_seg (lo' := [.ref a0, .int x1, .int x2, .int x3, .int x4, .int r10]) (st' := [.int r10]) lk_M159 lk_s159_54_3 rfl ?_
            refine lk_wp_if_eq lk_i159_60 lk_M159 H (fun H => ?_) (fun H => ?_)
            · refine lk_wp_seg (lo' := [.ref a0, .int x1, .int x2, .int x3, .int x4, .int r10]) (st' := [.int x4, .int x3, .int x2, .int x1, .ref a0, .ref a0]) lk_M159 lk_s159_68_6 rfl ?_
              refine lk_wp_cv (as := [.int x1, .int x2, .int x3, .int x4]) (r := [.ref a0]) (a := a0) lk_i159_75 lk_M159 rfl rfl rfl (Nat.le_of_ble_eq_true rfl) H (fun k16 H => lk_gi H (fun r12 h11 H => ?_))
              refine lk_wp_cv (as := [.int r12]) (r := []) (a := a0) lk_i159_78 lk_M159 rfl rfl rfl (Nat.le_of_ble_eq_true rfl) H (fun k15 H => lk_gi H (fun r14 h13 H => ?_))
              exact lk_wp_ret lk_i159_81 lk_M159 rfl H
            · refine lk_wp_seg (lo' := [.ref a0, .int x1, .int x2, .int x3, .int x4, .int r10]) (st' := [.int r10]) lk_M159 lk_s159_63_2 rfl ?_
              exact lk_wp_ret lk_i159_81 lk_M159 rfl H
          · refine lk_wp_seg (lo' := [.ref a0, .int x1, .int x2, .int x3, .int x4, .int r10]) (st' := [.int 1, .int x2, .ref a0]) lk_M159 lk_s159_45_3 rfl ?_
            refine lk_wp_cv (as := [.int x2, .int 1]) (r := []) (a := a0) lk_i159_48 lk_M159 rfl rfl rfl (Nat.le_of_ble_eq_true rfl) H (fun k25 H => lk_gi H (fun r18 h17 H => ?_))
            refine lk_wp_seg (lo' := [.ref a0, .int x1, .int x2, .int x3, .int x4, .int r10]) (st' := [.int r18]) lk_M159 lk_s159_51_1 rfl ?_
            refine lk_wp_seg (lo' := [.ref a0, .int x1, .int x2, .int x3, .int x4, .int r18]) (st' := [.int r18]) lk_M159 lk_s159_56_2 rfl ?_
            refine lk_wp_if_eq lk_i159_60 lk_M159 H (fun H => ?_) (fun H => ?_)
            · refine lk_wp_seg (lo' := [.ref a0, .int x1, .int x2, .int x3, .int x4, .int r18]) (st' := [.int x4, .int x3, .int x2, .int x1, .ref a0, .ref a0]) lk_M159 lk_s159_68_6 rfl ?_
              refine lk_wp_cv (as := [.int x1, .int x2, .int x3, .int x4]) (r := [.ref a0]) (a := a0) lk_i159_75 lk_M159 rfl rfl rfl (Nat.le_of_ble_eq_true rfl) H (fun k24 H => lk_gi H (fun r20 h19 H => ?_))
              refine lk_wp_cv (as := [.int r20]) (r := []) (a := a0) lk_i159_78 lk_M159 rfl rfl rfl (Nat.le_of_ble_eq_true rfl) H (fun k23 H => lk_gi H (fun r22 h21 H => ?_))
              exact lk_wp_ret lk_i159_81 lk_M159 rfl H
            · refine lk_wp_seg (lo' := [.ref a0, .int x1, .int x2, .int x3, .int x4, .int r18]) (st' := [.int r18]) lk_M159 lk_s159_63_2 rfl ?_
              exact lk_wp_ret lk_i159_81 lk_M159 rfl H
        · refine lk_wp_seg (lo' := [.ref a0, .int x1, .int x2, .int x3, .int x4, .retAddr 0]) (st' := [.int ((-1000001))]) lk_M159 lk_s159_29_1 rfl ?_
          exact lk_wp_ret lk_i159_31 lk_M159 rfl H
/-! LonelyDotsModel.greatest(IIZ)I -/
theorem lk_M160 : lk_mt[160]? = some (yX12_greatest, cX12_greatest, 8, ((some FieldType.int))) := rfl
theorem lk_s160_0_4 : lk_seg 160 [(.iconst 0, 1, (0, [], .int (0))), (.istore 4, 2, (0, [], .null)), (.bipush (-16), 2, (0, [], .int (-16))), (.istore 5, 2, (0, [], .null))] 0 = some 7 := by decide +kernel
theorem lk_s160_7_2 : lk_seg 160 [(.iload 5, 2, (0, [], .null)), (.bipush 17, 2, (0, [], .int (17)))] 7 = some 11 := by decide +kernel
theorem lk_i160_11 : lk_ins 160 11 = some (.if_icmp .ge 72, 3, (83, [], .null)) := lk_eqE_eq (by decide +kernel)
theorem lk_s160_83_1 : lk_seg 160 [(.iload 4, 2, (0, [], .null))] 83 = some 85 := by decide +kernel
theorem lk_i160_85 : lk_ins 160 85 = some (.ireturn, 1, (0, [], .null)) := lk_eqE_eq (by decide +kernel)
theorem lk_s160_14_2 : lk_seg 160 [(.bipush (-16), 2, (0, [], .int (-16))), (.istore 6, 2, (0, [], .null))] 14 = some 18 := by decide +kernel
theorem lk_s160_18_2 : lk_seg 160 [(.iload 6, 2, (0, [], .null)), (.bipush 17, 2, (0, [], .int (17)))] 18 = some 22 := by decide +kernel
theorem lk_i160_22 : lk_ins 160 22 = some (.if_icmp .ge 55, 3, (77, [], .null)) := lk_eqE_eq (by decide +kernel)
theorem lk_s160_77_2 : lk_seg 160 [(.iinc 5 1, 3, (0, [], .int (1))), (.goto (-73), 3, (7, [], .null))] 77 = some 7 := by decide +kernel
theorem lk_s160_25_1 : lk_seg 160 [(.iload_n 3, 1, (0, [], .null))] 25 = some 26 := by decide +kernel
theorem lk_i160_26 : lk_ins 160 26 = some (.ifCond .eq 17, 3, (43, [], .null)) := lk_eqE_eq (by decide +kernel)
theorem lk_s160_43_5 : lk_seg 160 [(.aload_n 0, 1, (0, [], .null)), (.iload_n 1, 1, (0, [], .null)), (.iload_n 2, 1, (0, [], .null)), (.iload 5, 2, (0, [], .null)), (.iload 6, 2, (0, [], .null))] 43 = some 50 := by decide +kernel
theorem lk_i160_50 : lk_ins 160 50 = some (.invokevirtual 176, 3, (1, [(11, 157)], .ref 106)) := lk_eqE_eq (by decide +kernel)
theorem lk_s160_53_3 : lk_seg 160 [(.istore 7, 2, (0, [], .null)), (.iload 7, 2, (0, [], .null)), (.iload 4, 2, (0, [], .null))] 53 = some 59 := by decide +kernel
theorem lk_i160_59 : lk_ins 160 59 = some (.if_icmp .le 8, 3, (67, [], .null)) := lk_eqE_eq (by decide +kernel)
theorem lk_s160_67_4 : lk_seg 160 [(.iload 4, 2, (0, [], .null)), (.istore 4, 2, (0, [], .null)), (.iinc 6 1, 3, (0, [], .int (1))), (.goto (-56), 3, (18, [], .null))] 67 = some 18 := by decide +kernel
theorem lk_s160_62_2 : lk_seg 160 [(.iload 7, 2, (0, [], .null)), (.goto 5, 3, (69, [], .null))] 62 = some 69 := by decide +kernel
theorem lk_s160_69_3 : lk_seg 160 [(.istore 4, 2, (0, [], .null)), (.iinc 6 1, 3, (0, [], .int (1))), (.goto (-56), 3, (18, [], .null))] 69 = some 18 := by decide +kernel
theorem lk_s160_29_1 : lk_seg 160 [(.iload 5, 2, (0, [], .null))] 29 = some 31 := by decide +kernel
theorem lk_i160_31 : lk_ins 160 31 = some (.ifCond .ne 12, 3, (43, [], .null)) := lk_eqE_eq (by decide +kernel)
theorem lk_s160_34_1 : lk_seg 160 [(.iload 6, 2, (0, [], .null))] 34 = some 36 := by decide +kernel
theorem lk_i160_36 : lk_ins 160 36 = some (.ifCond .ne 7, 3, (43, [], .null)) := lk_eqE_eq (by decide +kernel)
theorem lk_s160_39_2 : lk_seg 160 [(.iconst 0, 1, (0, [], .int (0))), (.goto 13, 3, (53, [], .null))] 39 = some 53 := by decide +kernel
set_option maxRecDepth 20000 in
theorem E_m_greatest {X : lk_X} {d : Nat} {x1 x2 x3 : Int32} {a0 : Nat} {h : lk_H} {Q : Option Value → lk_H → Prop} (H : lk_wp X (d + 1) 160 7 [.ref a0, .int x1, .int x2, .int x3, .int 0, .int ((-16)), .retAddr 0, .retAddr 0] [] h Q) : lk_wx X (d + 1) 160 [.ref a0, .int x1, .int x2, .int x3] h Q := by
  refine lk_enter (lo := [.ref a0, .int x1, .int x2, .int x3, .retAddr 0, .retAddr 0, .retAddr 0, .retAddr 0]) lk_M160 rfl (Nat.le_of_ble_eq_true rfl) ?_
  refine lk_wp_seg (lo' := [.ref a0, .int x1, .int x2, .int x3, .int 0, .int ((-16)), .retAddr 0, .retAddr 0]) (st' := []) lk_M160 lk_s160_0_4 rfl ?_
  exact H
set_option maxRecDepth 20000 in
theorem F_m_greatest_7 {X : lk_X} {d : Nat} {x1 x2 x3 x4 x5 : Int32} {a0 : Nat} {h : lk_H} {Q : Option Value → lk_H → Prop} (H : (17 ≤ x5 → Q (some (.int x4)) h) ∧ (¬ 17 ≤ x5 → lk_wp X (d + 1) 160 18 [.ref a0, .int x1, .int x2, .int x3, .int x4, .int x5, .int ((-16)), .retAddr 0] [] h Q)) : lk_wp X (d + 1) 160 7 [.ref a0, .int x1, .int x2, .int x3, .int x4, .int x5, .retAddr 0, .retAddr 0] [] h Q := by
  refine lk_wp_seg (lo' := [.ref a0, .int x1, .int x2, .int x3, .int x4, .int x5, .retAddr 0, .retAddr 0]) (st' := [.int 17, .int x5]) lk_M160 lk_s160_7_2 rfl ?_
  refine lk_wp_ic_ge lk_i160_11 lk_M160 H (fun H => ?_) (fun H => ?_)
  · refine lk_wp_seg (lo' := [.ref a0, .int x1, .int x2, .int x3, .int x4, .int x5, .retAddr 0, .retAddr 0]) (st' := [.int x4]) lk_M160 lk_s160_83_1 rfl ?_
    exact lk_wp_ret lk_i160_85 lk_M160 rfl H
  · refine lk_wp_seg (lo' := [.ref a0, .int x1, .int x2, .int x3, .int x4, .int x5, .int ((-16)), .retAddr 0]) (st' := []) lk_M160 lk_s160_14_2 rfl ?_
    exact H
set_option maxRecDepth 20000 in
theorem F_m_greatest_18 {X : lk_X} {d : Nat} {x1 x2 x3 x4 x5 x6 : Int32} {a0 : Nat} {h : lk_H} {Q : Option Value → lk_H → Prop} (H : (17 ≤ x6 → lk_wp X (d + 1) 160 7 [.ref a0, .int x1, .int x2, .int x3, .int x4, .int (x5 + 1), .retAddr 0, .retAddr 0] [] h Q) ∧ (¬ 17 ≤ x6 → (x3 = 0 → lk_vc h a0 [(11, 157)] (fun k3 => lk_wxi X d k3 [.ref a0, .int x1, .int x2, .int x5, .int x6] h (fun r2 h1 => (r2 ≤ x4 → lk_wp X (d + 1) 160 18 [.ref a0, .int x1, .int x2, .int x3, .int x4, .int x5, .int (x6 + 1), .retAddr 0] [] h1 Q) ∧ (¬ r2 ≤ x4 → lk_wp X (d + 1) 160 18 [.ref a0, .int x1, .int x2, .int x3, .int r2, .int x5, .int (x6 + 1), .retAddr 0] [] h1 Q)))) ∧ (¬ x3 = 0 → (¬ x5 = 0 → lk_vc h a0 [(11, 157)] (fun k6 => lk_wxi X d k6 [.ref a0, .int x1, .int x2, .int x5, .int x6] h (fun r5 h4 => (r5 ≤ x4 → lk_wp X (d + 1) 160 18 [.ref a0, .int x1, .int x2, .int x3, .int x4, .int x5, .int (x6 + 1), .retAddr 0] [] h4 Q) ∧ (¬ r5 ≤ x4 → lk_wp X (d + 1) 160 18 [.ref a0, .int x1, .int x2, .int x3, .int r5, .int x5, .int (x6 + 1), .retAddr 0] [] h4 Q)))) ∧ (x5 = 0 → (¬ x6 = 0 → lk_vc h a0 [(11, 157)] (fun k9 => lk_wxi X d k9 [.ref a0, .int x1, .int x2, .int x5, .int x6] h (fun r8 h7 => (r8 ≤ x4 → lk_wp X (d + 1) 160 18 [.ref a0, .int x1, .int x2, .int x3, .int x4, .int x5, .int (x6 + 1), .retAddr 0] [] h7 Q) ∧ (¬ r8 ≤ x4 → lk_wp X (d + 1) 160 18 [.ref a0, .int x1, .int x2, .int x3, .int r8, .int x5, .int (x6 + 1), .retAddr 0] [] h7 Q)))) ∧ (x6 = 0 → (0 ≤ x4 → lk_wp X (d + 1) 160 18 [.ref a0, .int x1, .int x2, .int x3, .int x4, .int x5, .int (x6 + 1), .retAddr 0] [] h Q) ∧ (¬ 0 ≤ x4 → lk_wp X (d + 1) 160 18 [.ref a0, .int x1, .int x2, .int x3, .int 0, .int x5, .int (x6 + 1), .retAddr 0] [] h Q)))))) : lk_wp X (d + 1) 160 18 [.ref a0, .int x1, .int x2, .int x3, .int x4, .int x5, .int x6, .retAddr 0] [] h Q := by
  refine lk_wp_seg (lo' := [.ref a0, .int x1, .int x2, .int x3, .int x4, .int x5, .int x6, .retAddr 0]) (st' := [.int 17, .int x6]) lk_M160 lk_s160_18_2 rfl ?_
  refine lk_wp_ic_ge lk_i160_22 lk_M160 H (fun H => ?_) (fun H => ?_)
  · refine lk_wp_seg (lo' := [.ref a0, .int x1, .int x2, .int x3, .int x4, .int (x5 + 1), .int x6, .retAddr 0]) (st' := []) lk_M160 lk_s160_77_2 rfl ?_
    exact H.forget (lk_le_s (lk_le_s (lk_le_s (lk_le_s (lk_le_s (lk_le_s (lk_le_d (lk_le_s lk_le_n))))))))
  · refine lk_wp_seg (lo' := [.ref a0, .int x1, .int x2, .int x3, .int x4, .int x5, .int x6, .retAddr 0]) (st' := [.int x3]) lk_M160 lk_s160_25_1 rfl ?_
    refine lk_wp_if_eq lk_i160_26 lk_M160 H (fun H => ?_) (fun H => ?_)
    · refine lk_wp_seg (lo' := [.ref a0, .int x1, .int x2, .int x3, .int x4, .int x5, .int x6, .retAddr 0]) (st' := [.int x6, .int x5, .int x2, .int x1, .ref a0]) lk_M160 lk_s160_43_5 rfl ?_
      refine lk_wp_cv (as := [.int x1, .int x2, .int x5, .int x6]) (r := []) (a := a0) lk_i160_50 lk_M160 rfl rfl rfl (Nat.le_of_ble_eq_true rfl) H (fun k3 H => lk_gi H (fun r2 h1 H => ?_))
      refine lk_wp_seg (lo' := [.ref a0, .int x1, .int x2, .int x3, .int x4, .int x5, .int x6, .int r2]) (st' := [.int x4, .int r2]) lk_M160 lk_s160_53_3 rfl ?_
      refine lk_wp_ic_le lk_i160_59 lk_M160 H (fun H => ?_) (fun H => ?_)
      · refine lk_wp_seg (lo' := [.ref a0, .int x1, .int x2, .int x3, .int x4, .int x5, .int (x6 + 1), .int r2]) (st' := []) lk_M160 lk_s160_67_4 rfl ?_
        exact H.forget (lk_le_s (lk_le_s (lk_le_s (lk_le_s (lk_le_s (lk_le_s (lk_le_s (lk_le_d lk_le_n))))))))
      · refine lk_wp_seg (lo' := [.ref a0, .int x1, .int x2, .int x3, .int x4, .int x5, .int x6, .int r2]) (st' := [.int r2]) lk_M160 lk_s160_62_2 rfl ?_
        refine lk_wp_seg (lo' := [.ref a0, .int x1, .int x2, .int x3, .int r2, .int x5, .int (x6 + 1), .int r2]) (st' := []) lk_M160 lk_s160_69_3 rfl ?_
        exact H.forget (lk_le_s (lk_le_s (lk_le_s (lk_le_s (lk_le_s (lk_le_s (lk_le_s (lk_le_d lk_le_n))))))))
    · refine lk_wp_seg (lo' := [.ref a0, .int x1, .int x2, .int x3, .int x4, .int x5, .int x6, .retAddr 0]) (st' := [.int x5]) lk_M160 lk_s160_29_1 rfl ?_
      refine lk_wp_if_ne lk_i160_31 lk_M160 H (fun H => ?_) (fun H => ?_)
      · refine lk_wp_seg (lo' := [.ref a0, .int x1, .int x2, .int x3, .int x4, .int x5, .int x6, .retAddr 0]) (st' := [.int x6, .int x5, .int x2, .int x1, .ref a0]) lk_M160 lk_s160_43_5 rfl ?_
        refine lk_wp_cv (as := [.int x1, .int x2, .int x5, .int x6]) (r := []) (a := a0) lk_i160_50 lk_M160 rfl rfl rfl (Nat.le_of_ble_eq_true rfl) H (fun k6 H => lk_gi H (fun r5 h4 H => ?_))
        refine lk_wp_seg (lo' := [.ref a0, .int x1, .int x2, .int x3, .int x4, .int x5, .int x6, .int r5]) (st' := [.int x4, .int r5]) lk_M160 lk_s160_53_3 rfl ?_
        refine lk_wp_ic_le lk_i160_59 lk_M160 H (fun H => ?_) (fun H => ?_)
        · refine lk_wp_seg (lo' := [.ref a0, .int x1, .int x2, .int x3, .int x4, .int x5, .int (x6 + 1), .int r5]) (st' := []) lk_M160 lk_s160_67_4 rfl ?_
          exact H.forget (lk_le_s (lk_le_s (lk_le_s (lk_le_s (lk_le_s (lk_le_s (lk_le_s (lk_le_d lk_le_n))))))))
        · refine lk_wp_seg (lo' := [.ref a0, .int x1, .int x2, .int x3, .int x4, .int x5, .int x6, .int r5]) (st' := [.int r5]) lk_M160 lk_s160_62_2 rfl ?_
          refine lk_wp_seg (lo' := [.ref a0, .int x1, .int x2, .int x3, .int r5, .int x5, .int (x6 + 1), .int r5]) (st' := []) lk_M160 lk_s160_69_3 rfl ?_
          exact H.forget (lk_le_s (lk_le_s (lk_le_s (lk_le_s (lk_le_s (lk_le_s (lk_le_s (lk_le_d lk_le_n))))))))
      · refine lk_wp_seg (lo' := [.ref a0, .int x1, .int x2, .int x3, .int x4, .int x5, .int x6, .retAddr 0]) (st' := [.int x6]) lk_M160 lk_s160_34_1 rfl ?_
        refine lk_wp_if_ne lk_i160_36 lk_M160 H (fun H => ?_) (fun H => ?_)
        · refine lk_wp_seg (lo' := [.ref a0, .int x1, .int x2, .int x3, .int x4, .int x5, .int x6, .retAddr 0]) (st' := [.int x6, .int x5, .int x2, .int x1, .ref a0]) lk_M160 lk_s160_43_5 rfl ?_
          refine lk_wp_cv (as := [.int x1, .int x2, .int x5, .int x6]) (r := []) (a := a0) lk_i160_50 lk_M160 rfl rfl rfl (Nat.le_of_ble_eq_true rfl) H (fun k9 H => lk_gi H (fun r8 h7 H => ?_))
          refine lk_wp_seg (lo' := [.ref a0, .int x1, .int x2, .int x3, .int x4, .int x5, .int x6, .int r8]) (st' := [.int x4, .int r8]) lk_M160 lk_s160_53_3 rfl ?_
          refine lk_wp_ic_le lk_i160_59 lk_M160 H (fun H => ?_) (fun H => ?_)
          · refine lk_wp_seg (lo' := [.ref a0, .int x1, .int x2, .int x3, .int x4, .int x5, .int (x6 + 1), .int r8]) (st' := []) lk_M160 lk_s160_67_4 rfl ?_
            exact H.forget (lk_le_s (lk_le_s (lk_le_s (lk_le_s (lk_le_s (lk_le_s (lk_le_s (lk_le_d lk_le_n))))))))
          · refine lk_wp_seg (lo' := [.ref a0, .int x1, .int x2, .int x3, .int x4, .int x5, .int x6, .int r8]) (st' := [.int r8]) lk_M160 lk_s160_62_2 rfl ?_
            refine lk_wp_seg (lo' := [.ref a0, .int x1, .int x2, .int x3, .int r8, .int x5, .int (x6 + 1), .int r8]) (st' := []) lk_M160 lk_s160_69_3 rfl ?_
            exact H.forget (lk_le_s (lk_le_s (lk_le_s (lk_le_s (lk_le_s (lk_le_s (lk_le_s (lk_le_d lk_le_n))))))))
        · refine lk_wp_seg (lo' := [.ref a0, .int x1, .int x2, .int x3, .int x4, .int x5, .int x6, .retAddr 0]) (st' := [.int 0]) lk_M160 lk_s160_39_2 rfl ?_
          refine lk_wp_seg (lo' := [.ref a0, .int x1, .int x2, .int x3, .int x4, .int x5, .int x6, .int 0]) (st' := [.int x4, .int 0]) lk_M160 lk_s160_53_3 rfl ?_
          refine lk_wp_ic_le lk_i160_59 lk_M160 H (fun H => ?_) (fun H => ?_)
          · refine lk_wp_seg (lo' := [.ref a0, .int x1, .int x2, .int x3, .int x4, .int x5, .int (x6 + 1), .int 0]) (st' := []) lk_M160 lk_s160_67_4 rfl ?_
            exact H.forget (lk_le_s (lk_le_s (lk_le_s (lk_le_s (lk_le_s (lk_le_s (lk_le_s (lk_le_d lk_le_n))))))))
          · refine lk_wp_seg (lo' := [.ref a0, .int x1, .int x2, .int x3, .int x4, .int x5, .int x6, .int 0]) (st' := [.int 0]) lk_M160 lk_s160_62_2 rfl ?_
            refine lk_wp_seg (lo' := [.ref a0, .int x1, .int x2, .int x3, .int 0, .int x5, .int (x6 + 1), .int 0]) (st' := []) lk_M160 lk_s160_69_3 rfl ?_
            exact H.forget (lk_le_s (lk_le_s (lk_le_s (lk_le_s (lk_le_s (lk_le_s (lk_le_s (lk_le_d lk_le_n))))))))
/-! LonelyDotsModel.most(I)I -/
theorem lk_M161 : lk_mt[161]? = some (yX12_most, cX12_most, 3, ((some FieldType.int))) := rfl
theorem lk_s161_0_1 : lk_seg 161 [(.iload_n 1, 1, (0, [], .null))] 0 = some 1 := by decide +kernel
theorem lk_i161_1 : lk_ins 161 1 = some (.invokestatic 100, 3, (0, [(0, 120)], .ref 89)) := lk_eqE_eq (by decide +kernel)
theorem lk_i161_4 : lk_ins 161 4 = some (.ifCond .ne 6, 3, (10, [], .null)) := lk_eqE_eq (by decide +kernel)
theorem lk_s161_10_3 : lk_seg 161 [(.aload_n 0, 1, (0, [], .null)), (.iload_n 1, 1, (0, [], .null)), (.iconst 1, 1, (0, [], .int (1)))] 10 = some 13 := by decide +kernel
theorem lk_i161_13 : lk_ins 161 13 = some (.invokevirtual 134, 3, (1, [(11, 136)], .ref 96)) := lk_eqE_eq (by decide +kernel)
theorem lk_s161_16_2 : lk_seg 161 [(.istore_n 2, 1, (0, [], .null)), (.iload_n 2, 1, (0, [], .null))] 16 = some 18 := by decide +kernel
theorem lk_i161_18 : lk_ins 161 18 = some (.ifCond .eq 7, 3, (25, [], .null)) := lk_eqE_eq (by decide +kernel)
theorem lk_s161_25_5 : lk_seg 161 [(.aload_n 0, 1, (0, [], .null)), (.aload_n 0, 1, (0, [], .null)), (.iload_n 1, 1, (0, [], .null)), (.iload_n 1, 1, (0, [], .null)), (.iconst 1, 1, (0, [], .int (1)))] 25 = some 30 := by decide +kernel
theorem lk_i161_30 : lk_ins 161 30 = some (.invokevirtual 180, 3, (1, [(11, 160)], .ref 107)) := lk_eqE_eq (by decide +kernel)
theorem lk_i161_33 : lk_ins 161 33 = some (.invokevirtual 75, 3, (1, [(11, 114)], .ref 83)) := lk_eqE_eq (by decide +kernel)
theorem lk_i161_36 : lk_ins 161 36 = some (.ireturn, 1, (0, [], .null)) := lk_eqE_eq (by decide +kernel)
theorem lk_s161_21_2 : lk_seg 161 [(.iload_n 2, 1, (0, [], .null)), (.goto 14, 3, (36, [], .null))] 21 = some 36 := by decide +kernel
theorem lk_s161_7_1 : lk_seg 161 [(.ldc 70, 2, (0, [], .int (-1000001)))] 7 = some 9 := by decide +kernel
theorem lk_i161_9 : lk_ins 161 9 = some (.ireturn, 1, (0, [], .null)) := lk_eqE_eq (by decide +kernel)
set_option maxRecDepth 20000 in
theorem E_m_most {X : lk_X} {d : Nat} {x1 : Int32} {a0 : Nat} {h : lk_H} {Q : Option Value → lk_H → Prop} (H : lk_wxi X d 120 [.int x1] h (fun r2 h1 => (¬ r2 = 0 → lk_vc h1 a0 [(11, 136)] (fun k11 => lk_wxi X d k11 [.ref a0, .int x1, .int 1] h1 (fun r4 h3 => (r4 = 0 → lk_vc h3 a0 [(11, 160)] (fun k10 => lk_wxi X d k10 [.ref a0, .int x1, .int x1, .int 1] h3 (fun r6 h5 => lk_vc h5 a0 [(11, 114)] (fun k9 => lk_wxi X d k9 [.ref a0, .int r6] h5 (fun r8 h7 => Q (some (.int r8)) h7))))) ∧ (¬ r4 = 0 → Q (some (.int r4)) h3)))) ∧ (r2 = 0 → Q (some (.int ((-1000001)))) h1))) : lk_wx X (d + 1) 161 [.ref a0, .int x1] h Q := by
  refine lk_enter (lo := [.ref a0, .int x1, .retAddr 0]) lk_M161 rfl (Nat.le_of_ble_eq_true rfl) ?_
  refine lk_wp_seg (lo' := [.ref a0, .int x1, .retAddr 0]) (st' := [.int x1]) lk_M161 lk_s161_0_1 rfl ?_
  refine lk_wp_cs (as := [.int x1]) (r := []) lk_i161_1 lk_M161 rfl rfl rfl rfl (Nat.le_of_ble_eq_true rfl) (lk_gi H (fun r2 h1 H => ?_))
  refine lk_wp_if_ne lk_i161_4 lk_M161 H (fun H => ?_) (fun H => ?_)
  · refine lk_wp_seg (lo' := [.ref a0, .int x1, .retAddr 0]) (st' := [.int 1, .int x1, .ref a0]) lk_M161 lk_s161_10_3 rfl ?_
    refine lk_wp_cv (as := [.int x1, .int 1]) (r := []) (a := a0) lk_i161_13 lk_M161 rfl rfl rfl (Nat.le_of_ble_eq_true rfl) H (fun k11 H => lk_gi H (fun r4 h3 H => ?_))
    refine lk_wp_seg (lo' := [.ref a0, .int x1, .int r4]) (st' := [.int r4]) lk_M161 lk_s161_16_2 rfl ?_
    refine lk_wp_if_eq lk_i161_18 lk_M161 H (fun H => ?_) (fun H => ?_)
    · refine lk_wp_seg (lo' := [.ref a0, .int x1, .int r4]) (st' := [.int 1, .int x1, .int x1, .ref a0, .ref a0]) lk_M161 lk_s161_25_5 rfl ?_
      refine lk_wp_cv (as := [.int x1, .int x1, .int 1]) (r := [.ref a0]) (a := a0) lk_i161_30 lk_M161 rfl rfl rfl (Nat.le_of_ble_eq_true rfl) H (fun k10 H => lk_gi H (fun r6 h5 H => ?_))
      refine lk_wp_cv (as := [.int r6]) (r := []) (a := a0) lk_i161_33 lk_M161 rfl rfl rfl (Nat.le_of_ble_eq_true rfl) H (fun k9 H => lk_gi H (fun r8 h7 H => ?_))
      exact lk_wp_ret lk_i161_36 lk_M161 rfl H
    · refine lk_wp_seg (lo' := [.ref a0, .int x1, .int r4]) (st' := [.int r4]) lk_M161 lk_s161_21_2 rfl ?_
      exact lk_wp_ret lk_i161_36 lk_M161 rfl H
  · refine lk_wp_seg (lo' := [.ref a0, .int x1, .retAddr 0]) (st' := [.int ((-1000001))]) lk_M161 lk_s161_7_1 rfl ?_
    exact lk_wp_ret lk_i161_9 lk_M161 rfl H
/-! LonelyDotsModel.together(II)I -/
theorem lk_M162 : lk_mt[162]? = some (yX12_together, cX12_together, 4, ((some FieldType.int))) := rfl
theorem lk_s162_0_1 : lk_seg 162 [(.iload_n 1, 1, (0, [], .null))] 0 = some 1 := by decide +kernel
theorem lk_i162_1 : lk_ins 162 1 = some (.invokestatic 100, 3, (0, [(0, 120)], .ref 89)) := lk_eqE_eq (by decide +kernel)
theorem lk_i162_4 : lk_ins 162 4 = some (.ifCond .eq 10, 3, (14, [], .null)) := lk_eqE_eq (by decide +kernel)
theorem lk_s162_14_1 : lk_seg 162 [(.ldc 70, 2, (0, [], .int (-1000001)))] 14 = some 16 := by decide +kernel
theorem lk_i162_16 : lk_ins 162 16 = some (.ireturn, 1, (0, [], .null)) := lk_eqE_eq (by decide +kernel)
theorem lk_s162_7_1 : lk_seg 162 [(.iload_n 2, 1, (0, [], .null))] 7 = some 8 := by decide +kernel
theorem lk_i162_8 : lk_ins 162 8 = some (.invokestatic 100, 3, (0, [(0, 120)], .ref 89)) := lk_eqE_eq (by decide +kernel)
theorem lk_i162_11 : lk_ins 162 11 = some (.ifCond .ne 6, 3, (17, [], .null)) := lk_eqE_eq (by decide +kernel)
theorem lk_s162_17_3 : lk_seg 162 [(.aload_n 0, 1, (0, [], .null)), (.iload_n 1, 1, (0, [], .null)), (.iconst 1, 1, (0, [], .int (1)))] 17 = some 20 := by decide +kernel
theorem lk_i162_20 : lk_ins 162 20 = some (.invokevirtual 134, 3, (1, [(11, 136)], .ref 96)) := lk_eqE_eq (by decide +kernel)
theorem lk_s162_23_2 : lk_seg 162 [(.istore_n 3, 1, (0, [], .null)), (.iload_n 3, 1, (0, [], .null))] 23 = some 25 := by decide +kernel
theorem lk_i162_25 : lk_ins 162 25 = some (.ifCond .ne 12, 3, (37, [], .null)) := lk_eqE_eq (by decide +kernel)
theorem lk_s162_37_3 : lk_seg 162 [(.iload_n 3, 1, (0, [], .null)), (.istore_n 3, 1, (0, [], .null)), (.iload_n 3, 1, (0, [], .null))] 37 = some 40 := by decide +kernel
theorem lk_i162_40 : lk_ins 162 40 = some (.ifCond .eq 7, 3, (47, [], .null)) := lk_eqE_eq (by decide +kernel)
theorem lk_s162_47_5 : lk_seg 162 [(.aload_n 0, 1, (0, [], .null)), (.aload_n 0, 1, (0, [], .null)), (.iload_n 1, 1, (0, [], .null)), (.iload_n 2, 1, (0, [], .null)), (.iconst 0, 1, (0, [], .int (0)))] 47 = some 52 := by decide +kernel
theorem lk_i162_52 : lk_ins 162 52 = some (.invokevirtual 180, 3, (1, [(11, 160)], .ref 107)) := lk_eqE_eq (by decide +kernel)
theorem lk_i162_55 : lk_ins 162 55 = some (.invokevirtual 75, 3, (1, [(11, 114)], .ref 83)) := lk_eqE_eq (by decide +kernel)
theorem lk_i162_58 : lk_ins 162 58 = some (.ireturn, 1, (0, [], .null)) := lk_eqE_eq (by decide +kernel)
theorem lk_s162_43_2 : lk_seg 162 [(.iload_n 3, 1, (0, [], .null)), (.goto 14, 3, (58, [], .null))] 43 = some 58 := by decide +kernel
theorem lk_s162_28_3 : lk_seg 162 [(.aload_n 0, 1, (0, [], .null)), (.iload_n 2, 1, (0, [], .null)), (.iconst 1, 1, (0, [], .int (1)))] 28 = some 31 := by decide +kernel
theorem lk_i162_31 : lk_ins 162 31 = some (.invokevirtual 134, 3, (1, [(11, 136)], .ref 96)) := lk_eqE_eq (by decide +kernel)
theorem lk_s162_34_1 : lk_seg 162 [(.goto 4, 3, (38, [], .null))] 34 = some 38 := by decide +kernel
theorem lk_s162_38_2 : lk_seg 162 [(.istore_n 3, 1, (0, [], .null)), (.iload_n 3, 1, (0, [], .null))] 38 = some 40 := by decide +kernel
set_option maxRecDepth 20000 in
theorem E_m_together {X : lk_X} {d : Nat} {x1 x2 : Int32} {a0 : Nat} {h : lk_H} {Q : Option Value → lk_H → Prop} (H : lk_wxi X d 120 [.int x1] h (fun r2 h1 => (r2 = 0 → Q (some (.int ((-1000001)))) h1) ∧ (¬ r2 = 0 → lk_wxi X d 120 [.int x2] h1 (fun r4 h3 => (¬ r4 = 0 → lk_vc h3 a0 [(11, 136)] (fun k22 => lk_wxi X d k22 [.ref a0, .int x1, .int 1] h3 (fun r6 h5 => (¬ r6 = 0 → (r6 = 0 → lk_vc h5 a0 [(11, 160)] (fun k12 => lk_wxi X d k12 [.ref a0, .int x1, .int x2, .int 0] h5 (fun r8 h7 => lk_vc h7 a0 [(11, 114)] (fun k11 => lk_wxi X d k11 [.ref a0, .int r8] h7 (fun r10 h9 => Q (some (.int r10)) h9))))) ∧ (¬ r6 = 0 → Q (some (.int r6)) h5)) ∧ (r6 = 0 → lk_vc h5 a0 [(11, 136)] (fun k21 => lk_wxi X d k21 [.ref a0, .int x2, .int 1] h5 (fun r14 h13 => (r14 = 0 → lk_vc h13 a0 [(11, 160)] (fun k20 => lk_wxi X d k20 [.ref a0, .int x1, .int x2, .int 0] h13 (fun r16 h15 => lk_vc h15 a0 [(11, 114)] (fun k19 => lk_wxi X d k19 [.ref a0, .int r16] h15 (fun r18 h17 => Q (some (.int r18)) h17))))) ∧ (¬ r14 = 0 → Q (some (.int r14)) h13))))))) ∧ (r4 = 0 → Q (some (.int ((-1000001)))) h3))))) : lk_wx X (d + 1) 162 [.ref a0, .int x1, .int x2] h Q := by
  refine lk_enter (lo := [.ref a0, .int x1, .int x2, .retAddr 0]) lk_M162 rfl (Nat.le_of_ble_eq_true rfl) ?_
  refine lk_wp_seg (lo' := [.ref a0, .int x1, .int x2, .retAddr 0]) (st' := [.int x1]) lk_M162 lk_s162_0_1 rfl ?_
  refine lk_wp_cs (as := [.int x1]) (r := []) lk_i162_1 lk_M162 rfl rfl rfl rfl (Nat.le_of_ble_eq_true rfl) (lk_gi H (fun r2 h1 H => ?_))
  refine lk_wp_if_eq lk_i162_4 lk_M162 H (fun H => ?_) (fun H => ?_)
  · refine lk_wp_seg (lo' := [.ref a0, .int x1, .int x2, .retAddr 0]) (st' := [.int ((-1000001))]) lk_M162 lk_s162_14_1 rfl ?_
    exact lk_wp_ret lk_i162_16 lk_M162 rfl H
  · refine lk_wp_seg (lo' := [.ref a0, .int x1, .int x2, .retAddr 0]) (st' := [.int x2]) lk_M162 lk_s162_7_1 rfl ?_
    refine lk_wp_cs (as := [.int x2]) (r := []) lk_i162_8 lk_M162 rfl rfl rfl rfl (Nat.le_of_ble_eq_true rfl) (lk_gi H (fun r4 h3 H => ?_))
    refine lk_wp_if_ne lk_i162_11 lk_M162 H (fun H => ?_) (fun H => ?_)
    · refine lk_wp_seg (lo' := [.ref a0, .int x1, .int x2, .retAddr 0]) (st' := [.int 1, .int x1, .ref a0]) lk_M162 lk_s162_17_3 rfl ?_
      refine lk_wp_cv (as := [.int x1, .int 1]) (r := []) (a := a0) lk_i162_20 lk_M162 rfl rfl rfl (Nat.le_of_ble_eq_true rfl) H (fun k22 H => lk_gi H (fun r6 h5 H => ?_))
      refine lk_wp_seg (lo' := [.ref a0, .int x1, .int x2, .int r6]) (st' := [.int r6]) lk_M162 lk_s162_23_2 rfl ?_
      refine lk_wp_if_ne lk_i162_25 lk_M162 H (fun H => ?_) (fun H => ?_)
      · refine lk_wp_seg (lo' := [.ref a0, .int x1, .int x2, .int r6]) (st' := [.int r6]) lk_M162 lk_s162_37_3 rfl ?_
        refine lk_wp_if_eq lk_i162_40 lk_M162 H (fun H => ?_) (fun H => ?_)
        · refine lk_wp_seg (lo' := [.ref a0, .int x1, .int x2, .int r6]) (st' := [.int 0, .int x2, .int x1, .ref a0, .ref a0]) lk_M162 lk_s162_47_5 rfl ?_
          refine lk_wp_cv (as := [.int x1, .int x2, .int 0]) (r := [.ref a0]) (a := a0) lk_i162_52 lk_M162 rfl rfl rfl (Nat.le_of_ble_eq_true rfl) H (fun k12 H => lk_gi H (fun r8 h7 H => ?_))
          refine lk_wp_cv (as := [.int r8]) (r := []) (a := a0) lk_i162_55 lk_M162 rfl rfl rfl (Nat.le_of_ble_eq_true rfl) H (fun k11 H => lk_gi H (fun r10 h9 H => ?_))
          exact lk_wp_ret lk_i162_58 lk_M162 rfl H
        · refine lk_wp_seg (lo' := [.ref a0, .int x1, .int x2, .int r6]) (st' := [.int r6]) lk_M162 lk_s162_43_2 rfl ?_
          exact lk_wp_ret lk_i162_58 lk_M162 rfl H
      · refine lk_wp_seg (lo' := [.ref a0, .int x1, .int x2, .int r6]) (st' := [.int 1, .int x2, .ref a0]) lk_M162 lk_s162_28_3 rfl ?_
        refine lk_wp_cv (as := [.int x2, .int 1]) (r := []) (a := a0) lk_i162_31 lk_M162 rfl rfl rfl (Nat.le_of_ble_eq_true rfl) H (fun k21 H => lk_gi H (fun r14 h13 H => ?_))
        refine lk_wp_seg (lo' := [.ref a0, .int x1, .int x2, .int r6]) (st' := [.int r14]) lk_M162 lk_s162_34_1 rfl ?_
        refine lk_wp_seg (lo' := [.ref a0, .int x1, .int x2, .int r14]) (st' := [.int r14]) lk_M162 lk_s162_38_2 rfl ?_
        refine lk_wp_if_eq lk_i162_40 lk_M162 H (fun H => ?_) (fun H => ?_)
        · refine lk_wp_seg (lo' := [.ref a0, .int x1, .int x2, .int r14]) (st' := [.int 0, .int x2, .int x1, .ref a0, .ref a0]) lk_M162 lk_s162_47_5 rfl ?_
          refine lk_wp_cv (as := [.int x1, .int x2, .int 0]) (r := [.ref a0]) (a := a0) lk_i162_52 lk_M162 rfl rfl rfl (Nat.le_of_ble_eq_true rfl) H (fun k20 H => lk_gi H (fun r16 h15 H => ?_))
          refine lk_wp_cv (as := [.int r16]) (r := []) (a := a0) lk_i162_55 lk_M162 rfl rfl rfl (Nat.le_of_ble_eq_true rfl) H (fun k19 H => lk_gi H (fun r18 h17 H => ?_))
          exact lk_wp_ret lk_i162_58 lk_M162 rfl H
        · refine lk_wp_seg (lo' := [.ref a0, .int x1, .int x2, .int r14]) (st' := [.int r14]) lk_M162 lk_s162_43_2 rfl ?_
          exact lk_wp_ret lk_i162_58 lk_M162 rfl H
    · refine lk_wp_seg (lo' := [.ref a0, .int x1, .int x2, .retAddr 0]) (st' := [.int ((-1000001))]) lk_M162 lk_s162_14_1 rfl ?_
      exact lk_wp_ret lk_i162_16 lk_M162 rfl H
/-! LonelyDotsModel.echo(IIIII)I -/
theorem lk_M163 : lk_mt[163]? = some (yX12_echo, cX12_echo, 18, ((some FieldType.int))) := rfl
theorem lk_s163_0_1 : lk_seg 163 [(.iload_n 1, 1, (0, [], .null))] 0 = some 1 := by decide +kernel
theorem lk_i163_1 : lk_ins 163 1 = some (.invokestatic 100, 3, (0, [(0, 120)], .ref 89)) := lk_eqE_eq (by decide +kernel)
theorem lk_i163_4 : lk_ins 163 4 = some (.ifCond .eq 36, 3, (40, [], .null)) := lk_eqE_eq (by decide +kernel)
theorem lk_s163_40_1 : lk_seg 163 [(.ldc 70, 2, (0, [], .int (-1000001)))] 40 = some 42 := by decide +kernel
theorem lk_i163_42 : lk_ins 163 42 = some (.ireturn, 1, (0, [], .null)) := lk_eqE_eq (by decide +kernel)
theorem lk_s163_7_1 : lk_seg 163 [(.iload_n 2, 1, (0, [], .null))] 7 = some 8 := by decide +kernel
theorem lk_i163_8 : lk_ins 163 8 = some (.invokestatic 64, 3, (0, [(0, 115)], .ref 81)) := lk_eqE_eq (by decide +kernel)
theorem lk_i163_11 : lk_ins 163 11 = some (.ifCond .eq 29, 3, (40, [], .null)) := lk_eqE_eq (by decide +kernel)
theorem lk_s163_14_4 : lk_seg 163 [(.iload 4, 2, (0, [], .null)), (.i2l, 1, (0, [], .null)), (.lconst 1, 1, (0, [], .long 1)), (.ldc2_w 184, 3, (0, [], .long (30)))] 14 = some 21 := by decide +kernel
theorem lk_i163_21 : lk_ins 163 21 = some (.invokestatic 60, 3, (0, [(0, 112)], .ref 80)) := lk_eqE_eq (by decide +kernel)
theorem lk_i163_24 : lk_ins 163 24 = some (.ifCond .eq 16, 3, (40, [], .null)) := lk_eqE_eq (by decide +kernel)
theorem lk_s163_27_4 : lk_seg 163 [(.iload 5, 2, (0, [], .null)), (.i2l, 1, (0, [], .null)), (.lconst 0, 1, (0, [], .long 0)), (.ldc2_w 68, 3, (0, [], .long (2)))] 27 = some 34 := by decide +kernel
theorem lk_i163_34 : lk_ins 163 34 = some (.invokestatic 60, 3, (0, [(0, 112)], .ref 80)) := lk_eqE_eq (by decide +kernel)
theorem lk_i163_37 : lk_ins 163 37 = some (.ifCond .ne 6, 3, (43, [], .null)) := lk_eqE_eq (by decide +kernel)
theorem lk_s163_43_3 : lk_seg 163 [(.aload_n 0, 1, (0, [], .null)), (.iload_n 1, 1, (0, [], .null)), (.iconst 1, 1, (0, [], .int (1)))] 43 = some 46 := by decide +kernel
theorem lk_i163_46 : lk_ins 163 46 = some (.invokevirtual 134, 3, (1, [(11, 136)], .ref 96)) := lk_eqE_eq (by decide +kernel)
theorem lk_s163_49_2 : lk_seg 163 [(.istore 6, 2, (0, [], .null)), (.iload 6, 2, (0, [], .null))] 49 = some 53 := by decide +kernel
theorem lk_i163_53 : lk_ins 163 53 = some (.ifCond .eq 6, 3, (59, [], .null)) := lk_eqE_eq (by decide +kernel)
theorem lk_s163_59_1 : lk_seg 163 [(.aload_n 0, 1, (0, [], .null))] 59 = some 60 := by decide +kernel
theorem lk_i163_60 : lk_ins 163 60 = some (.getfield 7, 3, (0, [(11, 0)], .null)) := lk_eqE_eq (by decide +kernel)
theorem lk_s163_63_1 : lk_seg 163 [(.iload_n 2, 1, (0, [], .null))] 63 = some 64 := by decide +kernel
theorem lk_i163_64 : lk_ins 163 64 = some (.iaload, 1, (0, [], .null)) := lk_eqE_eq (by decide +kernel)
theorem lk_i163_65 : lk_ins 163 65 = some (.ifCond .ne 9, 3, (74, [], .null)) := lk_eqE_eq (by decide +kernel)
theorem lk_s163_74_1 : lk_seg 163 [(.iload_n 3, 1, (0, [], .null))] 74 = some 75 := by decide +kernel
theorem lk_i163_75 : lk_ins 163 75 = some (.ifCond .lt 24, 3, (99, [], .null)) := lk_eqE_eq (by decide +kernel)
theorem lk_s163_99_2 : lk_seg 163 [(.aload_n 0, 1, (0, [], .null)), (.iconst 2, 1, (0, [], .int (2)))] 99 = some 101 := by decide +kernel
theorem lk_i163_101 : lk_ins 163 101 = some (.invokevirtual 71, 3, (1, [(11, 113)], .ref 82)) := lk_eqE_eq (by decide +kernel)
theorem lk_i163_104 : lk_ins 163 104 = some (.ireturn, 1, (0, [], .null)) := lk_eqE_eq (by decide +kernel)
theorem lk_s163_78_8 : lk_seg 163 [(.iload_n 3, 1, (0, [], .null)), (.i2l, 1, (0, [], .null)), (.ldc2_w 68, 3, (0, [], .long (2))), (.iload 4, 2, (0, [], .null)), (.i2l, 1, (0, [], .null)), (.lmul, 1, (0, [], .null)), (.ladd, 1, (0, [], .null)), (.aload_n 0, 1, (0, [], .null))] 78 = some 89 := by decide +kernel
theorem lk_i163_89 : lk_ins 163 89 = some (.getfield 13, 3, (1, [(11, 0)], .null)) := lk_eqE_eq (by decide +kernel)
theorem lk_s163_92_1 : lk_seg 163 [(.iload_n 2, 1, (0, [], .null))] 92 = some 93 := by decide +kernel
theorem lk_i163_93 : lk_ins 163 93 = some (.iaload, 1, (0, [], .null)) := lk_eqE_eq (by decide +kernel)
theorem lk_s163_94_2 : lk_seg 163 [(.i2l, 1, (0, [], .null)), (.lcmp, 1, (0, [], .null))] 94 = some 96 := by decide +kernel
theorem lk_i163_96 : lk_ins 163 96 = some (.ifCond .le 9, 3, (105, [], .null)) := lk_eqE_eq (by decide +kernel)
theorem lk_s163_105_8 : lk_seg 163 [(.iconst (-1), 1, (0, [], .int (-1))), (.istore 7, 2, (0, [], .null)), (.iconst 0, 1, (0, [], .int (0))), (.istore 8, 2, (0, [], .null)), (.iconst 0, 1, (0, [], .int (0))), (.istore 9, 2, (0, [], .null)), (.iconst 0, 1, (0, [], .int (0))), (.istore 10, 2, (0, [], .null))] 105 = some 117 := by decide +kernel
theorem lk_s163_68_2 : lk_seg 163 [(.aload_n 0, 1, (0, [], .null)), (.iconst 1, 1, (0, [], .int (1)))] 68 = some 70 := by decide +kernel
theorem lk_i163_70 : lk_ins 163 70 = some (.invokevirtual 71, 3, (1, [(11, 113)], .ref 82)) := lk_eqE_eq (by decide +kernel)
theorem lk_i163_73 : lk_ins 163 73 = some (.ireturn, 1, (0, [], .null)) := lk_eqE_eq (by decide +kernel)
theorem lk_s163_56_1 : lk_seg 163 [(.iload 6, 2, (0, [], .null))] 56 = some 58 := by decide +kernel
theorem lk_i163_58 : lk_ins 163 58 = some (.ireturn, 1, (0, [], .null)) := lk_eqE_eq (by decide +kernel)
theorem lk_s163_117_2 : lk_seg 163 [(.iload 10, 2, (0, [], .null)), (.bipush 21, 2, (0, [], .int (21)))] 117 = some 121 := by decide +kernel
theorem lk_i163_121 : lk_ins 163 121 = some (.if_icmp .ge 154, 3, (275, [], .null)) := lk_eqE_eq (by decide +kernel)
theorem lk_s163_275_2 : lk_seg 163 [(.aload_n 0, 1, (0, [], .null)), (.iload 5, 2, (0, [], .null))] 275 = some 278 := by decide +kernel
theorem lk_i163_278 : lk_ins 163 278 = some (.ifCond .ne 8, 3, (286, [], .null)) := lk_eqE_eq (by decide +kernel)
theorem lk_s163_286_2 : lk_seg 163 [(.iload 5, 2, (0, [], .null)), (.iconst 1, 1, (0, [], .int (1)))] 286 = some 289 := by decide +kernel
theorem lk_i163_289 : lk_ins 163 289 = some (.if_icmp .ne 8, 3, (297, [], .null)) := lk_eqE_eq (by decide +kernel)
theorem lk_s163_297_1 : lk_seg 163 [(.iload 7, 2, (0, [], .null))] 297 = some 299 := by decide +kernel
theorem lk_i163_299 : lk_ins 163 299 = some (.invokevirtual 75, 3, (1, [(11, 114)], .ref 83)) := lk_eqE_eq (by decide +kernel)
theorem lk_i163_302 : lk_ins 163 302 = some (.ireturn, 1, (0, [], .null)) := lk_eqE_eq (by decide +kernel)
theorem lk_s163_292_2 : lk_seg 163 [(.iload 9, 2, (0, [], .null)), (.goto 5, 3, (299, [], .null))] 292 = some 299 := by decide +kernel
theorem lk_s163_281_2 : lk_seg 163 [(.iload 8, 2, (0, [], .null)), (.goto 16, 3, (299, [], .null))] 281 = some 299 := by decide +kernel
theorem lk_s163_124_2 : lk_seg 163 [(.iconst 0, 1, (0, [], .int (0))), (.istore 11, 2, (0, [], .null))] 124 = some 127 := by decide +kernel
theorem lk_s163_127_2 : lk_seg 163 [(.iload 11, 2, (0, [], .null)), (.bipush 21, 2, (0, [], .int (21)))] 127 = some 131 := by decide +kernel
theorem lk_i163_131 : lk_ins 163 131 = some (.if_icmp .ge 138, 3, (269, [], .null)) := lk_eqE_eq (by decide +kernel)
theorem lk_s163_269_2 : lk_seg 163 [(.iinc 10 1, 3, (0, [], .int (1))), (.goto (-155), 3, (117, [], .null))] 269 = some 117 := by decide +kernel
theorem lk_s163_134_4 : lk_seg 163 [(.iconst 0, 1, (0, [], .int (0))), (.istore 12, 2, (0, [], .null)), (.iconst 0, 1, (0, [], .int (0))), (.istore 13, 2, (0, [], .null))] 134 = some 140 := by decide +kernel
theorem lk_s163_140_2 : lk_seg 163 [(.iload 13, 2, (0, [], .null)), (.iload 4, 2, (0, [], .null))] 140 = some 144 := by decide +kernel
theorem lk_i163_144 : lk_ins 163 144 = some (.if_icmp .ge 100, 3, (244, [], .null)) := lk_eqE_eq (by decide +kernel)
theorem lk_s163_244_2 : lk_seg 163 [(.iload 12, 2, (0, [], .null)), (.iload 7, 2, (0, [], .null))] 244 = some 248 := by decide +kernel
theorem lk_i163_248 : lk_ins 163 248 = some (.if_icmp .le 15, 3, (263, [], .null)) := lk_eqE_eq (by decide +kernel)
theorem lk_s163_263_2 : lk_seg 163 [(.iinc 11 1, 3, (0, [], .int (1))), (.goto (-139), 3, (127, [], .null))] 263 = some 127 := by decide +kernel
theorem lk_s163_251_8 : lk_seg 163 [(.iload 12, 2, (0, [], .null)), (.istore 7, 2, (0, [], .null)), (.iload 10, 2, (0, [], .null)), (.istore 8, 2, (0, [], .null)), (.iload 11, 2, (0, [], .null)), (.istore 9, 2, (0, [], .null)), (.iinc 11 1, 3, (0, [], .int (1))), (.goto (-139), 3, (127, [], .null))] 251 = some 127 := by decide +kernel
theorem lk_s163_147_1 : lk_seg 163 [(.aload_n 0, 1, (0, [], .null))] 147 = some 148 := by decide +kernel
theorem lk_i163_148 : lk_ins 163 148 = some (.getfield 16, 3, (2, [(11, 0)], .null)) := lk_eqE_eq (by decide +kernel)
theorem lk_s163_151_9 : lk_seg 163 [(.bipush 60, 2, (0, [], .int (60))), (.iload_n 2, 1, (0, [], .null)), (.imul, 1, (0, [], .null)), (.iload_n 3, 1, (0, [], .null)), (.iadd, 1, (0, [], .null)), (.iconst 2, 1, (0, [], .int (2))), (.iload 13, 2, (0, [], .null)), (.imul, 1, (0, [], .null)), (.iadd, 1, (0, [], .null))] 151 = some 162 := by decide +kernel
theorem lk_i163_162 : lk_ins 163 162 = some (.iaload, 1, (0, [], .null)) := lk_eqE_eq (by decide +kernel)
theorem lk_s163_163_6 : lk_seg 163 [(.i2l, 1, (0, [], .null)), (.iload 10, 2, (0, [], .null)), (.i2l, 1, (0, [], .null)), (.lsub, 1, (0, [], .null)), (.lstore 14, 2, (0, [], .null)), (.aload_n 0, 1, (0, [], .null))] 163 = some 171 := by decide +kernel
theorem lk_i163_171 : lk_ins 163 171 = some (.getfield 16, 3, (2, [(11, 0)], .null)) := lk_eqE_eq (by decide +kernel)
theorem lk_s163_174_11 : lk_seg 163 [(.bipush 60, 2, (0, [], .int (60))), (.iload_n 2, 1, (0, [], .null)), (.imul, 1, (0, [], .null)), (.iload_n 3, 1, (0, [], .null)), (.iadd, 1, (0, [], .null)), (.iconst 2, 1, (0, [], .int (2))), (.iload 13, 2, (0, [], .null)), (.imul, 1, (0, [], .null)), (.iadd, 1, (0, [], .null)), (.iconst 1, 1, (0, [], .int (1))), (.iadd, 1, (0, [], .null))] 174 = some 187 := by decide +kernel
theorem lk_i163_187 : lk_ins 163 187 = some (.iaload, 1, (0, [], .null)) := lk_eqE_eq (by decide +kernel)
theorem lk_s163_188_9 : lk_seg 163 [(.i2l, 1, (0, [], .null)), (.iload 11, 2, (0, [], .null)), (.i2l, 1, (0, [], .null)), (.lsub, 1, (0, [], .null)), (.lstore 16, 2, (0, [], .null)), (.iload 12, 2, (0, [], .null)), (.lload 14, 2, (0, [], .null)), (.lconst 0, 1, (0, [], .long 0)), (.aload_n 0, 1, (0, [], .null))] 188 = some 201 := by decide +kernel
theorem lk_i163_201 : lk_ins 163 201 = some (.getfield 25, 3, (5, [(11, 0)], .null)) := lk_eqE_eq (by decide +kernel)
theorem lk_s163_204_1 : lk_seg 163 [(.iload_n 1, 1, (0, [], .null))] 204 = some 205 := by decide +kernel
theorem lk_i163_205 : lk_ins 163 205 = some (.iaload, 1, (0, [], .null)) := lk_eqE_eq (by decide +kernel)
theorem lk_s163_206_3 : lk_seg 163 [(.i2l, 1, (0, [], .null)), (.lconst 1, 1, (0, [], .long 1)), (.lsub, 1, (0, [], .null))] 206 = some 209 := by decide +kernel
theorem lk_i163_209 : lk_ins 163 209 = some (.invokestatic 60, 3, (0, [(0, 112)], .ref 80)) := lk_eqE_eq (by decide +kernel)
theorem lk_i163_212 : lk_ins 163 212 = some (.ifCond .eq 22, 3, (234, [], .null)) := lk_eqE_eq (by decide +kernel)
theorem lk_s163_234_5 : lk_seg 163 [(.iconst 0, 1, (0, [], .int (0))), (.iadd, 1, (0, [], .null)), (.istore 12, 2, (0, [], .null)), (.iinc 13 1, 3, (0, [], .int (1))), (.goto (-101), 3, (140, [], .null))] 234 = some 140 := by decide +kernel
theorem lk_s163_215_4 : lk_seg 163 [(.aload_n 0, 1, (0, [], .null)), (.iload_n 1, 1, (0, [], .null)), (.lload 14, 2, (0, [], .null)), (.l2i, 1, (0, [], .null))] 215 = some 220 := by decide +kernel
theorem lk_i163_220 : lk_ins 163 220 = some (.invokevirtual 80, 3, (1, [(11, 122)], .ref 84)) := lk_eqE_eq (by decide +kernel)
theorem lk_s163_223_3 : lk_seg 163 [(.i2l, 1, (0, [], .null)), (.lload 16, 2, (0, [], .null)), (.lcmp, 1, (0, [], .null))] 223 = some 227 := by decide +kernel
theorem lk_i163_227 : lk_ins 163 227 = some (.ifCond .ne 7, 3, (234, [], .null)) := lk_eqE_eq (by decide +kernel)
theorem lk_s163_230_2 : lk_seg 163 [(.iconst 1, 1, (0, [], .int (1))), (.goto 4, 3, (235, [], .null))] 230 = some 235 := by decide +kernel
theorem lk_s163_235_4 : lk_seg 163 [(.iadd, 1, (0, [], .null)), (.istore 12, 2, (0, [], .null)), (.iinc 13 1, 3, (0, [], .int (1))), (.goto (-101), 3, (140, [], .null))] 235 = some 140 := by decide +kernel
set_option maxRecDepth 20000 in
theorem E_m_echo {X : lk_X} {d : Nat} {x1 x2 x3 x4 x5 : Int32} {a0 : Nat} {h : lk_H} {Q : Option Value → lk_H → Prop} (H : lk_wxi X d 120 [.int x1] h (fun r2 h1 => (r2 = 0 → Q (some (.int ((-1000001)))) h1) ∧ (¬ r2 = 0 → lk_wxi X d 115 [.int x2] h1 (fun r4 h3 => (r4 = 0 → Q (some (.int ((-1000001)))) h3) ∧ (¬ r4 = 0 → lk_wxi X d 112 [.long (x4.toInt64), .long 1, .long 30] h3 (fun r6 h5 => (r6 = 0 → Q (some (.int ((-1000001)))) h5) ∧ (¬ r6 = 0 → lk_wxi X d 112 [.long (x5.toInt64), .long 0, .long 2] h5 (fun r8 h7 => (¬ r8 = 0 → lk_vc h7 a0 [(11, 136)] (fun k24 => lk_wxi X d k24 [.ref a0, .int x1, .int 1] h7 (fun r10 h9 => (r10 = 0 → lk_fR h9 a0 0 [(11, 0)] (fun r11 => lk_ai h9 r11 x2 (fun r12 => (¬ r12 = 0 → (x3 < 0 → lk_vc h9 a0 [(11, 113)] (fun k15 => lk_wxi X d k15 [.ref a0, .int 2] h9 (fun r14 h13 => Q (some (.int r14)) h13))) ∧ (¬ x3 < 0 → lk_fR h9 a0 1 [(11, 0)] (fun r16 => lk_ai h9 r16 x2 (fun r17 => ((lg_cmp (x3.toInt64 + (2 * x4.toInt64)) r17.toInt64) ≤ 0 → lk_wp X (d + 1) 163 117 [.ref a0, .int x1, .int x2, .int x3, .int x4, .int x5, .retAddr 0, .int ((-1)), .int 0, .int 0, .int 0, .retAddr 0, .retAddr 0, .retAddr 0, .retAddr 0, .retAddr 0, .retAddr 0, .retAddr 0] [] h9 Q) ∧ (¬ (lg_cmp (x3.toInt64 + (2 * x4.toInt64)) r17.toInt64) ≤ 0 → lk_vc h9 a0 [(11, 113)] (fun k20 => lk_wxi X d k20 [.ref a0, .int 2] h9 (fun r19 h18 => Q (some (.int r19)) h18))))))) ∧ (r12 = 0 → lk_vc h9 a0 [(11, 113)] (fun k23 => lk_wxi X d k23 [.ref a0, .int 1] h9 (fun r22 h21 => Q (some (.int r22)) h21)))))) ∧ (¬ r10 = 0 → Q (some (.int r10)) h9)))) ∧ (r8 = 0 → Q (some (.int ((-1000001)))) h7))))))))) : lk_wx X (d + 1) 163 [.ref a0, .int x1, .int x2, .int x3, .int x4, .int x5] h Q := by
  refine lk_enter (lo := [.ref a0, .int x1, .int x2, .int x3, .int x4, .int x5, .retAddr 0, .retAddr 0, .retAddr 0, .retAddr 0, .retAddr 0, .retAddr 0, .retAddr 0, .retAddr 0, .retAddr 0, .retAddr 0, .retAddr 0, .retAddr 0]) lk_M163 rfl (Nat.le_of_ble_eq_true rfl) ?_
  refine lk_wp_seg (lo' := [.ref a0, .int x1, .int x2, .int x3, .int x4, .int x5, .retAddr 0, .retAddr 0, .retAddr 0, .retAddr 0, .retAddr 0, .retAddr 0, .retAddr 0, .retAddr 0, .retAddr 0, .retAddr 0, .retAddr 0, .retAddr 0]) (st' := [.int x1]) lk_M163 lk_s163_0_1 rfl ?_
  refine lk_wp_cs (as := [.int x1]) (r := []) lk_i163_1 lk_M163 rfl rfl rfl rfl (Nat.le_of_ble_eq_true rfl) (lk_gi H (fun r2 h1 H => ?_))
  refine lk_wp_if_eq lk_i163_4 lk_M163 H (fun H => ?_) (fun H => ?_)
  · refine lk_wp_seg (lo' := [.ref a0, .int x1, .int x2, .int x3, .int x4, .int x5, .retAddr 0, .retAddr 0, .retAddr 0, .retAddr 0, .retAddr 0, .retAddr 0, .retAddr 0, .retAddr 0, .retAddr 0, .retAddr 0, .retAddr 0, .retAddr 0]) (st' := [.int ((-1000001))]) lk_M163 lk_s163_40_1 rfl ?_
    exact lk_wp_ret lk_i163_42 lk_M163 rfl H
  · refine lk_wp_seg (lo' := [.ref a0, .int x1, .int x2, .int x3, .int x4, .int x5, .retAddr 0, .retAddr 0, .retAddr 0, .retAddr 0, .retAddr 0, .retAddr 0, .retAddr 0, .retAddr 0, .retAddr 0, .retAddr 0, .retAddr 0, .retAddr 0]) (st' := [.int x2]) lk_M163 lk_s163_7_1 rfl ?_
    refine lk_wp_cs (as := [.int x2]) (r := []) lk_i163_8 lk_M163 rfl rfl rfl rfl (Nat.le_of_ble_eq_true rfl) (lk_gi H (fun r4 h3 H => ?_))
    refine lk_wp_if_eq lk_i163_11 lk_M163 H (fun H => ?_) (fun H => ?_)
    · refine lk_wp_seg (lo' := [.ref a0, .int x1, .int x2, .int x3, .int x4, .int x5, .retAddr 0, .retAddr 0, .retAddr 0, .retAddr 0, .retAddr 0, .retAddr 0, .retAddr 0, .retAddr 0, .retAddr 0, .retAddr 0, .retAddr 0, .retAddr 0]) (st' := [.int ((-1000001))]) lk_M163 lk_s163_40_1 rfl ?_
      exact lk_wp_ret lk_i163_42 lk_M163 rfl H
    · refine lk_wp_seg (lo' := [.ref a0, .int x1, .int x2, .int x3, .int x4, .int x5, .retAddr 0, .retAddr 0, .retAddr 0, .retAddr 0, .retAddr 0, .retAddr 0, .retAddr 0, .retAddr 0, .retAddr 0, .retAddr 0, .retAddr 0, .retAddr 0]) (st' := [.long 30, .long 1, .long (x4.toInt64)]) lk_M163 lk_s163_14_4 rfl ?_
      refine lk_wp_cs (as := [.long (x4.toInt64), .long 1, .long 30]) (r := []) lk_i163_21 lk_M163 rfl rfl rfl rfl (Nat.le_of_ble_eq_true rfl) (lk_gi H (fun r6 h5 H => ?_))
      refine lk_wp_if_eq lk_i163_24 lk_M163 H (fun H => ?_) (fun H => ?_)
      · refine lk_wp_seg (lo' := [.ref a0, .int x1, .int x2, .int x3, .int x4, .int x5, .retAddr 0, .retAddr 0, .retAddr 0, .retAddr 0, .retAddr 0, .retAddr 0, .retAddr 0, .retAddr 0, .retAddr 0, .retAddr 0, .retAddr 0, .retAddr 0]) (st' := [.int ((-1000001))]) lk_M163 lk_s163_40_1 rfl ?_
        exact lk_wp_ret lk_i163_42 lk_M163 rfl H
      · refine lk_wp_seg (lo' := [.ref a0, .int x1, .int x2, .int x3, .int x4, .int x5, .retAddr 0, .retAddr 0, .retAddr 0, .retAddr 0, .retAddr 0, .retAddr 0, .retAddr 0, .retAddr 0, .retAddr 0, .retAddr 0, .retAddr 0, .retAddr 0]) (st' := [.long 2, .long 0, .long (x5.toInt64)]) lk_M163 lk_s163_27_4 rfl ?_
        refine lk_wp_cs (as := [.long (x5.toInt64), .long 0, .long 2]) (r := []) lk_i163_34 lk_M163 rfl rfl rfl rfl (Nat.le_of_ble_eq_true rfl) (lk_gi H (fun r8 h7 H => ?_))
        refine lk_wp_if_ne lk_i163_37 lk_M163 H (fun H => ?_) (fun H => ?_)
        · refine lk_wp_seg (lo' := [.ref a0, .int x1, .int x2, .int x3, .int x4, .int x5, .retAddr 0, .retAddr 0, .retAddr 0, .retAddr 0, .retAddr 0, .retAddr 0, .retAddr 0, .retAddr 0, .retAddr 0, .retAddr 0, .retAddr 0, .retAddr 0]) (st' := [.int 1, .int x1, .ref a0]) lk_M163 lk_s163_43_3 rfl ?_
          refine lk_wp_cv (as := [.int x1, .int 1]) (r := []) (a := a0) lk_i163_46 lk_M163 rfl rfl rfl (Nat.le_of_ble_eq_true rfl) H (fun k24 H => lk_gi H (fun r10 h9 H => ?_))
          refine lk_wp_seg (lo' := [.ref a0, .int x1, .int x2, .int x3, .int x4, .int x5, .int r10, .retAddr 0, .retAddr 0, .retAddr 0, .retAddr 0, .retAddr 0, .retAddr 0, .retAddr 0, .retAddr 0, .retAddr 0, .retAddr 0, .retAddr 0]) (st' := [.int r10]) lk_M163 lk_s163_49_2 rfl ?_
          refine lk_wp_if_eq lk_i163_53 lk_M163 H (fun H => ?_) (fun H => ?_)
          · refine lk_wp_seg (lo' := [.ref a0, .int x1, .int x2, .int x3, .int x4, .int x5, .int r10, .retAddr 0, .retAddr 0, .retAddr 0, .retAddr 0, .retAddr 0, .retAddr 0, .retAddr 0, .retAddr 0, .retAddr 0, .retAddr 0, .retAddr 0]) (st' := [.ref a0]) lk_M163 lk_s163_59_1 rfl ?_
            refine lk_wp_fR lk_i163_60 lk_M163 H (fun r11 H => ?_)
            refine lk_wp_seg (lo' := [.ref a0, .int x1, .int x2, .int x3, .int x4, .int x5, .int r10, .retAddr 0, .retAddr 0, .retAddr 0, .retAddr 0, .retAddr 0, .retAddr 0, .retAddr 0, .retAddr 0, .retAddr 0, .retAddr 0, .retAddr 0]) (st' := [.int x2, .ref r11]) lk_M163 lk_s163_63_1 rfl ?_
            refine lk_wp_ai lk_i163_64 lk_M163 H (fun r12 H => ?_)
            refine lk_wp_if_ne lk_i163_65 lk_M163 H (fun H => ?_) (fun H => ?_)
            · refine lk_wp_seg (lo' := [.ref a0, .int x1, .int x2, .int x3, .int x4, .int x5, .int r10, .retAddr 0, .retAddr 0, .retAddr 0, .retAddr 0, .retAddr 0, .retAddr 0, .retAddr 0, .retAddr 0, .retAddr 0, .retAddr 0, .retAddr 0]) (st' := [.int x3]) lk_M163 lk_s163_74_1 rfl ?_
              refine lk_wp_if_lt lk_i163_75 lk_M163 H (fun H => ?_) (fun H => ?_)
              · refine lk_wp_seg (lo' := [.ref a0, .int x1, .int x2, .int x3, .int x4, .int x5, .int r10, .retAddr 0, .retAddr 0, .retAddr 0, .retAddr 0, .retAddr 0, .retAddr 0, .retAddr 0, .retAddr 0, .retAddr 0, .retAddr 0, .retAddr 0]) (st' := [.int 2, .ref a0]) lk_M163 lk_s163_99_2 rfl ?_
                refine lk_wp_cv (as := [.int 2]) (r := []) (a := a0) lk_i163_101 lk_M163 rfl rfl rfl (Nat.le_of_ble_eq_true rfl) H (fun k15 H => lk_gi H (fun r14 h13 H => ?_))
                exact lk_wp_ret lk_i163_104 lk_M163 rfl H
              · refine lk_wp_seg (lo' := [.ref a0, .int x1, .int x2, .int x3, .int x4, .int x5, .int r10, .retAddr 0, .retAddr 0, .retAddr 0, .retAddr 0, .retAddr 0, .retAddr 0, .retAddr 0, .retAddr 0, .retAddr 0, .retAddr 0, .retAddr 0]) (st' := [.ref a0, .long (x3.toInt64 + (2 * x4.toInt64))]) lk_M163 lk_s163_78_8 rfl ?_
                refine lk_wp_fR lk_i163_89 lk_M163 H (fun r16 H => ?_)
                refine lk_wp_seg (lo' := [.ref a0, .int x1, .int x2, .int x3, .int x4, .int x5, .int r10, .retAddr 0, .retAddr 0, .retAddr 0, .retAddr 0, .retAddr 0, .retAddr 0, .retAddr 0, .retAddr 0, .retAddr 0, .retAddr 0, .retAddr 0]) (st' := [.int x2, .ref r16, .long (x3.toInt64 + (2 * x4.toInt64))]) lk_M163 lk_s163_92_1 rfl ?_
                refine lk_wp_ai lk_i163_93 lk_M163 H (fun r17 H => ?_)
                refine lk_wp_seg (lo' := [.ref a0, .int x1, .int x2, .int x3, .int x4, .int x5, .int r10, .retAddr 0, .retAddr 0, .retAddr 0, .retAddr 0, .retAddr 0, .retAddr 0, .retAddr 0, .retAddr 0, .retAddr 0, .retAddr 0, .retAddr 0]) (st' := [.int (lg_cmp (x3.toInt64 + (2 * x4.toInt64)) r17.toInt64)]) lk_M163 lk_s163_94_2 rfl ?_
                refine lk_wp_if_le lk_i163_96 lk_M163 H (fun H => ?_) (fun H => ?_)
                · refine lk_wp_seg (lo' := [.ref a0, .int x1, .int x2, .int x3, .int x4, .int x5, .int r10, .int ((-1)), .int 0, .int 0, .int 0, .retAddr 0, .retAddr 0, .retAddr 0, .retAddr 0, .retAddr 0, .retAddr 0, .retAddr 0]) (st' := []) lk_M163 lk_s163_105_8 rfl ?_
                  exact H.forget (lk_le_s (lk_le_s (lk_le_s (lk_le_s (lk_le_s (lk_le_s (lk_le_d (lk_le_s (lk_le_s (lk_le_s (lk_le_s (lk_le_s (lk_le_s (lk_le_s (lk_le_s (lk_le_s (lk_le_s (lk_le_s lk_le_n))))))))))))))))))
                · refine lk_wp_seg (lo' := [.ref a0, .int x1, .int x2, .int x3, .int x4, .int x5, .int r10, .retAddr 0, .retAddr 0, .retAddr 0, .retAddr 0, .retAddr 0, .retAddr 0, .retAddr 0, .retAddr 0, .retAddr 0, .retAddr 0, .retAddr 0]) (st' := [.int 2, .ref a0]) lk_M163 lk_s163_99_2 rfl ?_
                  refine lk_wp_cv (as := [.int 2]) (r := []) (a := a0) lk_i163_101 lk_M163 rfl rfl rfl (Nat.le_of_ble_eq_true rfl) H (fun k20 H => lk_gi H (fun r19 h18 H => ?_))
                  exact lk_wp_ret lk_i163_104 lk_M163 rfl H
            · refine lk_wp_seg (lo' := [.ref a0, .int x1, .int x2, .int x3, .int x4, .int x5, .int r10, .retAddr 0, .retAddr 0, .retAddr 0, .retAddr 0, .retAddr 0, .retAddr 0, .retAddr 0, .retAddr 0, .retAddr 0, .retAddr 0, .retAddr 0]) (st' := [.int 1, .ref a0]) lk_M163 lk_s163_68_2 rfl ?_
              refine lk_wp_cv (as := [.int 1]) (r := []) (a := a0) lk_i163_70 lk_M163 rfl rfl rfl (Nat.le_of_ble_eq_true rfl) H (fun k23 H => lk_gi H (fun r22 h21 H => ?_))
              exact lk_wp_ret lk_i163_73 lk_M163 rfl H
          · refine lk_wp_seg (lo' := [.ref a0, .int x1, .int x2, .int x3, .int x4, .int x5, .int r10, .retAddr 0, .retAddr 0, .retAddr 0, .retAddr 0, .retAddr 0, .retAddr 0, .retAddr 0, .retAddr 0, .retAddr 0, .retAddr 0, .retAddr 0]) (st' := [.int r10]) lk_M163 lk_s163_56_1 rfl ?_
            exact lk_wp_ret lk_i163_58 lk_M163 rfl H
        · refine lk_wp_seg (lo' := [.ref a0, .int x1, .int x2, .int x3, .int x4, .int x5, .retAddr 0, .retAddr 0, .retAddr 0, .retAddr 0, .retAddr 0, .retAddr 0, .retAddr 0, .retAddr 0, .retAddr 0, .retAddr 0, .retAddr 0, .retAddr 0]) (st' := [.int ((-1000001))]) lk_M163 lk_s163_40_1 rfl ?_
          exact lk_wp_ret lk_i163_42 lk_M163 rfl H
set_option maxRecDepth 20000 in
theorem F_m_echo_117 {X : lk_X} {d : Nat} {x1 x2 x3 x4 x5 x7 x8 x9 x10 : Int32} {a0 : Nat} {h : lk_H} {Q : Option Value → lk_H → Prop} (H : (21 ≤ x10 → (¬ x5 = 0 → (¬ x5 = 1 → lk_vc h a0 [(11, 114)] (fun k3 => lk_wxi X d k3 [.ref a0, .int x7] h (fun r2 h1 => Q (some (.int r2)) h1))) ∧ (x5 = 1 → lk_vc h a0 [(11, 114)] (fun k6 => lk_wxi X d k6 [.ref a0, .int x9] h (fun r5 h4 => Q (some (.int r5)) h4)))) ∧ (x5 = 0 → lk_vc h a0 [(11, 114)] (fun k9 => lk_wxi X d k9 [.ref a0, .int x8] h (fun r8 h7 => Q (some (.int r8)) h7)))) ∧ (¬ 21 ≤ x10 → lk_wp X (d + 1) 163 127 [.ref a0, .int x1, .int x2, .int x3, .int x4, .int x5, .retAddr 0, .int x7, .int x8, .int x9, .int x10, .int 0, .retAddr 0, .retAddr 0, .retAddr 0, .retAddr 0, .retAddr 0, .retAddr 0] [] h Q)) : lk_wp X (d + 1) 163 117 [.ref a0, .int x1, .int x2, .int x3, .int x4, .int x5, .retAddr 0, .int x7, .int x8, .int x9, .int x10, .retAddr 0, .retAddr 0, .retAddr 0, .retAddr 0, .retAddr 0, .retAddr 0, .retAddr 0] [] h Q := by
  refine lk_wp_seg (lo' := [.ref a0, .int x1, .int x2, .int x3, .int x4, .int x5, .retAddr 0, .int x7, .int x8, .int x9, .int x10, .retAddr 0, .retAddr 0, .retAddr 0, .retAddr 0, .retAddr 0, .retAddr 0, .retAddr 0]) (st' := [.int 21, .int x10]) lk_M163 lk_s163_117_2 rfl ?_
  refine lk_wp_ic_ge lk_i163_121 lk_M163 H (fun H => ?_) (fun H => ?_)
  · refine lk_wp_seg (lo' := [.ref a0, .int x1, .int x2, .int x3, .int x4, .int x5, .retAddr 0, .int x7, .int x8, .int x9, .int x10, .retAddr 0, .retAddr 0, .retAddr 0, .retAddr 0, .retAddr 0, .retAddr 0, .retAddr 0]) (st' := [.int x5, .ref a0]) lk_M163 lk_s163_275_2 rfl ?_
    refine lk_wp_if_ne lk_i163_278 lk_M163 H (fun H => ?_) (fun H => ?_)
    · refine lk_wp_seg (lo' := [.ref a0, .int x1, .int x2, .int x3, .int x4, .int x5, .retAddr 0, .int x7, .int x8, .int x9, .int x10, .retAddr 0, .retAddr 0, .retAddr 0, .retAddr 0, .retAddr 0, .retAddr 0, .retAddr 0]) (st' := [.int 1, .int x5, .ref a0]) lk_M163 lk_s163_286_2 rfl ?_
      refine lk_wp_ic_ne lk_i163_289 lk_M163 H (fun H => ?_) (fun H => ?_)
      · refine lk_wp_seg (lo' := [.ref a0, .int x1, .int x2, .int x3, .int x4, .int x5, .retAddr 0, .int x7, .int x8, .int x9, .int x10, .retAddr 0, .retAddr 0, .retAddr 0, .retAddr 0, .retAddr 0, .retAddr 0, .retAddr 0]) (st' := [.int x7, .ref a0]) lk_M163 lk_s163_297_1 rfl ?_
        refine lk_wp_cv (as := [.int x7]) (r := []) (a := a0) lk_i163_299 lk_M163 rfl rfl rfl (Nat.le_of_ble_eq_true rfl) H (fun k3 H => lk_gi H (fun r2 h1 H => ?_))
        exact lk_wp_ret lk_i163_302 lk_M163 rfl H
      · refine lk_wp_seg (lo' := [.ref a0, .int x1, .int x2, .int x3, .int x4, .int x5, .retAddr 0, .int x7, .int x8, .int x9, .int x10, .retAddr 0, .retAddr 0, .retAddr 0, .retAddr 0, .retAddr 0, .retAddr 0, .retAddr 0]) (st' := [.int x9, .ref a0]) lk_M163 lk_s163_292_2 rfl ?_
        refine lk_wp_cv (as := [.int x9]) (r := []) (a := a0) lk_i163_299 lk_M163 rfl rfl rfl (Nat.le_of_ble_eq_true rfl) H (fun k6 H => lk_gi H (fun r5 h4 H => ?_))
        exact lk_wp_ret lk_i163_302 lk_M163 rfl H
    · refine lk_wp_seg (lo' := [.ref a0, .int x1, .int x2, .int x3, .int x4, .int x5, .retAddr 0, .int x7, .int x8, .int x9, .int x10, .retAddr 0, .retAddr 0, .retAddr 0, .retAddr 0, .retAddr 0, .retAddr 0, .retAddr 0]) (st' := [.int x8, .ref a0]) lk_M163 lk_s163_281_2 rfl ?_
      refine lk_wp_cv (as := [.int x8]) (r := []) (a := a0) lk_i163_299 lk_M163 rfl rfl rfl (Nat.le_of_ble_eq_true rfl) H (fun k9 H => lk_gi H (fun r8 h7 H => ?_))
      exact lk_wp_ret lk_i163_302 lk_M163 rfl H
  · refine lk_wp_seg (lo' := [.ref a0, .int x1, .int x2, .int x3, .int x4, .int x5, .retAddr 0, .int x7, .int x8, .int x9, .int x10, .int 0, .retAddr 0, .retAddr 0, .retAddr 0, .retAddr 0, .retAddr 0, .retAddr 0]) (st' := []) lk_M163 lk_s163_124_2 rfl ?_
    exact H
set_option maxRecDepth 20000 in
theorem F_m_echo_127 {X : lk_X} {d : Nat} {x1 x2 x3 x4 x5 x7 x8 x9 x10 x11 : Int32} {a0 : Nat} {h : lk_H} {Q : Option Value → lk_H → Prop} (H : (21 ≤ x11 → lk_wp X (d + 1) 163 117 [.ref a0, .int x1, .int x2, .int x3, .int x4, .int x5, .retAddr 0, .int x7, .int x8, .int x9, .int (x10 + 1), .retAddr 0, .retAddr 0, .retAddr 0, .retAddr 0, .retAddr 0, .retAddr 0, .retAddr 0] [] h Q) ∧ (¬ 21 ≤ x11 → lk_wp X (d + 1) 163 140 [.ref a0, .int x1, .int x2, .int x3, .int x4, .int x5, .retAddr 0, .int x7, .int x8, .int x9, .int x10, .int x11, .int 0, .int 0, .retAddr 0, .retAddr 0, .retAddr 0, .retAddr 0] [] h Q)) : lk_wp X (d + 1) 163 127 [.ref a0, .int x1, .int x2, .int x3, .int x4, .int x5, .retAddr 0, .int x7, .int x8, .int x9, .int x10, .int x11, .retAddr 0, .retAddr 0, .retAddr 0, .retAddr 0, .retAddr 0, .retAddr 0] [] h Q := by
  refine lk_wp_seg (lo' := [.ref a0, .int x1, .int x2, .int x3, .int x4, .int x5, .retAddr 0, .int x7, .int x8, .int x9, .int x10, .int x11, .retAddr 0, .retAddr 0, .retAddr 0, .retAddr 0, .retAddr 0, .retAddr 0]) (st' := [.int 21, .int x11]) lk_M163 lk_s163_127_2 rfl ?_
  refine lk_wp_ic_ge lk_i163_131 lk_M163 H (fun H => ?_) (fun H => ?_)
  · refine lk_wp_seg (lo' := [.ref a0, .int x1, .int x2, .int x3, .int x4, .int x5, .retAddr 0, .int x7, .int x8, .int x9, .int (x10 + 1), .int x11, .retAddr 0, .retAddr 0, .retAddr 0, .retAddr 0, .retAddr 0, .retAddr 0]) (st' := []) lk_M163 lk_s163_269_2 rfl ?_
    exact H.forget (lk_le_s (lk_le_s (lk_le_s (lk_le_s (lk_le_s (lk_le_s (lk_le_s (lk_le_s (lk_le_s (lk_le_s (lk_le_s (lk_le_d (lk_le_s (lk_le_s (lk_le_s (lk_le_s (lk_le_s (lk_le_s lk_le_n))))))))))))))))))
  · refine lk_wp_seg (lo' := [.ref a0, .int x1, .int x2, .int x3, .int x4, .int x5, .retAddr 0, .int x7, .int x8, .int x9, .int x10, .int x11, .int 0, .int 0, .retAddr 0, .retAddr 0, .retAddr 0, .retAddr 0]) (st' := []) lk_M163 lk_s163_134_4 rfl ?_
    exact H
set_option maxRecDepth 20000 in
theorem F_m_echo_140 {X : lk_X} {d : Nat} {x1 x2 x3 x4 x5 x7 x8 x9 x10 x11 x12 x13 : Int32} {a0 : Nat} {h : lk_H} {Q : Option Value → lk_H → Prop} (H : (x4 ≤ x13 → (x12 ≤ x7 → lk_wp X (d + 1) 163 127 [.ref a0, .int x1, .int x2, .int x3, .int x4, .int x5, .retAddr 0, .int x7, .int x8, .int x9, .int x10, .int (x11 + 1), .retAddr 0, .retAddr 0, .retAddr 0, .retAddr 0, .retAddr 0, .retAddr 0] [] h Q) ∧ (¬ x12 ≤ x7 → lk_wp X (d + 1) 163 127 [.ref a0, .int x1, .int x2, .int x3, .int x4, .int x5, .retAddr 0, .int x12, .int x10, .int x11, .int x10, .int (x11 + 1), .retAddr 0, .retAddr 0, .retAddr 0, .retAddr 0, .retAddr 0, .retAddr 0] [] h Q)) ∧ (¬ x4 ≤ x13 → lk_fR h a0 2 [(11, 0)] (fun r1 => lk_ai h r1 (((60 * x2) + x3) + (2 * x13)) (fun r2 => lk_fR h a0 2 [(11, 0)] (fun r3 => lk_ai h r3 ((((60 * x2) + x3) + (2 * x13)) + 1) (fun r4 => lk_fR h a0 5 [(11, 0)] (fun r5 => lk_ai h r5 x1 (fun r6 => lk_wxi X d 112 [.long (r2.toInt64 - x10.toInt64), .long 0, .long (r6.toInt64 - 1)] h (fun r8 h7 => (r8 = 0 → lk_wp X (d + 1) 163 140 [.ref a0, .int x1, .int x2, .int x3, .int x4, .int x5, .retAddr 0, .int x7, .int x8, .int x9, .int x10, .int x11, .int (x12 + 0), .int (x13 + 1), .retAddr 0, .retAddr 0, .retAddr 0, .retAddr 0] [] h7 Q) ∧ (¬ r8 = 0 → lk_vc h7 a0 [(11, 122)] (fun k11 => lk_wxi X d k11 [.ref a0, .int x1, .int ((r2.toInt64 - x10.toInt64).toInt32)] h7 (fun r10 h9 => (¬ (lg_cmp r10.toInt64 (r4.toInt64 - x11.toInt64)) = 0 → lk_wp X (d + 1) 163 140 [.ref a0, .int x1, .int x2, .int x3, .int x4, .int x5, .retAddr 0, .int x7, .int x8, .int x9, .int x10, .int x11, .int (x12 + 0), .int (x13 + 1), .retAddr 0, .retAddr 0, .retAddr 0, .retAddr 0] [] h9 Q) ∧ ((lg_cmp r10.toInt64 (r4.toInt64 - x11.toInt64)) = 0 → lk_wp X (d + 1) 163 140 [.ref a0, .int x1, .int x2, .int x3, .int x4, .int x5, .retAddr 0, .int x7, .int x8, .int x9, .int x10, .int x11, .int (x12 + 1), .int (x13 + 1), .retAddr 0, .retAddr 0, .retAddr 0, .retAddr 0] [] h9 Q))))))))))))) : lk_wp X (d + 1) 163 140 [.ref a0, .int x1, .int x2, .int x3, .int x4, .int x5, .retAddr 0, .int x7, .int x8, .int x9, .int x10, .int x11, .int x12, .int x13, .retAddr 0, .retAddr 0, .retAddr 0, .retAddr 0] [] h Q := by
  refine lk_wp_seg (lo' := [.ref a0, .int x1, .int x2, .int x3, .int x4, .int x5, .retAddr 0, .int x7, .int x8, .int x9, .int x10, .int x11, .int x12, .int x13, .retAddr 0, .retAddr 0, .retAddr 0, .retAddr 0]) (st' := [.int x4, .int x13]) lk_M163 lk_s163_140_2 rfl ?_
  refine lk_wp_ic_ge lk_i163_144 lk_M163 H (fun H => ?_) (fun H => ?_)
  · refine lk_wp_seg (lo' := [.ref a0, .int x1, .int x2, .int x3, .int x4, .int x5, .retAddr 0, .int x7, .int x8, .int x9, .int x10, .int x11, .int x12, .int x13, .retAddr 0, .retAddr 0, .retAddr 0, .retAddr 0]) (st' := [.int x7, .int x12]) lk_M163 lk_s163_244_2 rfl ?_
    refine lk_wp_ic_le lk_i163_248 lk_M163 H (fun H => ?_) (fun H => ?_)
    · refine lk_wp_seg (lo' := [.ref a0, .int x1, .int x2, .int x3, .int x4, .int x5, .retAddr 0, .int x7, .int x8, .int x9, .int x10, .int (x11 + 1), .int x12, .int x13, .retAddr 0, .retAddr 0, .retAddr 0, .retAddr 0]) (st' := []) lk_M163 lk_s163_263_2 rfl ?_
      exact H.forget (lk_le_s (lk_le_s (lk_le_s (lk_le_s (lk_le_s (lk_le_s (lk_le_s (lk_le_s (lk_le_s (lk_le_s (lk_le_s (lk_le_s (lk_le_d (lk_le_d (lk_le_s (lk_le_s (lk_le_s (lk_le_s lk_le_n))))))))))))))))))
    · refine lk_wp_seg (lo' := [.ref a0, .int x1, .int x2, .int x3, .int x4, .int x5, .retAddr 0, .int x12, .int x10, .int x11, .int x10, .int (x11 + 1), .int x12, .int x13, .retAddr 0, .retAddr 0, .retAddr 0, .retAddr 0]) (st' := []) lk_M163 lk_s163_251_8 rfl ?_
      exact H.forget (lk_le_s (lk_le_s (lk_le_s (lk_le_s (lk_le_s (lk_le_s (lk_le_s (lk_le_s (lk_le_s (lk_le_s (lk_le_s (lk_le_s (lk_le_d (lk_le_d (lk_le_s (lk_le_s (lk_le_s (lk_le_s lk_le_n))))))))))))))))))
  · refine lk_wp_seg (lo' := [.ref a0, .int x1, .int x2, .int x3, .int x4, .int x5, .retAddr 0, .int x7, .int x8, .int x9, .int x10, .int x11, .int x12, .int x13, .retAddr 0, .retAddr 0, .retAddr 0, .retAddr 0]) (st' := [.ref a0]) lk_M163 lk_s163_147_1 rfl ?_
    refine lk_wp_fR lk_i163_148 lk_M163 H (fun r1 H => ?_)
    refine lk_wp_seg (lo' := [.ref a0, .int x1, .int x2, .int x3, .int x4, .int x5, .retAddr 0, .int x7, .int x8, .int x9, .int x10, .int x11, .int x12, .int x13, .retAddr 0, .retAddr 0, .retAddr 0, .retAddr 0]) (st' := [.int (((60 * x2) + x3) + (2 * x13)), .ref r1]) lk_M163 lk_s163_151_9 rfl ?_
    refine lk_wp_ai lk_i163_162 lk_M163 H (fun r2 H => ?_)
    refine lk_wp_seg (lo' := [.ref a0, .int x1, .int x2, .int x3, .int x4, .int x5, .retAddr 0, .int x7, .int x8, .int x9, .int x10, .int x11, .int x12, .int x13, .long (r2.toInt64 - x10.toInt64), .retAddr 0, .retAddr 0, .retAddr 0]) (st' := [.ref a0]) lk_M163 lk_s163_163_6 rfl ?_
    refine lk_wp_fR lk_i163_171 lk_M163 H (fun r3 H => ?_)
    refine lk_wp_seg (lo' := [.ref a0, .int x1, .int x2, .int x3, .int x4, .int x5, .retAddr 0, .int x7, .int x8, .int x9, .int x10, .int x11, .int x12, .int x13, .long (r2.toInt64 - x10.toInt64), .retAddr 0, .retAddr 0, .retAddr 0]) (st' := [.int ((((60 * x2) + x3) + (2 * x13)) + 1), .ref r3]) lk_M163 lk_s163_174_11 rfl ?_
    refine lk_wp_ai lk_i163_187 lk_M163 H (fun r4 H => ?_)
    refine lk_wp_seg (lo' := [.ref a0, .int x1, .int x2, .int x3, .int x4, .int x5, .retAddr 0, .int x7, .int x8, .int x9, .int x10, .int x11, .int x12, .int x13, .long (r2.toInt64 - x10.toInt64), .retAddr 0, .long (r4.toInt64 - x11.toInt64), .retAddr 0]) (st' := [.ref a0, .long 0, .long (r2.toInt64 - x10.toInt64), .int x12]) lk_M163 lk_s163_188_9 rfl ?_
    refine lk_wp_fR lk_i163_201 lk_M163 H (fun r5 H => ?_)
    refine lk_wp_seg (lo' := [.ref a0, .int x1, .int x2, .int x3, .int x4, .int x5, .retAddr 0, .int x7, .int x8, .int x9, .int x10, .int x11, .int x12, .int x13, .long (r2.toInt64 - x10.toInt64), .retAddr 0, .long (r4.toInt64 - x11.toInt64), .retAddr 0]) (st' := [.int x1, .ref r5, .long 0, .long (r2.toInt64 - x10.toInt64), .int x12]) lk_M163 lk_s163_204_1 rfl ?_
    refine lk_wp_ai lk_i163_205 lk_M163 H (fun r6 H => ?_)
    refine lk_wp_seg (lo' := [.ref a0, .int x1, .int x2, .int x3, .int x4, .int x5, .retAddr 0, .int x7, .int x8, .int x9, .int x10, .int x11, .int x12, .int x13, .long (r2.toInt64 - x10.toInt64), .retAddr 0, .long (r4.toInt64 - x11.toInt64), .retAddr 0]) (st' := [.long (r6.toInt64 - 1), .long 0, .long (r2.toInt64 - x10.toInt64), .int x12]) lk_M163 lk_s163_206_3 rfl ?_
    refine lk_wp_cs (as := [.long (r2.toInt64 - x10.toInt64), .long 0, .long (r6.toInt64 - 1)]) (r := [.int x12]) lk_i163_209 lk_M163 rfl rfl rfl rfl (Nat.le_of_ble_eq_true rfl) (lk_gi H (fun r8 h7 H => ?_))
    refine lk_wp_if_eq lk_i163_212 lk_M163 H (fun H => ?_) (fun H => ?_)
    · refine lk_wp_seg (lo' := [.ref a0, .int x1, .int x2, .int x3, .int x4, .int x5, .retAddr 0, .int x7, .int x8, .int x9, .int x10, .int x11, .int (x12 + 0), .int (x13 + 1), .long (r2.toInt64 - x10.toInt64), .retAddr 0, .long (r4.toInt64 - x11.toInt64), .retAddr 0]) (st' := []) lk_M163 lk_s163_234_5 rfl ?_
      exact H.forget (lk_le_s (lk_le_s (lk_le_s (lk_le_s (lk_le_s (lk_le_s (lk_le_s (lk_le_s (lk_le_s (lk_le_s (lk_le_s (lk_le_s (lk_le_s (lk_le_s (lk_le_d (lk_le_s (lk_le_d (lk_le_s lk_le_n))))))))))))))))))
    · refine lk_wp_seg (lo' := [.ref a0, .int x1, .int x2, .int x3, .int x4, .int x5, .retAddr 0, .int x7, .int x8, .int x9, .int x10, .int x11, .int x12, .int x13, .long (r2.toInt64 - x10.toInt64), .retAddr 0, .long (r4.toInt64 - x11.toInt64), .retAddr 0]) (st' := [.int ((r2.toInt64 - x10.toInt64).toInt32), .int x1, .ref a0, .int x12]) lk_M163 lk_s163_215_4 rfl ?_
      refine lk_wp_cv (as := [.int x1, .int ((r2.toInt64 - x10.toInt64).toInt32)]) (r := [.int x12]) (a := a0) lk_i163_220 lk_M163 rfl rfl rfl (Nat.le_of_ble_eq_true rfl) H (fun k11 H => lk_gi H (fun r10 h9 H => ?_))
      refine lk_wp_seg (lo' := [.ref a0, .int x1, .int x2, .int x3, .int x4, .int x5, .retAddr 0, .int x7, .int x8, .int x9, .int x10, .int x11, .int x12, .int x13, .long (r2.toInt64 - x10.toInt64), .retAddr 0, .long (r4.toInt64 - x11.toInt64), .retAddr 0]) (st' := [.int (lg_cmp r10.toInt64 (r4.toInt64 - x11.toInt64)), .int x12]) lk_M163 lk_s163_223_3 rfl ?_
      refine lk_wp_if_ne lk_i163_227 lk_M163 H (fun H => ?_) (fun H => ?_)
      · refine lk_wp_seg (lo' := [.ref a0, .int x1, .int x2, .int x3, .int x4, .int x5, .retAddr 0, .int x7, .int x8, .int x9, .int x10, .int x11, .int (x12 + 0), .int (x13 + 1), .long (r2.toInt64 - x10.toInt64), .retAddr 0, .long (r4.toInt64 - x11.toInt64), .retAddr 0]) (st' := []) lk_M163 lk_s163_234_5 rfl ?_
        exact H.forget (lk_le_s (lk_le_s (lk_le_s (lk_le_s (lk_le_s (lk_le_s (lk_le_s (lk_le_s (lk_le_s (lk_le_s (lk_le_s (lk_le_s (lk_le_s (lk_le_s (lk_le_d (lk_le_s (lk_le_d (lk_le_s lk_le_n))))))))))))))))))
      · refine lk_wp_seg (lo' := [.ref a0, .int x1, .int x2, .int x3, .int x4, .int x5, .retAddr 0, .int x7, .int x8, .int x9, .int x10, .int x11, .int x12, .int x13, .long (r2.toInt64 - x10.toInt64), .retAddr 0, .long (r4.toInt64 - x11.toInt64), .retAddr 0]) (st' := [.int 1, .int x12]) lk_M163 lk_s163_230_2 rfl ?_
        refine lk_wp_seg (lo' := [.ref a0, .int x1, .int x2, .int x3, .int x4, .int x5, .retAddr 0, .int x7, .int x8, .int x9, .int x10, .int x11, .int (x12 + 1), .int (x13 + 1), .long (r2.toInt64 - x10.toInt64), .retAddr 0, .long (r4.toInt64 - x11.toInt64), .retAddr 0]) (st' := []) lk_M163 lk_s163_235_4 rfl ?_
        exact H.forget (lk_le_s (lk_le_s (lk_le_s (lk_le_s (lk_le_s (lk_le_s (lk_le_s (lk_le_s (lk_le_s (lk_le_s (lk_le_s (lk_le_s (lk_le_s (lk_le_s (lk_le_d (lk_le_s (lk_le_d (lk_le_s lk_le_n))))))))))))))))))
/-! LonelyDotsModel.isLeast()Z -/
theorem lk_M164 : lk_mt[164]? = some (yX12_isLeast, cX12_isLeast, 4, ((some FieldType.boolean))) := rfl
theorem lk_s164_0_2 : lk_seg 164 [(.iconst 1, 1, (0, [], .int (1))), (.istore_n 1, 1, (0, [], .null))] 0 = some 2 := by decide +kernel
theorem lk_s164_2_2 : lk_seg 164 [(.iload_n 1, 1, (0, [], .null)), (.bipush 8, 2, (0, [], .int (8)))] 2 = some 5 := by decide +kernel
theorem lk_i164_5 : lk_ins 164 5 = some (.if_icmp .ge 57, 3, (62, [], .null)) := lk_eqE_eq (by decide +kernel)
theorem lk_s164_62_1 : lk_seg 164 [(.iconst 1, 1, (0, [], .int (1)))] 62 = some 63 := by decide +kernel
theorem lk_i164_63 : lk_ins 164 63 = some (.ireturn, 1, (0, [], .null)) := lk_eqE_eq (by decide +kernel)
theorem lk_s164_8_4 : lk_seg 164 [(.iconst 0, 1, (0, [], .int (0))), (.istore_n 2, 1, (0, [], .null)), (.iconst 0, 1, (0, [], .int (0))), (.istore_n 3, 1, (0, [], .null))] 8 = some 12 := by decide +kernel
theorem lk_s164_12_2 : lk_seg 164 [(.iload_n 3, 1, (0, [], .null)), (.aload_n 0, 1, (0, [], .null))] 12 = some 14 := by decide +kernel
theorem lk_i164_14 : lk_ins 164 14 = some (.getfield 25, 3, (5, [(11, 0)], .null)) := lk_eqE_eq (by decide +kernel)
theorem lk_s164_17_1 : lk_seg 164 [(.bipush 10, 2, (0, [], .int (10)))] 17 = some 19 := by decide +kernel
theorem lk_i164_19 : lk_ins 164 19 = some (.iaload, 1, (0, [], .null)) := lk_eqE_eq (by decide +kernel)
theorem lk_i164_20 : lk_ins 164 20 = some (.if_icmp .ge 30, 3, (50, [], .null)) := lk_eqE_eq (by decide +kernel)
theorem lk_s164_50_1 : lk_seg 164 [(.iload_n 2, 1, (0, [], .null))] 50 = some 51 := by decide +kernel
theorem lk_i164_51 : lk_ins 164 51 = some (.ifCond .ge 5, 3, (56, [], .null)) := lk_eqE_eq (by decide +kernel)
theorem lk_s164_56_2 : lk_seg 164 [(.iinc 1 1, 3, (0, [], .int (1))), (.goto (-57), 3, (2, [], .null))] 56 = some 2 := by decide +kernel
theorem lk_s164_54_1 : lk_seg 164 [(.iconst 0, 1, (0, [], .int (0)))] 54 = some 55 := by decide +kernel
theorem lk_i164_55 : lk_ins 164 55 = some (.ireturn, 1, (0, [], .null)) := lk_eqE_eq (by decide +kernel)
theorem lk_s164_23_1 : lk_seg 164 [(.iload_n 2, 1, (0, [], .null))] 23 = some 24 := by decide +kernel
theorem lk_i164_24 : lk_ins 164 24 = some (.ifCond .ne 26, 3, (50, [], .null)) := lk_eqE_eq (by decide +kernel)
theorem lk_s164_27_4 : lk_seg 164 [(.aload_n 0, 1, (0, [], .null)), (.bipush 10, 2, (0, [], .int (10))), (.iload_n 1, 1, (0, [], .null)), (.iload_n 3, 1, (0, [], .null))] 27 = some 32 := by decide +kernel
theorem lk_i164_32 : lk_ins 164 32 = some (.invokevirtual 141, 3, (1, [(11, 139)], .ref 98)) := lk_eqE_eq (by decide +kernel)
theorem lk_s164_35_3 : lk_seg 164 [(.aload_n 0, 1, (0, [], .null)), (.bipush 10, 2, (0, [], .int (10))), (.iload_n 3, 1, (0, [], .null))] 35 = some 39 := by decide +kernel
theorem lk_i164_39 : lk_ins 164 39 = some (.invokevirtual 80, 3, (1, [(11, 122)], .ref 84)) := lk_eqE_eq (by decide +kernel)
theorem lk_s164_42_4 : lk_seg 164 [(.isub, 1, (0, [], .null)), (.istore_n 2, 1, (0, [], .null)), (.iinc 3 1, 3, (0, [], .int (1))), (.goto (-35), 3, (12, [], .null))] 42 = some 12 := by decide +kernel
set_option maxRecDepth 20000 in
theorem E_m_isLeast {X : lk_X} {d : Nat} {a0 : Nat} {h : lk_H} {Q : Option Value → lk_H → Prop} (H : lk_wp X (d + 1) 164 2 [.ref a0, .int 1, .retAddr 0, .retAddr 0] [] h Q) : lk_wx X (d + 1) 164 [.ref a0] h Q := by
  refine lk_enter (lo := [.ref a0, .retAddr 0, .retAddr 0, .retAddr 0]) lk_M164 rfl (Nat.le_of_ble_eq_true rfl) ?_
  refine lk_wp_seg (lo' := [.ref a0, .int 1, .retAddr 0, .retAddr 0]) (st' := []) lk_M164 lk_s164_0_2 rfl ?_
  exact H
set_option maxRecDepth 20000 in
theorem F_m_isLeast_2 {X : lk_X} {d : Nat} {x1 : Int32} {a0 : Nat} {h : lk_H} {Q : Option Value → lk_H → Prop} (H : (8 ≤ x1 → Q (some (.int 1)) h) ∧ (¬ 8 ≤ x1 → lk_wp X (d + 1) 164 12 [.ref a0, .int x1, .int 0, .int 0] [] h Q)) : lk_wp X (d + 1) 164 2 [.ref a0, .int x1, .retAddr 0, .retAddr 0] [] h Q := by
  refine lk_wp_seg (lo' := [.ref a0, .int x1, .retAddr 0, .retAddr 0]) (st' := [.int 8, .int x1]) lk_M164 lk_s164_2_2 rfl ?_
  refine lk_wp_ic_ge lk_i164_5 lk_M164 H (fun H => ?_) (fun H => ?_)
  · refine lk_wp_seg (lo' := [.ref a0, .int x1, .retAddr 0, .retAddr 0]) (st' := [.int 1]) lk_M164 lk_s164_62_1 rfl ?_
    exact lk_wp_ret lk_i164_63 lk_M164 rfl H
  · refine lk_wp_seg (lo' := [.ref a0, .int x1, .int 0, .int 0]) (st' := []) lk_M164 lk_s164_8_4 rfl ?_
    exact H
set_option maxRecDepth 20000 in
theorem F_m_isLeast_12 {X : lk_X} {d : Nat} {x1 x2 x3 : Int32} {a0 : Nat} {h : lk_H} {Q : Option Value → lk_H → Prop} (H : lk_fR h a0 5 [(11, 0)] (fun r1 => lk_ai h r1 10 (fun r2 => (r2 ≤ x3 → (0 ≤ x2 → lk_wp X (d + 1) 164 2 [.ref a0, .int (x1 + 1), .retAddr 0, .retAddr 0] [] h Q) ∧ (¬ 0 ≤ x2 → Q (some (.int 0)) h)) ∧ (¬ r2 ≤ x3 → (¬ x2 = 0 → (0 ≤ x2 → lk_wp X (d + 1) 164 2 [.ref a0, .int (x1 + 1), .retAddr 0, .retAddr 0] [] h Q) ∧ (¬ 0 ≤ x2 → Q (some (.int 0)) h)) ∧ (x2 = 0 → lk_vc h a0 [(11, 139)] (fun k8 => lk_wxi X d k8 [.ref a0, .int 10, .int x1, .int x3] h (fun r4 h3 => lk_vc h3 a0 [(11, 122)] (fun k7 => lk_wxi X d k7 [.ref a0, .int 10, .int x3] h3 (fun r6 h5 => lk_wp X (d + 1) 164 12 [.ref a0, .int x1, .int (r4 - r6), .int (x3 + 1)] [] h5 Q))))))))) : lk_wp X (d + 1) 164 12 [.ref a0, .int x1, .int x2, .int x3] [] h Q := by
  refine lk_wp_seg (lo' := [.ref a0, .int x1, .int x2, .int x3]) (st' := [.ref a0, .int x3]) lk_M164 lk_s164_12_2 rfl ?_
  refine lk_wp_fR lk_i164_14 lk_M164 H (fun r1 H => ?_)
  refine lk_wp_seg (lo' := [.ref a0, .int x1, .int x2, .int x3]) (st' := [.int 10, .ref r1, .int x3]) lk_M164 lk_s164_17_1 rfl ?_
  refine lk_wp_ai lk_i164_19 lk_M164 H (fun r2 H => ?_)
  refine lk_wp_ic_ge lk_i164_20 lk_M164 H (fun H => ?_) (fun H => ?_)
  · refine lk_wp_seg (lo' := [.ref a0, .int x1, .int x2, .int x3]) (st' := [.int x2]) lk_M164 lk_s164_50_1 rfl ?_
    refine lk_wp_if_ge lk_i164_51 lk_M164 H (fun H => ?_) (fun H => ?_)
    · refine lk_wp_seg (lo' := [.ref a0, .int (x1 + 1), .int x2, .int x3]) (st' := []) lk_M164 lk_s164_56_2 rfl ?_
      exact H.forget (lk_le_s (lk_le_s (lk_le_d (lk_le_d lk_le_n))))
    · refine lk_wp_seg (lo' := [.ref a0, .int x1, .int x2, .int x3]) (st' := [.int 0]) lk_M164 lk_s164_54_1 rfl ?_
      exact lk_wp_ret lk_i164_55 lk_M164 rfl H
  · refine lk_wp_seg (lo' := [.ref a0, .int x1, .int x2, .int x3]) (st' := [.int x2]) lk_M164 lk_s164_23_1 rfl ?_
    refine lk_wp_if_ne lk_i164_24 lk_M164 H (fun H => ?_) (fun H => ?_)
    · refine lk_wp_seg (lo' := [.ref a0, .int x1, .int x2, .int x3]) (st' := [.int x2]) lk_M164 lk_s164_50_1 rfl ?_
      refine lk_wp_if_ge lk_i164_51 lk_M164 H (fun H => ?_) (fun H => ?_)
      · refine lk_wp_seg (lo' := [.ref a0, .int (x1 + 1), .int x2, .int x3]) (st' := []) lk_M164 lk_s164_56_2 rfl ?_
        exact H.forget (lk_le_s (lk_le_s (lk_le_d (lk_le_d lk_le_n))))
      · refine lk_wp_seg (lo' := [.ref a0, .int x1, .int x2, .int x3]) (st' := [.int 0]) lk_M164 lk_s164_54_1 rfl ?_
        exact lk_wp_ret lk_i164_55 lk_M164 rfl H
    · refine lk_wp_seg (lo' := [.ref a0, .int x1, .int x2, .int x3]) (st' := [.int x3, .int x1, .int 10, .ref a0]) lk_M164 lk_s164_27_4 rfl ?_
      refine lk_wp_cv (as := [.int 10, .int x1, .int x3]) (r := []) (a := a0) lk_i164_32 lk_M164 rfl rfl rfl (Nat.le_of_ble_eq_true rfl) H (fun k8 H => lk_gi H (fun r4 h3 H => ?_))
      refine lk_wp_seg (lo' := [.ref a0, .int x1, .int x2, .int x3]) (st' := [.int x3, .int 10, .ref a0, .int r4]) lk_M164 lk_s164_35_3 rfl ?_
      refine lk_wp_cv (as := [.int 10, .int x3]) (r := [.int r4]) (a := a0) lk_i164_39 lk_M164 rfl rfl rfl (Nat.le_of_ble_eq_true rfl) H (fun k7 H => lk_gi H (fun r6 h5 H => ?_))
      refine lk_wp_seg (lo' := [.ref a0, .int x1, .int (r4 - r6), .int (x3 + 1)]) (st' := []) lk_M164 lk_s164_42_4 rfl ?_
      exact H
/-! LonelyDotsModel.lonely(II)I -/
theorem lk_M165 : lk_mt[165]? = some (yX12_lonely, cX12_lonely, 4, ((some FieldType.int))) := rfl
theorem lk_s165_0_4 : lk_seg 165 [(.iload_n 1, 1, (0, [], .null)), (.i2l, 1, (0, [], .null)), (.lconst 1, 1, (0, [], .long 1)), (.ldc2_w 58, 3, (0, [], .long (7)))] 0 = some 6 := by decide +kernel
theorem lk_i165_6 : lk_ins 165 6 = some (.invokestatic 60, 3, (0, [(0, 112)], .ref 80)) := lk_eqE_eq (by decide +kernel)
theorem lk_i165_9 : lk_ins 165 9 = some (.ifCond .eq 13, 3, (22, [], .null)) := lk_eqE_eq (by decide +kernel)
theorem lk_s165_22_1 : lk_seg 165 [(.ldc 70, 2, (0, [], .int (-1000001)))] 22 = some 24 := by decide +kernel
theorem lk_i165_24 : lk_ins 165 24 = some (.ireturn, 1, (0, [], .null)) := lk_eqE_eq (by decide +kernel)
theorem lk_s165_12_4 : lk_seg 165 [(.iload_n 2, 1, (0, [], .null)), (.i2l, 1, (0, [], .null)), (.lconst 0, 1, (0, [], .long 0)), (.lconst 1, 1, (0, [], .long 1))] 12 = some 16 := by decide +kernel
theorem lk_i165_16 : lk_ins 165 16 = some (.invokestatic 60, 3, (0, [(0, 112)], .ref 80)) := lk_eqE_eq (by decide +kernel)
theorem lk_i165_19 : lk_ins 165 19 = some (.ifCond .ne 6, 3, (25, [], .null)) := lk_eqE_eq (by decide +kernel)
theorem lk_s165_25_1 : lk_seg 165 [(.aload_n 0, 1, (0, [], .null))] 25 = some 26 := by decide +kernel
theorem lk_i165_26 : lk_ins 165 26 = some (.getfield 41, 3, (12, [(11, 0)], .null)) := lk_eqE_eq (by decide +kernel)
theorem lk_s165_29_1 : lk_seg 165 [(.iload_n 1, 1, (0, [], .null))] 29 = some 30 := by decide +kernel
theorem lk_i165_30 : lk_ins 165 30 = some (.iaload, 1, (0, [], .null)) := lk_eqE_eq (by decide +kernel)
theorem lk_i165_31 : lk_ins 165 31 = some (.ifCond .ne 63, 3, (94, [], .null)) := lk_eqE_eq (by decide +kernel)
theorem lk_s165_94_1 : lk_seg 165 [(.iload_n 2, 1, (0, [], .null))] 94 = some 95 := by decide +kernel
theorem lk_i165_95 : lk_ins 165 95 = some (.ifCond .ne 12, 3, (107, [], .null)) := lk_eqE_eq (by decide +kernel)
theorem lk_s165_107_1 : lk_seg 165 [(.aload_n 0, 1, (0, [], .null))] 107 = some 108 := by decide +kernel
theorem lk_i165_108 : lk_ins 165 108 = some (.getfield 44, 3, (13, [(11, 0)], .null)) := lk_eqE_eq (by decide +kernel)
theorem lk_s165_111_1 : lk_seg 165 [(.iload_n 1, 1, (0, [], .null))] 111 = some 112 := by decide +kernel
theorem lk_i165_112 : lk_ins 165 112 = some (.iaload, 1, (0, [], .null)) := lk_eqE_eq (by decide +kernel)
theorem lk_i165_113 : lk_ins 165 113 = some (.ireturn, 1, (0, [], .null)) := lk_eqE_eq (by decide +kernel)
theorem lk_s165_98_1 : lk_seg 165 [(.aload_n 0, 1, (0, [], .null))] 98 = some 99 := by decide +kernel
theorem lk_i165_99 : lk_ins 165 99 = some (.getfield 41, 3, (12, [(11, 0)], .null)) := lk_eqE_eq (by decide +kernel)
theorem lk_s165_102_1 : lk_seg 165 [(.iload_n 1, 1, (0, [], .null))] 102 = some 103 := by decide +kernel
theorem lk_i165_103 : lk_ins 165 103 = some (.iaload, 1, (0, [], .null)) := lk_eqE_eq (by decide +kernel)
theorem lk_s165_104_1 : lk_seg 165 [(.goto 9, 3, (113, [], .null))] 104 = some 113 := by decide +kernel
theorem lk_s165_34_2 : lk_seg 165 [(.aload_n 0, 1, (0, [], .null)), (.iload_n 1, 1, (0, [], .null))] 34 = some 36 := by decide +kernel
theorem lk_i165_36 : lk_ins 165 36 = some (.invokevirtual 144, 3, (1, [(11, 142)], .ref 99)) := lk_eqE_eq (by decide +kernel)
theorem lk_s165_39_2 : lk_seg 165 [(.iconst 1, 1, (0, [], .int (1))), (.istore_n 3, 1, (0, [], .null))] 39 = some 41 := by decide +kernel
theorem lk_s165_41_1 : lk_seg 165 [(.iload_n 3, 1, (0, [], .null))] 41 = some 42 := by decide +kernel
theorem lk_i165_42 : lk_ins 165 42 = some (.ifCond .eq 52, 3, (94, [], .null)) := lk_eqE_eq (by decide +kernel)
theorem lk_s165_45_3 : lk_seg 165 [(.aload_n 0, 1, (0, [], .null)), (.bipush 10, 2, (0, [], .int (10))), (.iconst 1, 1, (0, [], .int (1)))] 45 = some 49 := by decide +kernel
theorem lk_i165_49 : lk_ins 165 49 = some (.invokevirtual 89, 3, (1, [(11, 124)], .ref 86)) := lk_eqE_eq (by decide +kernel)
theorem lk_i165_52 : lk_ins 165 52 = some (.ifCond .ne 34, 3, (86, [], .null)) := lk_eqE_eq (by decide +kernel)
theorem lk_s165_86_1 : lk_seg 165 [(.aload_n 0, 1, (0, [], .null))] 86 = some 87 := by decide +kernel
theorem lk_i165_87 : lk_ins 165 87 = some (.invokevirtual 148, 3, (1, [(11, 143)], .ref 100)) := lk_eqE_eq (by decide +kernel)
theorem lk_s165_90_2 : lk_seg 165 [(.istore_n 3, 1, (0, [], .null)), (.goto (-50), 3, (41, [], .null))] 90 = some 41 := by decide +kernel
theorem lk_s165_55_1 : lk_seg 165 [(.aload_n 0, 1, (0, [], .null))] 55 = some 56 := by decide +kernel
theorem lk_i165_56 : lk_ins 165 56 = some (.getfield 41, 3, (12, [(11, 0)], .null)) := lk_eqE_eq (by decide +kernel)
theorem lk_s165_59_2 : lk_seg 165 [(.iload_n 1, 1, (0, [], .null)), (.dup2, 1, (0, [], .null))] 59 = some 61 := by decide +kernel
theorem lk_i165_61 : lk_ins 165 61 = some (.iaload, 1, (0, [], .null)) := lk_eqE_eq (by decide +kernel)
theorem lk_s165_62_2 : lk_seg 165 [(.iconst 1, 1, (0, [], .int (1))), (.iadd, 1, (0, [], .null))] 62 = some 64 := by decide +kernel
theorem lk_i165_64 : lk_ins 165 64 = some (.iastore, 1, (0, [], .null)) := lk_eqE_eq (by decide +kernel)
theorem lk_s165_65_1 : lk_seg 165 [(.aload_n 0, 1, (0, [], .null))] 65 = some 66 := by decide +kernel
theorem lk_i165_66 : lk_ins 165 66 = some (.getfield 44, 3, (13, [(11, 0)], .null)) := lk_eqE_eq (by decide +kernel)
theorem lk_s165_69_2 : lk_seg 165 [(.iload_n 1, 1, (0, [], .null)), (.dup2, 1, (0, [], .null))] 69 = some 71 := by decide +kernel
theorem lk_i165_71 : lk_ins 165 71 = some (.iaload, 1, (0, [], .null)) := lk_eqE_eq (by decide +kernel)
theorem lk_s165_72_1 : lk_seg 165 [(.aload_n 0, 1, (0, [], .null))] 72 = some 73 := by decide +kernel
theorem lk_i165_73 : lk_ins 165 73 = some (.invokevirtual 186, 3, (1, [(11, 164)], .ref 108)) := lk_eqE_eq (by decide +kernel)
theorem lk_i165_76 : lk_ins 165 76 = some (.ifCond .eq 7, 3, (83, [], .null)) := lk_eqE_eq (by decide +kernel)
theorem lk_s165_83_2 : lk_seg 165 [(.iconst 0, 1, (0, [], .int (0))), (.iadd, 1, (0, [], .null))] 83 = some 85 := by decide +kernel
theorem lk_i165_85 : lk_ins 165 85 = some (.iastore, 1, (0, [], .null)) := lk_eqE_eq (by decide +kernel)
theorem lk_s165_79_2 : lk_seg 165 [(.iconst 1, 1, (0, [], .int (1))), (.goto 4, 3, (84, [], .null))] 79 = some 84 := by decide +kernel
theorem lk_s165_84_1 : lk_seg 165 [(.iadd, 1, (0, [], .null))] 84 = some 85 := by decide +kernel
set_option maxRecDepth 20000 in
theorem E_m_lonely {X : lk_X} {d : Nat} {x1 x2 : Int32} {a0 : Nat} {h : lk_H} {Q : Option Value → lk_H → Prop} (H : lk_wxi X d 112 [.long (x1.toInt64), .long 1, .long 7] h (fun r2 h1 => (r2 = 0 → Q (some (.int ((-1000001)))) h1) ∧ (¬ r2 = 0 → lk_wxi X d 112 [.long (x2.toInt64), .long 0, .long 1] h1 (fun r4 h3 => (¬ r4 = 0 → lk_fR h3 a0 12 [(11, 0)] (fun r5 => lk_ai h3 r5 x1 (fun r6 => (¬ r6 = 0 → (¬ x2 = 0 → lk_fR h3 a0 13 [(11, 0)] (fun r7 => lk_ai h3 r7 x1 (fun r8 => Q (some (.int r8)) h3))) ∧ (x2 = 0 → lk_fR h3 a0 12 [(11, 0)] (fun r9 => lk_ai h3 r9 x1 (fun r10 => Q (some (.int r10)) h3)))) ∧ (r6 = 0 → lk_vc h3 a0 [(11, 142)] (fun k12 => lk_wxv X d k12 [.ref a0, .int x1] h3 (fun h11 => lk_wp X (d + 1) 165 41 [.ref a0, .int x1, .int x2, .int 1] [] h11 Q)))))) ∧ (r4 = 0 → Q (some (.int ((-1000001)))) h3))))) : lk_wx X (d + 1) 165 [.ref a0, .int x1, .int x2] h Q := by
  refine lk_enter (lo := [.ref a0, .int x1, .int x2, .retAddr 0]) lk_M165 rfl (Nat.le_of_ble_eq_true rfl) ?_
  refine lk_wp_seg (lo' := [.ref a0, .int x1, .int x2, .retAddr 0]) (st' := [.long 7, .long 1, .long (x1.toInt64)]) lk_M165 lk_s165_0_4 rfl ?_
  refine lk_wp_cs (as := [.long (x1.toInt64), .long 1, .long 7]) (r := []) lk_i165_6 lk_M165 rfl rfl rfl rfl (Nat.le_of_ble_eq_true rfl) (lk_gi H (fun r2 h1 H => ?_))
  refine lk_wp_if_eq lk_i165_9 lk_M165 H (fun H => ?_) (fun H => ?_)
  · refine lk_wp_seg (lo' := [.ref a0, .int x1, .int x2, .retAddr 0]) (st' := [.int ((-1000001))]) lk_M165 lk_s165_22_1 rfl ?_
    exact lk_wp_ret lk_i165_24 lk_M165 rfl H
  · refine lk_wp_seg (lo' := [.ref a0, .int x1, .int x2, .retAddr 0]) (st' := [.long 1, .long 0, .long (x2.toInt64)]) lk_M165 lk_s165_12_4 rfl ?_
    refine lk_wp_cs (as := [.long (x2.toInt64), .long 0, .long 1]) (r := []) lk_i165_16 lk_M165 rfl rfl rfl rfl (Nat.le_of_ble_eq_true rfl) (lk_gi H (fun r4 h3 H => ?_))
    refine lk_wp_if_ne lk_i165_19 lk_M165 H (fun H => ?_) (fun H => ?_)
    · refine lk_wp_seg (lo' := [.ref a0, .int x1, .int x2, .retAddr 0]) (st' := [.ref a0]) lk_M165 lk_s165_25_1 rfl ?_
      refine lk_wp_fR lk_i165_26 lk_M165 H (fun r5 H => ?_)
      refine lk_wp_seg (lo' := [.ref a0, .int x1, .int x2, .retAddr 0]) (st' := [.int x1, .ref r5]) lk_M165 lk_s165_29_1 rfl ?_
      refine lk_wp_ai lk_i165_30 lk_M165 H (fun r6 H => ?_)
      refine lk_wp_if_ne lk_i165_31 lk_M165 H (fun H => ?_) (fun H => ?_)
      · refine lk_wp_seg (lo' := [.ref a0, .int x1, .int x2, .retAddr 0]) (st' := [.int x2]) lk_M165 lk_s165_94_1 rfl ?_
        refine lk_wp_if_ne lk_i165_95 lk_M165 H (fun H => ?_) (fun H => ?_)
        · refine lk_wp_seg (lo' := [.ref a0, .int x1, .int x2, .retAddr 0]) (st' := [.ref a0]) lk_M165 lk_s165_107_1 rfl ?_
          refine lk_wp_fR lk_i165_108 lk_M165 H (fun r7 H => ?_)
          refine lk_wp_seg (lo' := [.ref a0, .int x1, .int x2, .retAddr 0]) (st' := [.int x1, .ref r7]) lk_M165 lk_s165_111_1 rfl ?_
          refine lk_wp_ai lk_i165_112 lk_M165 H (fun r8 H => ?_)
          exact lk_wp_ret lk_i165_113 lk_M165 rfl H
        · refine lk_wp_seg (lo' := [.ref a0, .int x1, .int x2, .retAddr 0]) (st' := [.ref a0]) lk_M165 lk_s165_98_1 rfl ?_
          refine lk_wp_fR lk_i165_99 lk_M165 H (fun r9 H => ?_)
          refine lk_wp_seg (lo' := [.ref a0, .int x1, .int x2, .retAddr 0]) (st' := [.int x1, .ref r9]) lk_M165 lk_s165_102_1 rfl ?_
          refine lk_wp_ai lk_i165_103 lk_M165 H (fun r10 H => ?_)
          refine lk_wp_seg (lo' := [.ref a0, .int x1, .int x2, .retAddr 0]) (st' := [.int r10]) lk_M165 lk_s165_104_1 rfl ?_
          exact lk_wp_ret lk_i165_113 lk_M165 rfl H
      · refine lk_wp_seg (lo' := [.ref a0, .int x1, .int x2, .retAddr 0]) (st' := [.int x1, .ref a0]) lk_M165 lk_s165_34_2 rfl ?_
        refine lk_wp_cv (as := [.int x1]) (r := []) (a := a0) lk_i165_36 lk_M165 rfl rfl rfl (Nat.le_of_ble_eq_true rfl) H (fun k12 H => lk_gv H (fun h11 H => ?_))
        refine lk_wp_seg (lo' := [.ref a0, .int x1, .int x2, .int 1]) (st' := []) lk_M165 lk_s165_39_2 rfl ?_
        exact H
    · refine lk_wp_seg (lo' := [.ref a0, .int x1, .int x2, .retAddr 0]) (st' := [.int ((-1000001))]) lk_M165 lk_s165_22_1 rfl ?_
      exact lk_wp_ret lk_i165_24 lk_M165 rfl H
set_option maxRecDepth 20000 in
theorem F_m_lonely_41 {X : lk_X} {d : Nat} {x1 x2 x3 : Int32} {a0 : Nat} {h : lk_H} {Q : Option Value → lk_H → Prop} (H : (x3 = 0 → (¬ x2 = 0 → lk_fR h a0 13 [(11, 0)] (fun r1 => lk_ai h r1 x1 (fun r2 => Q (some (.int r2)) h))) ∧ (x2 = 0 → lk_fR h a0 12 [(11, 0)] (fun r3 => lk_ai h r3 x1 (fun r4 => Q (some (.int r4)) h)))) ∧ (¬ x3 = 0 → lk_vc h a0 [(11, 124)] (fun k26 => lk_wxi X d k26 [.ref a0, .int 10, .int 1] h (fun r6 h5 => (¬ r6 = 0 → lk_vc h5 a0 [(11, 143)] (fun k9 => lk_wxi X d k9 [.ref a0] h5 (fun r8 h7 => lk_wp X (d + 1) 165 41 [.ref a0, .int x1, .int x2, .int r8] [] h7 Q))) ∧ (r6 = 0 → lk_fR h5 a0 12 [(11, 0)] (fun r10 => lk_ai h5 r10 x1 (fun r11 => lk_as h5 r10 x1 (r11 + 1) (fun h12 => lk_fR h12 a0 13 [(11, 0)] (fun r13 => lk_ai h12 r13 x1 (fun r14 => lk_vc h12 a0 [(11, 164)] (fun k25 => lk_wxi X d k25 [.ref a0] h12 (fun r16 h15 => (r16 = 0 → lk_as h15 r13 x1 (r14 + 0) (fun h17 => lk_vc h17 a0 [(11, 143)] (fun k20 => lk_wxi X d k20 [.ref a0] h17 (fun r19 h18 => lk_wp X (d + 1) 165 41 [.ref a0, .int x1, .int x2, .int r19] [] h18 Q)))) ∧ (¬ r16 = 0 → lk_as h15 r13 x1 (r14 + 1) (fun h21 => lk_vc h21 a0 [(11, 143)] (fun k24 => lk_wxi X d k24 [.ref a0] h21 (fun r23 h22 => lk_wp X (d + 1) 165 41 [.ref a0, .int x1, .int x2, .int r23] [] h22 Q)))))))))))))))) : lk_wp X (d + 1) 165 41 [.ref a0, .int x1, .int x2, .int x3] [] h Q := by
  refine lk_wp_seg (lo' := [.ref a0, .int x1, .int x2, .int x3]) (st' := [.int x3]) lk_M165 lk_s165_41_1 rfl ?_
  refine lk_wp_if_eq lk_i165_42 lk_M165 H (fun H => ?_) (fun H => ?_)
  · refine lk_wp_seg (lo' := [.ref a0, .int x1, .int x2, .int x3]) (st' := [.int x2]) lk_M165 lk_s165_94_1 rfl ?_
    refine lk_wp_if_ne lk_i165_95 lk_M165 H (fun H => ?_) (fun H => ?_)
    · refine lk_wp_seg (lo' := [.ref a0, .int x1, .int x2, .int x3]) (st' := [.ref a0]) lk_M165 lk_s165_107_1 rfl ?_
      refine lk_wp_fR lk_i165_108 lk_M165 H (fun r1 H => ?_)
      refine lk_wp_seg (lo' := [.ref a0, .int x1, .int x2, .int x3]) (st' := [.int x1, .ref r1]) lk_M165 lk_s165_111_1 rfl ?_
      refine lk_wp_ai lk_i165_112 lk_M165 H (fun r2 H => ?_)
      exact lk_wp_ret lk_i165_113 lk_M165 rfl H
    · refine lk_wp_seg (lo' := [.ref a0, .int x1, .int x2, .int x3]) (st' := [.ref a0]) lk_M165 lk_s165_98_1 rfl ?_
      refine lk_wp_fR lk_i165_99 lk_M165 H (fun r3 H => ?_)
      refine lk_wp_seg (lo' := [.ref a0, .int x1, .int x2, .int x3]) (st' := [.int x1, .ref r3]) lk_M165 lk_s165_102_1 rfl ?_
      refine lk_wp_ai lk_i165_103 lk_M165 H (fun r4 H => ?_)
      refine lk_wp_seg (lo' := [.ref a0, .int x1, .int x2, .int x3]) (st' := [.int r4]) lk_M165 lk_s165_104_1 rfl ?_
      exact lk_wp_ret lk_i165_113 lk_M165 rfl H
  · refine lk_wp_seg (lo' := [.ref a0, .int x1, .int x2, .int x3]) (st' := [.int 1, .int 10, .ref a0]) lk_M165 lk_s165_45_3 rfl ?_
    refine lk_wp_cv (as := [.int 10, .int 1]) (r := []) (a := a0) lk_i165_49 lk_M165 rfl rfl rfl (Nat.le_of_ble_eq_true rfl) H (fun k26 H => lk_gi H (fun r6 h5 H => ?_))
    refine lk_wp_if_ne lk_i165_52 lk_M165 H (fun H => ?_) (fun H => ?_)
    · refine lk_wp_seg (lo' := [.ref a0, .int x1, .int x2, .int x3]) (st' := [.ref a0]) lk_M165 lk_s165_86_1 rfl ?_
      refine lk_wp_cv (as := []) (r := []) (a := a0) lk_i165_87 lk_M165 rfl rfl rfl (Nat.le_of_ble_eq_true rfl) H (fun k9 H => lk_gi H (fun r8 h7 H => ?_))
      refine lk_wp_seg (lo' := [.ref a0, .int x1, .int x2, .int r8]) (st' := []) lk_M165 lk_s165_90_2 rfl ?_
      exact H
    · refine lk_wp_seg (lo' := [.ref a0, .int x1, .int x2, .int x3]) (st' := [.ref a0]) lk_M165 lk_s165_55_1 rfl ?_
      refine lk_wp_fR lk_i165_56 lk_M165 H (fun r10 H => ?_)
      refine lk_wp_seg (lo' := [.ref a0, .int x1, .int x2, .int x3]) (st' := [.int x1, .ref r10, .int x1, .ref r10]) lk_M165 lk_s165_59_2 rfl ?_
      refine lk_wp_ai lk_i165_61 lk_M165 H (fun r11 H => ?_)
      refine lk_wp_seg (lo' := [.ref a0, .int x1, .int x2, .int x3]) (st' := [.int (r11 + 1), .int x1, .ref r10]) lk_M165 lk_s165_62_2 rfl ?_
      refine lk_wp_as lk_i165_64 lk_M165 H (fun h12 H => ?_)
      refine lk_wp_seg (lo' := [.ref a0, .int x1, .int x2, .int x3]) (st' := [.ref a0]) lk_M165 lk_s165_65_1 rfl ?_
      refine lk_wp_fR lk_i165_66 lk_M165 H (fun r13 H => ?_)
      refine lk_wp_seg (lo' := [.ref a0, .int x1, .int x2, .int x3]) (st' := [.int x1, .ref r13, .int x1, .ref r13]) lk_M165 lk_s165_69_2 rfl ?_
      refine lk_wp_ai lk_i165_71 lk_M165 H (fun r14 H => ?_)
      refine lk_wp_seg (lo' := [.ref a0, .int x1, .int x2, .int x3]) (st' := [.ref a0, .int r14, .int x1, .ref r13]) lk_M165 lk_s165_72_1 rfl ?_
      refine lk_wp_cv (as := []) (r := [.int r14, .int x1, .ref r13]) (a := a0) lk_i165_73 lk_M165 rfl rfl rfl (Nat.le_of_ble_eq_true rfl) H (fun k25 H => lk_gi H (fun r16 h15 H => ?_))
      refine lk_wp_if_eq lk_i165_76 lk_M165 H (fun H => ?_) (fun H => ?_)
      · refine lk_wp_seg (lo' := [.ref a0, .int x1, .int x2, .int x3]) (st' := [.int (r14 + 0), .int x1, .ref r13]) lk_M165 lk_s165_83_2 rfl ?_
        refine lk_wp_as lk_i165_85 lk_M165 H (fun h17 H => ?_)
        refine lk_wp_seg (lo' := [.ref a0, .int x1, .int x2, .int x3]) (st' := [.ref a0]) lk_M165 lk_s165_86_1 rfl ?_
        refine lk_wp_cv (as := []) (r := []) (a := a0) lk_i165_87 lk_M165 rfl rfl rfl (Nat.le_of_ble_eq_true rfl) H (fun k20 H => lk_gi H (fun r19 h18 H => ?_))
        refine lk_wp_seg (lo' := [.ref a0, .int x1, .int x2, .int r19]) (st' := []) lk_M165 lk_s165_90_2 rfl ?_
        exact H
      · refine lk_wp_seg (lo' := [.ref a0, .int x1, .int x2, .int x3]) (st' := [.int 1, .int r14, .int x1, .ref r13]) lk_M165 lk_s165_79_2 rfl ?_
        refine lk_wp_seg (lo' := [.ref a0, .int x1, .int x2, .int x3]) (st' := [.int (r14 + 1), .int x1, .ref r13]) lk_M165 lk_s165_84_1 rfl ?_
        refine lk_wp_as lk_i165_85 lk_M165 H (fun h21 H => ?_)
        refine lk_wp_seg (lo' := [.ref a0, .int x1, .int x2, .int x3]) (st' := [.ref a0]) lk_M165 lk_s165_86_1 rfl ?_
        refine lk_wp_cv (as := []) (r := []) (a := a0) lk_i165_87 lk_M165 rfl rfl rfl (Nat.le_of_ble_eq_true rfl) H (fun k24 H => lk_gi H (fun r23 h22 H => ?_))
        refine lk_wp_seg (lo' := [.ref a0, .int x1, .int x2, .int r23]) (st' := []) lk_M165 lk_s165_90_2 rfl ?_
        exact H
/-! LonelyDotsModel.canBe(II)Z -/
theorem lk_M166 : lk_mt[166]? = some (yX12_canBe, cX12_canBe, 6, ((some FieldType.boolean))) := rfl
theorem lk_s166_0_3 : lk_seg 166 [(.iconst 0, 1, (0, [], .int (0))), (.istore_n 3, 1, (0, [], .null)), (.aload_n 0, 1, (0, [], .null))] 0 = some 3 := by decide +kernel
theorem lk_i166_3 : lk_ins 166 3 = some (.getfield 50, 3, (16, [(11, 0)], .null)) := lk_eqE_eq (by decide +kernel)
theorem lk_s166_6_2 : lk_seg 166 [(.iconst 0, 1, (0, [], .int (0))), (.iconst 0, 1, (0, [], .int (0)))] 6 = some 8 := by decide +kernel
theorem lk_i166_8 : lk_ins 166 8 = some (.iastore, 1, (0, [], .null)) := lk_eqE_eq (by decide +kernel)
theorem lk_s166_9_1 : lk_seg 166 [(.iload_n 3, 1, (0, [], .null))] 9 = some 10 := by decide +kernel
theorem lk_i166_10 : lk_ins 166 10 = some (.ifCond .lt 169, 3, (179, [], .null)) := lk_eqE_eq (by decide +kernel)
theorem lk_s166_179_1 : lk_seg 166 [(.iconst 0, 1, (0, [], .int (0)))] 179 = some 180 := by decide +kernel
theorem lk_i166_180 : lk_ins 166 180 = some (.ireturn, 1, (0, [], .null)) := lk_eqE_eq (by decide +kernel)
theorem lk_s166_13_4 : lk_seg 166 [(.iconst 1, 1, (0, [], .int (1))), (.istore 4, 2, (0, [], .null)), (.iconst 0, 1, (0, [], .int (0))), (.istore 5, 2, (0, [], .null))] 13 = some 19 := by decide +kernel
theorem lk_s166_19_2 : lk_seg 166 [(.iload 5, 2, (0, [], .null)), (.iload_n 3, 1, (0, [], .null))] 19 = some 22 := by decide +kernel
theorem lk_i166_22 : lk_ins 166 22 = some (.if_icmp .gt 27, 3, (49, [], .null)) := lk_eqE_eq (by decide +kernel)
theorem lk_s166_49_1 : lk_seg 166 [(.aload_n 0, 1, (0, [], .null))] 49 = some 50 := by decide +kernel
theorem lk_i166_50 : lk_ins 166 50 = some (.getfield 25, 3, (5, [(11, 0)], .null)) := lk_eqE_eq (by decide +kernel)
theorem lk_s166_53_4 : lk_seg 166 [(.bipush 10, 2, (0, [], .int (10))), (.iload_n 3, 1, (0, [], .null)), (.iconst 1, 1, (0, [], .int (1))), (.iadd, 1, (0, [], .null))] 53 = some 58 := by decide +kernel
theorem lk_i166_58 : lk_ins 166 58 = some (.iastore, 1, (0, [], .null)) := lk_eqE_eq (by decide +kernel)
theorem lk_s166_59_1 : lk_seg 166 [(.aload_n 0, 1, (0, [], .null))] 59 = some 60 := by decide +kernel
theorem lk_i166_60 : lk_ins 166 60 = some (.getfield 50, 3, (16, [(11, 0)], .null)) := lk_eqE_eq (by decide +kernel)
theorem lk_s166_63_1 : lk_seg 166 [(.iload_n 3, 1, (0, [], .null))] 63 = some 64 := by decide +kernel
theorem lk_i166_64 : lk_ins 166 64 = some (.iaload, 1, (0, [], .null)) := lk_eqE_eq (by decide +kernel)
theorem lk_s166_65_1 : lk_seg 166 [(.iload_n 2, 1, (0, [], .null))] 65 = some 66 := by decide +kernel
theorem lk_i166_66 : lk_ins 166 66 = some (.if_icmp .gt 17, 3, (83, [], .null)) := lk_eqE_eq (by decide +kernel)
theorem lk_s166_83_3 : lk_seg 166 [(.iconst 0, 1, (0, [], .int (0))), (.istore 4, 2, (0, [], .null)), (.iload 4, 2, (0, [], .null))] 83 = some 88 := by decide +kernel
theorem lk_i166_88 : lk_ins 166 88 = some (.ifCond .eq 12, 3, (100, [], .null)) := lk_eqE_eq (by decide +kernel)
theorem lk_s166_100_1 : lk_seg 166 [(.iload 4, 2, (0, [], .null))] 100 = some 102 := by decide +kernel
theorem lk_i166_102 : lk_ins 166 102 = some (.ifCond .eq 25, 3, (127, [], .null)) := lk_eqE_eq (by decide +kernel)
theorem lk_s166_127_1 : lk_seg 166 [(.aload_n 0, 1, (0, [], .null))] 127 = some 128 := by decide +kernel
theorem lk_i166_128 : lk_ins 166 128 = some (.getfield 50, 3, (16, [(11, 0)], .null)) := lk_eqE_eq (by decide +kernel)
theorem lk_s166_131_1 : lk_seg 166 [(.iload_n 3, 1, (0, [], .null))] 131 = some 132 := by decide +kernel
theorem lk_i166_132 : lk_ins 166 132 = some (.iaload, 1, (0, [], .null)) := lk_eqE_eq (by decide +kernel)
theorem lk_s166_133_1 : lk_seg 166 [(.iload_n 2, 1, (0, [], .null))] 133 = some 134 := by decide +kernel
theorem lk_i166_134 : lk_ins 166 134 = some (.if_icmp .gt 7, 3, (141, [], .null)) := lk_eqE_eq (by decide +kernel)
theorem lk_s166_141_2 : lk_seg 166 [(.iinc 3 (-1), 3, (0, [], .int (-1))), (.iload_n 3, 1, (0, [], .null))] 141 = some 145 := by decide +kernel
theorem lk_i166_145 : lk_ins 166 145 = some (.ifCond .le 16, 3, (161, [], .null)) := lk_eqE_eq (by decide +kernel)
theorem lk_s166_161_3 : lk_seg 166 [(.iconst (-1), 1, (0, [], .int (-1))), (.istore_n 3, 1, (0, [], .null)), (.goto 13, 3, (176, [], .null))] 161 = some 176 := by decide +kernel
theorem lk_s166_176_1 : lk_seg 166 [(.goto (-167), 3, (9, [], .null))] 176 = some 9 := by decide +kernel
theorem lk_s166_148_1 : lk_seg 166 [(.aload_n 0, 1, (0, [], .null))] 148 = some 149 := by decide +kernel
theorem lk_i166_149 : lk_ins 166 149 = some (.getfield 50, 3, (16, [(11, 0)], .null)) := lk_eqE_eq (by decide +kernel)
theorem lk_s166_152_2 : lk_seg 166 [(.iload_n 3, 1, (0, [], .null)), (.dup2, 1, (0, [], .null))] 152 = some 154 := by decide +kernel
theorem lk_i166_154 : lk_ins 166 154 = some (.iaload, 1, (0, [], .null)) := lk_eqE_eq (by decide +kernel)
theorem lk_s166_155_2 : lk_seg 166 [(.iconst 1, 1, (0, [], .int (1))), (.iadd, 1, (0, [], .null))] 155 = some 157 := by decide +kernel
theorem lk_i166_157 : lk_ins 166 157 = some (.iastore, 1, (0, [], .null)) := lk_eqE_eq (by decide +kernel)
theorem lk_s166_158_1 : lk_seg 166 [(.goto 18, 3, (176, [], .null))] 158 = some 176 := by decide +kernel
theorem lk_s166_137_1 : lk_seg 166 [(.iload_n 3, 1, (0, [], .null))] 137 = some 138 := by decide +kernel
theorem lk_i166_138 : lk_ins 166 138 = some (.ifCond .ne 28, 3, (166, [], .null)) := lk_eqE_eq (by decide +kernel)
theorem lk_s166_166_1 : lk_seg 166 [(.aload_n 0, 1, (0, [], .null))] 166 = some 167 := by decide +kernel
theorem lk_i166_167 : lk_ins 166 167 = some (.getfield 50, 3, (16, [(11, 0)], .null)) := lk_eqE_eq (by decide +kernel)
theorem lk_s166_170_2 : lk_seg 166 [(.iload_n 3, 1, (0, [], .null)), (.dup2, 1, (0, [], .null))] 170 = some 172 := by decide +kernel
theorem lk_i166_172 : lk_ins 166 172 = some (.iaload, 1, (0, [], .null)) := lk_eqE_eq (by decide +kernel)
theorem lk_s166_173_2 : lk_seg 166 [(.iconst 1, 1, (0, [], .int (1))), (.iadd, 1, (0, [], .null))] 173 = some 175 := by decide +kernel
theorem lk_i166_175 : lk_ins 166 175 = some (.iastore, 1, (0, [], .null)) := lk_eqE_eq (by decide +kernel)
theorem lk_s166_69_3 : lk_seg 166 [(.aload_n 0, 1, (0, [], .null)), (.bipush 10, 2, (0, [], .int (10))), (.iconst 0, 1, (0, [], .int (0)))] 69 = some 73 := by decide +kernel
theorem lk_i166_73 : lk_ins 166 73 = some (.invokevirtual 89, 3, (1, [(11, 124)], .ref 86)) := lk_eqE_eq (by decide +kernel)
theorem lk_i166_76 : lk_ins 166 76 = some (.ifCond .ne 7, 3, (83, [], .null)) := lk_eqE_eq (by decide +kernel)
theorem lk_s166_79_2 : lk_seg 166 [(.iconst 1, 1, (0, [], .int (1))), (.goto 4, 3, (84, [], .null))] 79 = some 84 := by decide +kernel
theorem lk_s166_84_2 : lk_seg 166 [(.istore 4, 2, (0, [], .null)), (.iload 4, 2, (0, [], .null))] 84 = some 88 := by decide +kernel
theorem lk_s166_91_4 : lk_seg 166 [(.iload_n 3, 1, (0, [], .null)), (.iload_n 1, 1, (0, [], .null)), (.iconst 1, 1, (0, [], .int (1))), (.isub, 1, (0, [], .null))] 91 = some 95 := by decide +kernel
theorem lk_i166_95 : lk_ins 166 95 = some (.if_icmp .ne 5, 3, (100, [], .null)) := lk_eqE_eq (by decide +kernel)
theorem lk_s166_105_2 : lk_seg 166 [(.iinc 3 1, 3, (0, [], .int (1))), (.aload_n 0, 1, (0, [], .null))] 105 = some 109 := by decide +kernel
theorem lk_i166_109 : lk_ins 166 109 = some (.getfield 50, 3, (16, [(11, 0)], .null)) := lk_eqE_eq (by decide +kernel)
theorem lk_s166_112_2 : lk_seg 166 [(.iload_n 3, 1, (0, [], .null)), (.aload_n 0, 1, (0, [], .null))] 112 = some 114 := by decide +kernel
theorem lk_i166_114 : lk_ins 166 114 = some (.getfield 50, 3, (16, [(11, 0)], .null)) := lk_eqE_eq (by decide +kernel)
theorem lk_s166_117_3 : lk_seg 166 [(.iload_n 3, 1, (0, [], .null)), (.iconst 1, 1, (0, [], .int (1))), (.isub, 1, (0, [], .null))] 117 = some 120 := by decide +kernel
theorem lk_i166_120 : lk_ins 166 120 = some (.iaload, 1, (0, [], .null)) := lk_eqE_eq (by decide +kernel)
theorem lk_s166_121_2 : lk_seg 166 [(.iconst 1, 1, (0, [], .int (1))), (.iadd, 1, (0, [], .null))] 121 = some 123 := by decide +kernel
theorem lk_i166_123 : lk_ins 166 123 = some (.iastore, 1, (0, [], .null)) := lk_eqE_eq (by decide +kernel)
theorem lk_s166_124_1 : lk_seg 166 [(.goto 52, 3, (176, [], .null))] 124 = some 176 := by decide +kernel
theorem lk_s166_98_1 : lk_seg 166 [(.iconst 1, 1, (0, [], .int (1)))] 98 = some 99 := by decide +kernel
theorem lk_i166_99 : lk_ins 166 99 = some (.ireturn, 1, (0, [], .null)) := lk_eqE_eq (by decide +kernel)
theorem lk_s166_25_1 : lk_seg 166 [(.iload 4, 2, (0, [], .null))] 25 = some 27 := by decide +kernel
theorem lk_i166_27 : lk_ins 166 27 = some (.ifCond .eq 22, 3, (49, [], .null)) := lk_eqE_eq (by decide +kernel)
theorem lk_s166_30_3 : lk_seg 166 [(.aload_n 0, 1, (0, [], .null)), (.iload 5, 2, (0, [], .null)), (.aload_n 0, 1, (0, [], .null))] 30 = some 34 := by decide +kernel
theorem lk_i166_34 : lk_ins 166 34 = some (.getfield 50, 3, (16, [(11, 0)], .null)) := lk_eqE_eq (by decide +kernel)
theorem lk_s166_37_1 : lk_seg 166 [(.iload 5, 2, (0, [], .null))] 37 = some 39 := by decide +kernel
theorem lk_i166_39 : lk_ins 166 39 = some (.iaload, 1, (0, [], .null)) := lk_eqE_eq (by decide +kernel)
theorem lk_i166_40 : lk_ins 166 40 = some (.invokevirtual 105, 3, (1, [(11, 128)], .ref 90)) := lk_eqE_eq (by decide +kernel)
theorem lk_s166_43_2 : lk_seg 166 [(.iinc 5 1, 3, (0, [], .int (1))), (.goto (-27), 3, (19, [], .null))] 43 = some 19 := by decide +kernel
set_option maxRecDepth 20000 in
theorem E_m_canBe {X : lk_X} {d : Nat} {x1 x2 : Int32} {a0 : Nat} {h : lk_H} {Q : Option Value → lk_H → Prop} (H : lk_fR h a0 16 [(11, 0)] (fun r1 => lk_as h r1 0 0 (fun h2 => lk_wp X (d + 1) 166 9 [.ref a0, .int x1, .int x2, .int 0, .retAddr 0, .retAddr 0] [] h2 Q))) : lk_wx X (d + 1) 166 [.ref a0, .int x1, .int x2] h Q := by
  refine lk_enter (lo := [.ref a0, .int x1, .int x2, .retAddr 0, .retAddr 0, .retAddr 0]) lk_M166 rfl (Nat.le_of_ble_eq_true rfl) ?_
  refine lk_wp_seg (lo' := [.ref a0, .int x1, .int x2, .int 0, .retAddr 0, .retAddr 0]) (st' := [.ref a0]) lk_M166 lk_s166_0_3 rfl ?_
  refine lk_wp_fR lk_i166_3 lk_M166 H (fun r1 H => ?_)
  refine lk_wp_seg (lo' := [.ref a0, .int x1, .int x2, .int 0, .retAddr 0, .retAddr 0]) (st' := [.int 0, .int 0, .ref r1]) lk_M166 lk_s166_6_2 rfl ?_
  refine lk_wp_as lk_i166_8 lk_M166 H (fun h2 H => ?_)
  exact H
set_option maxRecDepth 20000 in
theorem F_m_canBe_9 {X : lk_X} {d : Nat} {x1 x2 x3 : Int32} {a0 : Nat} {h : lk_H} {Q : Option Value → lk_H → Prop} (H : (x3 < 0 → Q (some (.int 0)) h) ∧ (¬ x3 < 0 → lk_wp X (d + 1) 166 19 [.ref a0, .int x1, .int x2, .int x3, .int 1, .int 0] [] h Q)) : lk_wp X (d + 1) 166 9 [.ref a0, .int x1, .int x2, .int x3, .retAddr 0, .retAddr 0] [] h Q := by
  refine lk_wp_seg (lo' := [.ref a0, .int x1, .int x2, .int x3, .retAddr 0, .retAddr 0]) (st' := [.int x3]) lk_M166 lk_s166_9_1 rfl ?_
  refine lk_wp_if_lt lk_i166_10 lk_M166 H (fun H => ?_) (fun H => ?_)
  · refine lk_wp_seg (lo' := [.ref a0, .int x1, .int x2, .int x3, .retAddr 0, .retAddr 0]) (st' := [.int 0]) lk_M166 lk_s166_179_1 rfl ?_
    exact lk_wp_ret lk_i166_180 lk_M166 rfl H
  · refine lk_wp_seg (lo' := [.ref a0, .int x1, .int x2, .int x3, .int 1, .int 0]) (st' := []) lk_M166 lk_s166_13_4 rfl ?_
    exact H
set_option maxRecDepth 20000 in
theorem F_m_canBe_19 {X : lk_X} {d : Nat} {x1 x2 x3 x4 x5 : Int32} {a0 : Nat} {h : lk_H} {Q : Option Value → lk_H → Prop} (H : (x3 < x5 → lk_fR h a0 5 [(11, 0)] (fun r1 => lk_as h r1 10 (x3 + 1) (fun h2 => lk_fR h2 a0 16 [(11, 0)] (fun r3 => lk_ai h2 r3 x3 (fun r4 => (x2 < r4 → lk_fR h2 a0 16 [(11, 0)] (fun r5 => lk_ai h2 r5 x3 (fun r6 => (x2 < r6 → ((x3 + (-1)) ≤ 0 → lk_wp X (d + 1) 166 9 [.ref a0, .int x1, .int x2, .int ((-1)), .retAddr 0, .retAddr 0] [] h2 Q) ∧ (¬ (x3 + (-1)) ≤ 0 → lk_fR h2 a0 16 [(11, 0)] (fun r7 => lk_ai h2 r7 (x3 + (-1)) (fun r8 => lk_as h2 r7 (x3 + (-1)) (r8 + 1) (fun h9 => lk_wp X (d + 1) 166 9 [.ref a0, .int x1, .int x2, .int (x3 + (-1)), .retAddr 0, .retAddr 0] [] h9 Q))))) ∧ (¬ x2 < r6 → (¬ x3 = 0 → lk_fR h2 a0 16 [(11, 0)] (fun r10 => lk_ai h2 r10 x3 (fun r11 => lk_as h2 r10 x3 (r11 + 1) (fun h12 => lk_wp X (d + 1) 166 9 [.ref a0, .int x1, .int x2, .int x3, .retAddr 0, .retAddr 0] [] h12 Q)))) ∧ (x3 = 0 → ((x3 + (-1)) ≤ 0 → lk_wp X (d + 1) 166 9 [.ref a0, .int x1, .int x2, .int ((-1)), .retAddr 0, .retAddr 0] [] h2 Q) ∧ (¬ (x3 + (-1)) ≤ 0 → lk_fR h2 a0 16 [(11, 0)] (fun r13 => lk_ai h2 r13 (x3 + (-1)) (fun r14 => lk_as h2 r13 (x3 + (-1)) (r14 + 1) (fun h15 => lk_wp X (d + 1) 166 9 [.ref a0, .int x1, .int x2, .int (x3 + (-1)), .retAddr 0, .retAddr 0] [] h15 Q))))))))) ∧ (¬ x2 < r4 → lk_vc h2 a0 [(11, 124)] (fun k33 => lk_wxi X d k33 [.ref a0, .int 10, .int 0] h2 (fun r17 h16 => (¬ r17 = 0 → lk_fR h16 a0 16 [(11, 0)] (fun r18 => lk_ai h16 r18 x3 (fun r19 => (x2 < r19 → ((x3 + (-1)) ≤ 0 → lk_wp X (d + 1) 166 9 [.ref a0, .int x1, .int x2, .int ((-1)), .retAddr 0, .retAddr 0] [] h16 Q) ∧ (¬ (x3 + (-1)) ≤ 0 → lk_fR h16 a0 16 [(11, 0)] (fun r20 => lk_ai h16 r20 (x3 + (-1)) (fun r21 => lk_as h16 r20 (x3 + (-1)) (r21 + 1) (fun h22 => lk_wp X (d + 1) 166 9 [.ref a0, .int x1, .int x2, .int (x3 + (-1)), .retAddr 0, .retAddr 0] [] h22 Q))))) ∧ (¬ x2 < r19 → (¬ x3 = 0 → lk_fR h16 a0 16 [(11, 0)] (fun r23 => lk_ai h16 r23 x3 (fun r24 => lk_as h16 r23 x3 (r24 + 1) (fun h25 => lk_wp X (d + 1) 166 9 [.ref a0, .int x1, .int x2, .int x3, .retAddr 0, .retAddr 0] [] h25 Q)))) ∧ (x3 = 0 → ((x3 + (-1)) ≤ 0 → lk_wp X (d + 1) 166 9 [.ref a0, .int x1, .int x2, .int ((-1)), .retAddr 0, .retAddr 0] [] h16 Q) ∧ (¬ (x3 + (-1)) ≤ 0 → lk_fR h16 a0 16 [(11, 0)] (fun r26 => lk_ai h16 r26 (x3 + (-1)) (fun r27 => lk_as h16 r26 (x3 + (-1)) (r27 + 1) (fun h28 => lk_wp X (d + 1) 166 9 [.ref a0, .int x1, .int x2, .int (x3 + (-1)), .retAddr 0, .retAddr 0] [] h28 Q))))))))) ∧ (r17 = 0 → (¬ x3 = (x1 - 1) → lk_fR h16 a0 16 [(11, 0)] (fun r29 => lk_fR h16 a0 16 [(11, 0)] (fun r30 => lk_ai h16 r30 ((x3 + 1) - 1) (fun r31 => lk_as h16 r29 (x3 + 1) (r31 + 1) (fun h32 => lk_wp X (d + 1) 166 9 [.ref a0, .int x1, .int x2, .int (x3 + 1), .retAddr 0, .retAddr 0] [] h32 Q))))) ∧ (x3 = (x1 - 1) → Q (some (.int 1)) h16)))))))))) ∧ (¬ x3 < x5 → (x4 = 0 → lk_fR h a0 5 [(11, 0)] (fun r34 => lk_as h r34 10 (x3 + 1) (fun h35 => lk_fR h35 a0 16 [(11, 0)] (fun r36 => lk_ai h35 r36 x3 (fun r37 => (x2 < r37 → lk_fR h35 a0 16 [(11, 0)] (fun r38 => lk_ai h35 r38 x3 (fun r39 => (x2 < r39 → ((x3 + (-1)) ≤ 0 → lk_wp X (d + 1) 166 9 [.ref a0, .int x1, .int x2, .int ((-1)), .retAddr 0, .retAddr 0] [] h35 Q) ∧ (¬ (x3 + (-1)) ≤ 0 → lk_fR h35 a0 16 [(11, 0)] (fun r40 => lk_ai h35 r40 (x3 + (-1)) (fun r41 => lk_as h35 r40 (x3 + (-1)) (r41 + 1) (fun h42 => lk_wp X (d + 1) 166 9 [.ref a0, .int x1, .int x2, .int (x3 + (-1)), .retAddr 0, .retAddr 0] [] h42 Q))))) ∧ (¬ x2 < r39 → (¬ x3 = 0 → lk_fR h35 a0 16 [(11, 0)] (fun r43 => lk_ai h35 r43 x3 (fun r44 => lk_as h35 r43 x3 (r44 + 1) (fun h45 => lk_wp X (d + 1) 166 9 [.ref a0, .int x1, .int x2, .int x3, .retAddr 0, .retAddr 0] [] h45 Q)))) ∧ (x3 = 0 → ((x3 + (-1)) ≤ 0 → lk_wp X (d + 1) 166 9 [.ref a0, .int x1, .int x2, .int ((-1)), .retAddr 0, .retAddr 0] [] h35 Q) ∧ (¬ (x3 + (-1)) ≤ 0 → lk_fR h35 a0 16 [(11, 0)] (fun r46 => lk_ai h35 r46 (x3 + (-1)) (fun r47 => lk_as h35 r46 (x3 + (-1)) (r47 + 1) (fun h48 => lk_wp X (d + 1) 166 9 [.ref a0, .int x1, .int x2, .int (x3 + (-1)), .retAddr 0, .retAddr 0] [] h48 Q))))))))) ∧ (¬ x2 < r37 → lk_vc h35 a0 [(11, 124)] (fun k66 => lk_wxi X d k66 [.ref a0, .int 10, .int 0] h35 (fun r50 h49 => (¬ r50 = 0 → lk_fR h49 a0 16 [(11, 0)] (fun r51 => lk_ai h49 r51 x3 (fun r52 => (x2 < r52 → ((x3 + (-1)) ≤ 0 → lk_wp X (d + 1) 166 9 [.ref a0, .int x1, .int x2, .int ((-1)), .retAddr 0, .retAddr 0] [] h49 Q) ∧ (¬ (x3 + (-1)) ≤ 0 → lk_fR h49 a0 16 [(11, 0)] (fun r53 => lk_ai h49 r53 (x3 + (-1)) (fun r54 => lk_as h49 r53 (x3 + (-1)) (r54 + 1) (fun h55 => lk_wp X (d + 1) 166 9 [.ref a0, .int x1, .int x2, .int (x3 + (-1)), .retAddr 0, .retAddr 0] [] h55 Q))))) ∧ (¬ x2 < r52 → (¬ x3 = 0 → lk_fR h49 a0 16 [(11, 0)] (fun r56 => lk_ai h49 r56 x3 (fun r57 => lk_as h49 r56 x3 (r57 + 1) (fun h58 => lk_wp X (d + 1) 166 9 [.ref a0, .int x1, .int x2, .int x3, .retAddr 0, .retAddr 0] [] h58 Q)))) ∧ (x3 = 0 → ((x3 + (-1)) ≤ 0 → lk_wp X (d + 1) 166 9 [.ref a0, .int x1, .int x2, .int ((-1)), .retAddr 0, .retAddr 0] [] h49 Q) ∧ (¬ (x3 + (-1)) ≤ 0 → lk_fR h49 a0 16 [(11, 0)] (fun r59 => lk_ai h49 r59 (x3 + (-1)) (fun r60 => lk_as h49 r59 (x3 + (-1)) (r60 + 1) (fun h61 => lk_wp X (d + 1) 166 9 [.ref a0, .int x1, .int x2, .int (x3 + (-1)), .retAddr 0, .retAddr 0] [] h61 Q))))))))) ∧ (r50 = 0 → (¬ x3 = (x1 - 1) → lk_fR h49 a0 16 [(11, 0)] (fun r62 => lk_fR h49 a0 16 [(11, 0)] (fun r63 => lk_ai h49 r63 ((x3 + 1) - 1) (fun r64 => lk_as h49 r62 (x3 + 1) (r64 + 1) (fun h65 => lk_wp X (d + 1) 166 9 [.ref a0, .int x1, .int x2, .int (x3 + 1), .retAddr 0, .retAddr 0] [] h65 Q))))) ∧ (x3 = (x1 - 1) → Q (some (.int 1)) h49)))))))))) ∧ (¬ x4 = 0 → lk_fR h a0 16 [(11, 0)] (fun r67 => lk_ai h r67 x5 (fun r68 => lk_vc h a0 [(11, 128)] (fun k70 => lk_wxv X d k70 [.ref a0, .int x5, .int r68] h (fun h69 => lk_wp X (d + 1) 166 19 [.ref a0, .int x1, .int x2, .int x3, .int x4, .int (x5 + 1)] [] h69 Q))))))) : lk_wp X (d + 1) 166 19 [.ref a0, .int x1, .int x2, .int x3, .int x4, .int x5] [] h Q := by
  refine lk_wp_seg (lo' := [.ref a0, .int x1, .int x2, .int x3, .int x4, .int x5]) (st' := [.int x3, .int x5]) lk_M166 lk_s166_19_2 rfl ?_
  refine lk_wp_ic_gt lk_i166_22 lk_M166 H (fun H => ?_) (fun H => ?_)
  · refine lk_wp_seg (lo' := [.ref a0, .int x1, .int x2, .int x3, .int x4, .int x5]) (st' := [.ref a0]) lk_M166 lk_s166_49_1 rfl ?_
    refine lk_wp_fR lk_i166_50 lk_M166 H (fun r1 H => ?_)
    refine lk_wp_seg (lo' := [.ref a0, .int x1, .int x2, .int x3, .int x4, .int x5]) (st' := [.int (x3 + 1), .int 10, .ref r1]) lk_M166 lk_s166_53_4 rfl ?_
    refine lk_wp_as lk_i166_58 lk_M166 H (fun h2 H => ?_)
    refine lk_wp_seg (lo' := [.ref a0, .int x1, .int x2, .int x3, .int x4, .int x5]) (st' := [.ref a0]) lk_M166 lk_s166_59_1 rfl ?_
    refine lk_wp_fR lk_i166_60 lk_M166 H (fun r3 H => ?_)
    refine lk_wp_seg (lo' := [.ref a0, .int x1, .int x2, .int x3, .int x4, .int x5]) (st' := [.int x3, .ref r3]) lk_M166 lk_s166_63_1 rfl ?_
    refine lk_wp_ai lk_i166_64 lk_M166 H (fun r4 H => ?_)
    refine lk_wp_seg (lo' := [.ref a0, .int x1, .int x2, .int x3, .int x4, .int x5]) (st' := [.int x2, .int r4]) lk_M166 lk_s166_65_1 rfl ?_
    refine lk_wp_ic_gt lk_i166_66 lk_M166 H (fun H => ?_) (fun H => ?_)
    · refine lk_wp_seg (lo' := [.ref a0, .int x1, .int x2, .int x3, .int 0, .int x5]) (st' := [.int 0]) lk_M166 lk_s166_83_3 rfl ?_
      refine lk_wp_if_eq lk_i166_88 lk_M166 (A := True) (B := False) ⟨fun _ => trivial, fun q => absurd (by decide) q⟩ (fun _ => ?_) (fun q => q.elim)
      refine lk_wp_seg (lo' := [.ref a0, .int x1, .int x2, .int x3, .int 0, .int x5]) (st' := [.int 0]) lk_M166 lk_s166_100_1 rfl ?_
      refine lk_wp_if_eq lk_i166_102 lk_M166 (A := True) (B := False) ⟨fun _ => trivial, fun q => absurd (by decide) q⟩ (fun _ => ?_) (fun q => q.elim)
      refine lk_wp_seg (lo' := [.ref a0, .int x1, .int x2, .int x3, .int 0, .int x5]) (st' := [.ref a0]) lk_M166 lk_s166_127_1 rfl ?_
      refine lk_wp_fR lk_i166_128 lk_M166 H (fun r5 H => ?_)
      refine lk_wp_seg (lo' := [.ref a0, .int x1, .int x2, .int x3, .int 0, .int x5]) (st' := [.int x3, .ref r5]) lk_M166 lk_s166_131_1 rfl ?_
      refine lk_wp_ai lk_i166_132 lk_M166 H (fun r6 H => ?_)
      refine lk_wp_seg (lo' := [.ref a0, .int x1, .int x2, .int x3, .int 0, .int x5]) (st' := [.int x2, .int r6]) lk_M166 lk_s166_133_1 rfl ?_
      refine lk_wp_ic_gt lk_i166_134 lk_M166 H (fun H => ?_) (fun H => ?_)
      · refine lk_wp_seg (lo' := [.ref a0, .int x1, .int x2, .int (x3 + (-1)), .int 0, .int x5]) (st' := [.int (x3 + (-1))]) lk_M166 lk_s166_141_2 rfl ?_
        refine lk_wp_if_le lk_i166_145 lk_M166 H (fun H => ?_) (fun H => ?_)
        · refine lk_wp_seg (lo' := [.ref a0, .int x1, .int x2, .int ((-1)), .int 0, .int x5]) (st' := []) lk_M166 lk_s166_161_3 rfl ?_
          refine lk_wp_seg (lo' := [.ref a0, .int x1, .int x2, .int ((-1)), .int 0, .int x5]) (st' := []) lk_M166 lk_s166_176_1 rfl ?_
          exact H.forget (lk_le_s (lk_le_s (lk_le_s (lk_le_s (lk_le_d (lk_le_d lk_le_n))))))
        · refine lk_wp_seg (lo' := [.ref a0, .int x1, .int x2, .int (x3 + (-1)), .int 0, .int x5]) (st' := [.ref a0]) lk_M166 lk_s166_148_1 rfl ?_
          refine lk_wp_fR lk_i166_149 lk_M166 H (fun r7 H => ?_)
          refine lk_wp_seg (lo' := [.ref a0, .int x1, .int x2, .int (x3 + (-1)), .int 0, .int x5]) (st' := [.int (x3 + (-1)), .ref r7, .int (x3 + (-1)), .ref r7]) lk_M166 lk_s166_152_2 rfl ?_
          refine lk_wp_ai lk_i166_154 lk_M166 H (fun r8 H => ?_)
          refine lk_wp_seg (lo' := [.ref a0, .int x1, .int x2, .int (x3 + (-1)), .int 0, .int x5]) (st' := [.int (r8 + 1), .int (x3 + (-1)), .ref r7]) lk_M166 lk_s166_155_2 rfl ?_
          refine lk_wp_as lk_i166_157 lk_M166 H (fun h9 H => ?_)
          refine lk_wp_seg (lo' := [.ref a0, .int x1, .int x2, .int (x3 + (-1)), .int 0, .int x5]) (st' := []) lk_M166 lk_s166_158_1 rfl ?_
          refine lk_wp_seg (lo' := [.ref a0, .int x1, .int x2, .int (x3 + (-1)), .int 0, .int x5]) (st' := []) lk_M166 lk_s166_176_1 rfl ?_
          exact H.forget (lk_le_s (lk_le_s (lk_le_s (lk_le_s (lk_le_d (lk_le_d lk_le_n))))))
      · refine lk_wp_seg (lo' := [.ref a0, .int x1, .int x2, .int x3, .int 0, .int x5]) (st' := [.int x3]) lk_M166 lk_s166_137_1 rfl ?_
        refine lk_wp_if_ne lk_i166_138 lk_M166 H (fun H => ?_) (fun H => ?_)
        · refine lk_wp_seg (lo' := [.ref a0, .int x1, .int x2, .int x3, .int 0, .int x5]) (st' := [.ref a0]) lk_M166 lk_s166_166_1 rfl ?_
          refine lk_wp_fR lk_i166_167 lk_M166 H (fun r10 H => ?_)
          refine lk_wp_seg (lo' := [.ref a0, .int x1, .int x2, .int x3, .int 0, .int x5]) (st' := [.int x3, .ref r10, .int x3, .ref r10]) lk_M166 lk_s166_170_2 rfl ?_
          refine lk_wp_ai lk_i166_172 lk_M166 H (fun r11 H => ?_)
          refine lk_wp_seg (lo' := [.ref a0, .int x1, .int x2, .int x3, .int 0, .int x5]) (st' := [.int (r11 + 1), .int x3, .ref r10]) lk_M166 lk_s166_173_2 rfl ?_
          refine lk_wp_as lk_i166_175 lk_M166 H (fun h12 H => ?_)
          refine lk_wp_seg (lo' := [.ref a0, .int x1, .int x2, .int x3, .int 0, .int x5]) (st' := []) lk_M166 lk_s166_176_1 rfl ?_
          exact H.forget (lk_le_s (lk_le_s (lk_le_s (lk_le_s (lk_le_d (lk_le_d lk_le_n))))))
        · refine lk_wp_seg (lo' := [.ref a0, .int x1, .int x2, .int (x3 + (-1)), .int 0, .int x5]) (st' := [.int (x3 + (-1))]) lk_M166 lk_s166_141_2 rfl ?_
          refine lk_wp_if_le lk_i166_145 lk_M166 H (fun H => ?_) (fun H => ?_)
          · refine lk_wp_seg (lo' := [.ref a0, .int x1, .int x2, .int ((-1)), .int 0, .int x5]) (st' := []) lk_M166 lk_s166_161_3 rfl ?_
            refine lk_wp_seg (lo' := [.ref a0, .int x1, .int x2, .int ((-1)), .int 0, .int x5]) (st' := []) lk_M166 lk_s166_176_1 rfl ?_
            exact H.forget (lk_le_s (lk_le_s (lk_le_s (lk_le_s (lk_le_d (lk_le_d lk_le_n))))))
          · refine lk_wp_seg (lo' := [.ref a0, .int x1, .int x2, .int (x3 + (-1)), .int 0, .int x5]) (st' := [.ref a0]) lk_M166 lk_s166_148_1 rfl ?_
            refine lk_wp_fR lk_i166_149 lk_M166 H (fun r13 H => ?_)
            refine lk_wp_seg (lo' := [.ref a0, .int x1, .int x2, .int (x3 + (-1)), .int 0, .int x5]) (st' := [.int (x3 + (-1)), .ref r13, .int (x3 + (-1)), .ref r13]) lk_M166 lk_s166_152_2 rfl ?_
            refine lk_wp_ai lk_i166_154 lk_M166 H (fun r14 H => ?_)
            refine lk_wp_seg (lo' := [.ref a0, .int x1, .int x2, .int (x3 + (-1)), .int 0, .int x5]) (st' := [.int (r14 + 1), .int (x3 + (-1)), .ref r13]) lk_M166 lk_s166_155_2 rfl ?_
            refine lk_wp_as lk_i166_157 lk_M166 H (fun h15 H => ?_)
            refine lk_wp_seg (lo' := [.ref a0, .int x1, .int x2, .int (x3 + (-1)), .int 0, .int x5]) (st' := []) lk_M166 lk_s166_158_1 rfl ?_
            refine lk_wp_seg (lo' := [.ref a0, .int x1, .int x2, .int (x3 + (-1)), .int 0, .int x5]) (st' := []) lk_M166 lk_s166_176_1 rfl ?_
            exact H.forget (lk_le_s (lk_le_s (lk_le_s (lk_le_s (lk_le_d (lk_le_d lk_le_n))))))
    · refine lk_wp_seg (lo' := [.ref a0, .int x1, .int x2, .int x3, .int x4, .int x5]) (st' := [.int 0, .int 10, .ref a0]) lk_M166 lk_s166_69_3 rfl ?_
      refine lk_wp_cv (as := [.int 10, .int 0]) (r := []) (a := a0) lk_i166_73 lk_M166 rfl rfl rfl (Nat.le_of_ble_eq_true rfl) H (fun k33 H => lk_gi H (fun r17 h16 H => ?_))
      refine lk_wp_if_ne lk_i166_76 lk_M166 H (fun H => ?_) (fun H => ?_)
      · refine lk_wp_seg (lo' := [.ref a0, .int x1, .int x2, .int x3, .int 0, .int x5]) (st' := [.int 0]) lk_M166 lk_s166_83_3 rfl ?_
        refine lk_wp_if_eq lk_i166_88 lk_M166 (A := True) (B := False) ⟨fun _ => trivial, fun q => absurd (by decide) q⟩ (fun _ => ?_) (fun q => q.elim)
        refine lk_wp_seg (lo' := [.ref a0, .int x1, .int x2, .int x3, .int 0, .int x5]) (st' := [.int 0]) lk_M166 lk_s166_100_1 rfl ?_
        refine lk_wp_if_eq lk_i166_102 lk_M166 (A := True) (B := False) ⟨fun _ => trivial, fun q => absurd (by decide) q⟩ (fun _ => ?_) (fun q => q.elim)
        refine lk_wp_seg (lo' := [.ref a0, .int x1, .int x2, .int x3, .int 0, .int x5]) (st' := [.ref a0]) lk_M166 lk_s166_127_1 rfl ?_
        refine lk_wp_fR lk_i166_128 lk_M166 H (fun r18 H => ?_)
        refine lk_wp_seg (lo' := [.ref a0, .int x1, .int x2, .int x3, .int 0, .int x5]) (st' := [.int x3, .ref r18]) lk_M166 lk_s166_131_1 rfl ?_
        refine lk_wp_ai lk_i166_132 lk_M166 H (fun r19 H => ?_)
        refine lk_wp_seg (lo' := [.ref a0, .int x1, .int x2, .int x3, .int 0, .int x5]) (st' := [.int x2, .int r19]) lk_M166 lk_s166_133_1 rfl ?_
        refine lk_wp_ic_gt lk_i166_134 lk_M166 H (fun H => ?_) (fun H => ?_)
        · refine lk_wp_seg (lo' := [.ref a0, .int x1, .int x2, .int (x3 + (-1)), .int 0, .int x5]) (st' := [.int (x3 + (-1))]) lk_M166 lk_s166_141_2 rfl ?_
          refine lk_wp_if_le lk_i166_145 lk_M166 H (fun H => ?_) (fun H => ?_)
          · refine lk_wp_seg (lo' := [.ref a0, .int x1, .int x2, .int ((-1)), .int 0, .int x5]) (st' := []) lk_M166 lk_s166_161_3 rfl ?_
            refine lk_wp_seg (lo' := [.ref a0, .int x1, .int x2, .int ((-1)), .int 0, .int x5]) (st' := []) lk_M166 lk_s166_176_1 rfl ?_
            exact H.forget (lk_le_s (lk_le_s (lk_le_s (lk_le_s (lk_le_d (lk_le_d lk_le_n))))))
          · refine lk_wp_seg (lo' := [.ref a0, .int x1, .int x2, .int (x3 + (-1)), .int 0, .int x5]) (st' := [.ref a0]) lk_M166 lk_s166_148_1 rfl ?_
            refine lk_wp_fR lk_i166_149 lk_M166 H (fun r20 H => ?_)
            refine lk_wp_seg (lo' := [.ref a0, .int x1, .int x2, .int (x3 + (-1)), .int 0, .int x5]) (st' := [.int (x3 + (-1)), .ref r20, .int (x3 + (-1)), .ref r20]) lk_M166 lk_s166_152_2 rfl ?_
            refine lk_wp_ai lk_i166_154 lk_M166 H (fun r21 H => ?_)
            refine lk_wp_seg (lo' := [.ref a0, .int x1, .int x2, .int (x3 + (-1)), .int 0, .int x5]) (st' := [.int (r21 + 1), .int (x3 + (-1)), .ref r20]) lk_M166 lk_s166_155_2 rfl ?_
            refine lk_wp_as lk_i166_157 lk_M166 H (fun h22 H => ?_)
            refine lk_wp_seg (lo' := [.ref a0, .int x1, .int x2, .int (x3 + (-1)), .int 0, .int x5]) (st' := []) lk_M166 lk_s166_158_1 rfl ?_
            refine lk_wp_seg (lo' := [.ref a0, .int x1, .int x2, .int (x3 + (-1)), .int 0, .int x5]) (st' := []) lk_M166 lk_s166_176_1 rfl ?_
            exact H.forget (lk_le_s (lk_le_s (lk_le_s (lk_le_s (lk_le_d (lk_le_d lk_le_n))))))
        · refine lk_wp_seg (lo' := [.ref a0, .int x1, .int x2, .int x3, .int 0, .int x5]) (st' := [.int x3]) lk_M166 lk_s166_137_1 rfl ?_
          refine lk_wp_if_ne lk_i166_138 lk_M166 H (fun H => ?_) (fun H => ?_)
          · refine lk_wp_seg (lo' := [.ref a0, .int x1, .int x2, .int x3, .int 0, .int x5]) (st' := [.ref a0]) lk_M166 lk_s166_166_1 rfl ?_
            refine lk_wp_fR lk_i166_167 lk_M166 H (fun r23 H => ?_)
            refine lk_wp_seg (lo' := [.ref a0, .int x1, .int x2, .int x3, .int 0, .int x5]) (st' := [.int x3, .ref r23, .int x3, .ref r23]) lk_M166 lk_s166_170_2 rfl ?_
            refine lk_wp_ai lk_i166_172 lk_M166 H (fun r24 H => ?_)
            refine lk_wp_seg (lo' := [.ref a0, .int x1, .int x2, .int x3, .int 0, .int x5]) (st' := [.int (r24 + 1), .int x3, .ref r23]) lk_M166 lk_s166_173_2 rfl ?_
            refine lk_wp_as lk_i166_175 lk_M166 H (fun h25 H => ?_)
            refine lk_wp_seg (lo' := [.ref a0, .int x1, .int x2, .int x3, .int 0, .int x5]) (st' := []) lk_M166 lk_s166_176_1 rfl ?_
            exact H.forget (lk_le_s (lk_le_s (lk_le_s (lk_le_s (lk_le_d (lk_le_d lk_le_n))))))
          · refine lk_wp_seg (lo' := [.ref a0, .int x1, .int x2, .int (x3 + (-1)), .int 0, .int x5]) (st' := [.int (x3 + (-1))]) lk_M166 lk_s166_141_2 rfl ?_
            refine lk_wp_if_le lk_i166_145 lk_M166 H (fun H => ?_) (fun H => ?_)
            · refine lk_wp_seg (lo' := [.ref a0, .int x1, .int x2, .int ((-1)), .int 0, .int x5]) (st' := []) lk_M166 lk_s166_161_3 rfl ?_
              refine lk_wp_seg (lo' := [.ref a0, .int x1, .int x2, .int ((-1)), .int 0, .int x5]) (st' := []) lk_M166 lk_s166_176_1 rfl ?_
              exact H.forget (lk_le_s (lk_le_s (lk_le_s (lk_le_s (lk_le_d (lk_le_d lk_le_n))))))
            · refine lk_wp_seg (lo' := [.ref a0, .int x1, .int x2, .int (x3 + (-1)), .int 0, .int x5]) (st' := [.ref a0]) lk_M166 lk_s166_148_1 rfl ?_
              refine lk_wp_fR lk_i166_149 lk_M166 H (fun r26 H => ?_)
              refine lk_wp_seg (lo' := [.ref a0, .int x1, .int x2, .int (x3 + (-1)), .int 0, .int x5]) (st' := [.int (x3 + (-1)), .ref r26, .int (x3 + (-1)), .ref r26]) lk_M166 lk_s166_152_2 rfl ?_
              refine lk_wp_ai lk_i166_154 lk_M166 H (fun r27 H => ?_)
              refine lk_wp_seg (lo' := [.ref a0, .int x1, .int x2, .int (x3 + (-1)), .int 0, .int x5]) (st' := [.int (r27 + 1), .int (x3 + (-1)), .ref r26]) lk_M166 lk_s166_155_2 rfl ?_
              refine lk_wp_as lk_i166_157 lk_M166 H (fun h28 H => ?_)
              refine lk_wp_seg (lo' := [.ref a0, .int x1, .int x2, .int (x3 + (-1)), .int 0, .int x5]) (st' := []) lk_M166 lk_s166_158_1 rfl ?_
              refine lk_wp_seg (lo' := [.ref a0, .int x1, .int x2, .int (x3 + (-1)), .int 0, .int x5]) (st' := []) lk_M166 lk_s166_176_1 rfl ?_
              exact H.forget (lk_le_s (lk_le_s (lk_le_s (lk_le_s (lk_le_d (lk_le_d lk_le_n))))))
      · refine lk_wp_seg (lo' := [.ref a0, .int x1, .int x2, .int x3, .int x4, .int x5]) (st' := [.int 1]) lk_M166 lk_s166_79_2 rfl ?_
        refine lk_wp_seg (lo' := [.ref a0, .int x1, .int x2, .int x3, .int 1, .int x5]) (st' := [.int 1]) lk_M166 lk_s166_84_2 rfl ?_
        refine lk_wp_if_eq lk_i166_88 lk_M166 (A := False) (B := True) ⟨fun q => absurd q (by decide), fun _ => trivial⟩ (fun q => q.elim) (fun _ => ?_)
        refine lk_wp_seg (lo' := [.ref a0, .int x1, .int x2, .int x3, .int 1, .int x5]) (st' := [.int (x1 - 1), .int x3]) lk_M166 lk_s166_91_4 rfl ?_
        refine lk_wp_ic_ne lk_i166_95 lk_M166 H (fun H => ?_) (fun H => ?_)
        · refine lk_wp_seg (lo' := [.ref a0, .int x1, .int x2, .int x3, .int 1, .int x5]) (st' := [.int 1]) lk_M166 lk_s166_100_1 rfl ?_
          refine lk_wp_if_eq lk_i166_102 lk_M166 (A := False) (B := True) ⟨fun q => absurd q (by decide), fun _ => trivial⟩ (fun q => q.elim) (fun _ => ?_)
          refine lk_wp_seg (lo' := [.ref a0, .int x1, .int x2, .int (x3 + 1), .int 1, .int x5]) (st' := [.ref a0]) lk_M166 lk_s166_105_2 rfl ?_
          refine lk_wp_fR lk_i166_109 lk_M166 H (fun r29 H => ?_)
          refine lk_wp_seg (lo' := [.ref a0, .int x1, .int x2, .int (x3 + 1), .int 1, .int x5]) (st' := [.ref a0, .int (x3 + 1), .ref r29]) lk_M166 lk_s166_112_2 rfl ?_
          refine lk_wp_fR lk_i166_114 lk_M166 H (fun r30 H => ?_)
          refine lk_wp_seg (lo' := [.ref a0, .int x1, .int x2, .int (x3 + 1), .int 1, .int x5]) (st' := [.int ((x3 + 1) - 1), .ref r30, .int (x3 + 1), .ref r29]) lk_M166 lk_s166_117_3 rfl ?_
          refine lk_wp_ai lk_i166_120 lk_M166 H (fun r31 H => ?_)
          refine lk_wp_seg (lo' := [.ref a0, .int x1, .int x2, .int (x3 + 1), .int 1, .int x5]) (st' := [.int (r31 + 1), .int (x3 + 1), .ref r29]) lk_M166 lk_s166_121_2 rfl ?_
          refine lk_wp_as lk_i166_123 lk_M166 H (fun h32 H => ?_)
          refine lk_wp_seg (lo' := [.ref a0, .int x1, .int x2, .int (x3 + 1), .int 1, .int x5]) (st' := []) lk_M166 lk_s166_124_1 rfl ?_
          refine lk_wp_seg (lo' := [.ref a0, .int x1, .int x2, .int (x3 + 1), .int 1, .int x5]) (st' := []) lk_M166 lk_s166_176_1 rfl ?_
          exact H.forget (lk_le_s (lk_le_s (lk_le_s (lk_le_s (lk_le_d (lk_le_d lk_le_n))))))
        · refine lk_wp_seg (lo' := [.ref a0, .int x1, .int x2, .int x3, .int 1, .int x5]) (st' := [.int 1]) lk_M166 lk_s166_98_1 rfl ?_
          exact lk_wp_ret lk_i166_99 lk_M166 rfl H
  · refine lk_wp_seg (lo' := [.ref a0, .int x1, .int x2, .int x3, .int x4, .int x5]) (st' := [.int x4]) lk_M166 lk_s166_25_1 rfl ?_
    refine lk_wp_if_eq lk_i166_27 lk_M166 H (fun H => ?_) (fun H => ?_)
    · refine lk_wp_seg (lo' := [.ref a0, .int x1, .int x2, .int x3, .int x4, .int x5]) (st' := [.ref a0]) lk_M166 lk_s166_49_1 rfl ?_
      refine lk_wp_fR lk_i166_50 lk_M166 H (fun r34 H => ?_)
      refine lk_wp_seg (lo' := [.ref a0, .int x1, .int x2, .int x3, .int x4, .int x5]) (st' := [.int (x3 + 1), .int 10, .ref r34]) lk_M166 lk_s166_53_4 rfl ?_
      refine lk_wp_as lk_i166_58 lk_M166 H (fun h35 H => ?_)
      refine lk_wp_seg (lo' := [.ref a0, .int x1, .int x2, .int x3, .int x4, .int x5]) (st' := [.ref a0]) lk_M166 lk_s166_59_1 rfl ?_
      refine lk_wp_fR lk_i166_60 lk_M166 H (fun r36 H => ?_)
      refine lk_wp_seg (lo' := [.ref a0, .int x1, .int x2, .int x3, .int x4, .int x5]) (st' := [.int x3, .ref r36]) lk_M166 lk_s166_63_1 rfl ?_
      refine lk_wp_ai lk_i166_64 lk_M166 H (fun r37 H => ?_)
      refine lk_wp_seg (lo' := [.ref a0, .int x1, .int x2, .int x3, .int x4, .int x5]) (st' := [.int x2, .int r37]) lk_M166 lk_s166_65_1 rfl ?_
      refine lk_wp_ic_gt lk_i166_66 lk_M166 H (fun H => ?_) (fun H => ?_)
      · refine lk_wp_seg (lo' := [.ref a0, .int x1, .int x2, .int x3, .int 0, .int x5]) (st' := [.int 0]) lk_M166 lk_s166_83_3 rfl ?_
        refine lk_wp_if_eq lk_i166_88 lk_M166 (A := True) (B := False) ⟨fun _ => trivial, fun q => absurd (by decide) q⟩ (fun _ => ?_) (fun q => q.elim)
        refine lk_wp_seg (lo' := [.ref a0, .int x1, .int x2, .int x3, .int 0, .int x5]) (st' := [.int 0]) lk_M166 lk_s166_100_1 rfl ?_
        refine lk_wp_if_eq lk_i166_102 lk_M166 (A := True) (B := False) ⟨fun _ => trivial, fun q => absurd (by decide) q⟩ (fun _ => ?_) (fun q => q.elim)
        refine lk_wp_seg (lo' := [.ref a0, .int x1, .int x2, .int x3, .int 0, .int x5]) (st' := [.ref a0]) lk_M166 lk_s166_127_1 rfl ?_
        refine lk_wp_fR lk_i166_128 lk_M166 H (fun r38 H => ?_)
        refine lk_wp_seg (lo' := [.ref a0, .int x1, .int x2, .int x3, .int 0, .int x5]) (st' := [.int x3, .ref r38]) lk_M166 lk_s166_131_1 rfl ?_
        refine lk_wp_ai lk_i166_132 lk_M166 H (fun r39 H => ?_)
        refine lk_wp_seg (lo' := [.ref a0, .int x1, .int x2, .int x3, .int 0, .int x5]) (st' := [.int x2, .int r39]) lk_M166 lk_s166_133_1 rfl ?_
        refine lk_wp_ic_gt lk_i166_134 lk_M166 H (fun H => ?_) (fun H => ?_)
        · refine lk_wp_seg (lo' := [.ref a0, .int x1, .int x2, .int (x3 + (-1)), .int 0, .int x5]) (st' := [.int (x3 + (-1))]) lk_M166 lk_s166_141_2 rfl ?_
          refine lk_wp_if_le lk_i166_145 lk_M166 H (fun H => ?_) (fun H => ?_)
          · refine lk_wp_seg (lo' := [.ref a0, .int x1, .int x2, .int ((-1)), .int 0, .int x5]) (st' := []) lk_M166 lk_s166_161_3 rfl ?_
            refine lk_wp_seg (lo' := [.ref a0, .int x1, .int x2, .int ((-1)), .int 0, .int x5]) (st' := []) lk_M166 lk_s166_176_1 rfl ?_
            exact H.forget (lk_le_s (lk_le_s (lk_le_s (lk_le_s (lk_le_d (lk_le_d lk_le_n))))))
          · refine lk_wp_seg (lo' := [.ref a0, .int x1, .int x2, .int (x3 + (-1)), .int 0, .int x5]) (st' := [.ref a0]) lk_M166 lk_s166_148_1 rfl ?_
            refine lk_wp_fR lk_i166_149 lk_M166 H (fun r40 H => ?_)
            refine lk_wp_seg (lo' := [.ref a0, .int x1, .int x2, .int (x3 + (-1)), .int 0, .int x5]) (st' := [.int (x3 + (-1)), .ref r40, .int (x3 + (-1)), .ref r40]) lk_M166 lk_s166_152_2 rfl ?_
            refine lk_wp_ai lk_i166_154 lk_M166 H (fun r41 H => ?_)
            refine lk_wp_seg (lo' := [.ref a0, .int x1, .int x2, .int (x3 + (-1)), .int 0, .int x5]) (st' := [.int (r41 + 1), .int (x3 + (-1)), .ref r40]) lk_M166 lk_s166_155_2 rfl ?_
            refine lk_wp_as lk_i166_157 lk_M166 H (fun h42 H => ?_)
            refine lk_wp_seg (lo' := [.ref a0, .int x1, .int x2, .int (x3 + (-1)), .int 0, .int x5]) (st' := []) lk_M166 lk_s166_158_1 rfl ?_
            refine lk_wp_seg (lo' := [.ref a0, .int x1, .int x2, .int (x3 + (-1)), .int 0, .int x5]) (st' := []) lk_M166 lk_s166_176_1 rfl ?_
            exact H.forget (lk_le_s (lk_le_s (lk_le_s (lk_le_s (lk_le_d (lk_le_d lk_le_n))))))
        · refine lk_wp_seg (lo' := [.ref a0, .int x1, .int x2, .int x3, .int 0, .int x5]) (st' := [.int x3]) lk_M166 lk_s166_137_1 rfl ?_
          refine lk_wp_if_ne lk_i166_138 lk_M166 H (fun H => ?_) (fun H => ?_)
          · refine lk_wp_seg (lo' := [.ref a0, .int x1, .int x2, .int x3, .int 0, .int x5]) (st' := [.ref a0]) lk_M166 lk_s166_166_1 rfl ?_
            refine lk_wp_fR lk_i166_167 lk_M166 H (fun r43 H => ?_)
            refine lk_wp_seg (lo' := [.ref a0, .int x1, .int x2, .int x3, .int 0, .int x5]) (st' := [.int x3, .ref r43, .int x3, .ref r43]) lk_M166 lk_s166_170_2 rfl ?_
            refine lk_wp_ai lk_i166_172 lk_M166 H (fun r44 H => ?_)
            refine lk_wp_seg (lo' := [.ref a0, .int x1, .int x2, .int x3, .int 0, .int x5]) (st' := [.int (r44 + 1), .int x3, .ref r43]) lk_M166 lk_s166_173_2 rfl ?_
            refine lk_wp_as lk_i166_175 lk_M166 H (fun h45 H => ?_)
            refine lk_wp_seg (lo' := [.ref a0, .int x1, .int x2, .int x3, .int 0, .int x5]) (st' := []) lk_M166 lk_s166_176_1 rfl ?_
            exact H.forget (lk_le_s (lk_le_s (lk_le_s (lk_le_s (lk_le_d (lk_le_d lk_le_n))))))
          · refine lk_wp_seg (lo' := [.ref a0, .int x1, .int x2, .int (x3 + (-1)), .int 0, .int x5]) (st' := [.int (x3 + (-1))]) lk_M166 lk_s166_141_2 rfl ?_
            refine lk_wp_if_le lk_i166_145 lk_M166 H (fun H => ?_) (fun H => ?_)
            · refine lk_wp_seg (lo' := [.ref a0, .int x1, .int x2, .int ((-1)), .int 0, .int x5]) (st' := []) lk_M166 lk_s166_161_3 rfl ?_
              refine lk_wp_seg (lo' := [.ref a0, .int x1, .int x2, .int ((-1)), .int 0, .int x5]) (st' := []) lk_M166 lk_s166_176_1 rfl ?_
              exact H.forget (lk_le_s (lk_le_s (lk_le_s (lk_le_s (lk_le_d (lk_le_d lk_le_n))))))
            · refine lk_wp_seg (lo' := [.ref a0, .int x1, .int x2, .int (x3 + (-1)), .int 0, .int x5]) (st' := [.ref a0]) lk_M166 lk_s166_148_1 rfl ?_
              refine lk_wp_fR lk_i166_149 lk_M166 H (fun r46 H => ?_)
              refine lk_wp_seg (lo' := [.ref a0, .int x1, .int x2, .int (x3 + (-1)), .int 0, .int x5]) (st' := [.int (x3 + (-1)), .ref r46, .int (x3 + (-1)), .ref r46]) lk_M166 lk_s166_152_2 rfl ?_
              refine lk_wp_ai lk_i166_154 lk_M166 H (fun r47 H => ?_)
              refine lk_wp_seg (lo' := [.ref a0, .int x1, .int x2, .int (x3 + (-1)), .int 0, .int x5]) (st' := [.int (r47 + 1), .int (x3 + (-1)), .ref r46]) lk_M166 lk_s166_155_2 rfl ?_
              refine lk_wp_as lk_i166_157 lk_M166 H (fun h48 H => ?_)
              refine lk_wp_seg (lo' := [.ref a0, .int x1, .int x2, .int (x3 + (-1)), .int 0, .int x5]) (st' := []) lk_M166 lk_s166_158_1 rfl ?_
              refine lk_wp_seg (lo' := [.ref a0, .int x1, .int x2, .int (x3 + (-1)), .int 0, .int x5]) (st' := []) lk_M166 lk_s166_176_1 rfl ?_
              exact H.forget (lk_le_s (lk_le_s (lk_le_s (lk_le_s (lk_le_d (lk_le_d lk_le_n))))))
      · refine lk_wp_seg (lo' := [.ref a0, .int x1, .int x2, .int x3, .int x4, .int x5]) (st' := [.int 0, .int 10, .ref a0]) lk_M166 lk_s166_69_3 rfl ?_
        refine lk_wp_cv (as := [.int 10, .int 0]) (r := []) (a := a0) lk_i166_73 lk_M166 rfl rfl rfl (Nat.le_of_ble_eq_true rfl) H (fun k66 H => lk_gi H (fun r50 h49 H => ?_))
        refine lk_wp_if_ne lk_i166_76 lk_M166 H (fun H => ?_) (fun H => ?_)
        · refine lk_wp_seg (lo' := [.ref a0, .int x1, .int x2, .int x3, .int 0, .int x5]) (st' := [.int 0]) lk_M166 lk_s166_83_3 rfl ?_
          refine lk_wp_if_eq lk_i166_88 lk_M166 (A := True) (B := False) ⟨fun _ => trivial, fun q => absurd (by decide) q⟩ (fun _ => ?_) (fun q => q.elim)
          refine lk_wp_seg (lo' := [.ref a0, .int x1, .int x2, .int x3, .int 0, .int x5]) (st' := [.int 0]) lk_M166 lk_s166_100_1 rfl ?_
          refine lk_wp_if_eq lk_i166_102 lk_M166 (A := True) (B := False) ⟨fun _ => trivial, fun q => absurd (by decide) q⟩ (fun _ => ?_) (fun q => q.elim)
          refine lk_wp_seg (lo' := [.ref a0, .int x1, .int x2, .int x3, .int 0, .int x5]) (st' := [.ref a0]) lk_M166 lk_s166_127_1 rfl ?_
          refine lk_wp_fR lk_i166_128 lk_M166 H (fun r51 H => ?_)
          refine lk_wp_seg (lo' := [.ref a0, .int x1, .int x2, .int x3, .int 0, .int x5]) (st' := [.int x3, .ref r51]) lk_M166 lk_s166_131_1 rfl ?_
          refine lk_wp_ai lk_i166_132 lk_M166 H (fun r52 H => ?_)
          refine lk_wp_seg (lo' := [.ref a0, .int x1, .int x2, .int x3, .int 0, .int x5]) (st' := [.int x2, .int r52]) lk_M166 lk_s166_133_1 rfl ?_
          refine lk_wp_ic_gt lk_i166_134 lk_M166 H (fun H => ?_) (fun H => ?_)
          · refine lk_wp_seg (lo' := [.ref a0, .int x1, .int x2, .int (x3 + (-1)), .int 0, .int x5]) (st' := [.int (x3 + (-1))]) lk_M166 lk_s166_141_2 rfl ?_
            refine lk_wp_if_le lk_i166_145 lk_M166 H (fun H => ?_) (fun H => ?_)
            · refine lk_wp_seg (lo' := [.ref a0, .int x1, .int x2, .int ((-1)), .int 0, .int x5]) (st' := []) lk_M166 lk_s166_161_3 rfl ?_
              refine lk_wp_seg (lo' := [.ref a0, .int x1, .int x2, .int ((-1)), .int 0, .int x5]) (st' := []) lk_M166 lk_s166_176_1 rfl ?_
              exact H.forget (lk_le_s (lk_le_s (lk_le_s (lk_le_s (lk_le_d (lk_le_d lk_le_n))))))
            · refine lk_wp_seg (lo' := [.ref a0, .int x1, .int x2, .int (x3 + (-1)), .int 0, .int x5]) (st' := [.ref a0]) lk_M166 lk_s166_148_1 rfl ?_
              refine lk_wp_fR lk_i166_149 lk_M166 H (fun r53 H => ?_)
              refine lk_wp_seg (lo' := [.ref a0, .int x1, .int x2, .int (x3 + (-1)), .int 0, .int x5]) (st' := [.int (x3 + (-1)), .ref r53, .int (x3 + (-1)), .ref r53]) lk_M166 lk_s166_152_2 rfl ?_
              refine lk_wp_ai lk_i166_154 lk_M166 H (fun r54 H => ?_)
              refine lk_wp_seg (lo' := [.ref a0, .int x1, .int x2, .int (x3 + (-1)), .int 0, .int x5]) (st' := [.int (r54 + 1), .int (x3 + (-1)), .ref r53]) lk_M166 lk_s166_155_2 rfl ?_
              refine lk_wp_as lk_i166_157 lk_M166 H (fun h55 H => ?_)
              refine lk_wp_seg (lo' := [.ref a0, .int x1, .int x2, .int (x3 + (-1)), .int 0, .int x5]) (st' := []) lk_M166 lk_s166_158_1 rfl ?_
              refine lk_wp_seg (lo' := [.ref a0, .int x1, .int x2, .int (x3 + (-1)), .int 0, .int x5]) (st' := []) lk_M166 lk_s166_176_1 rfl ?_
              exact H.forget (lk_le_s (lk_le_s (lk_le_s (lk_le_s (lk_le_d (lk_le_d lk_le_n))))))
          · refine lk_wp_seg (lo' := [.ref a0, .int x1, .int x2, .int x3, .int 0, .int x5]) (st' := [.int x3]) lk_M166 lk_s166_137_1 rfl ?_
            refine lk_wp_if_ne lk_i166_138 lk_M166 H (fun H => ?_) (fun H => ?_)
            · refine lk_wp_seg (lo' := [.ref a0, .int x1, .int x2, .int x3, .int 0, .int x5]) (st' := [.ref a0]) lk_M166 lk_s166_166_1 rfl ?_
              refine lk_wp_fR lk_i166_167 lk_M166 H (fun r56 H => ?_)
              refine lk_wp_seg (lo' := [.ref a0, .int x1, .int x2, .int x3, .int 0, .int x5]) (st' := [.int x3, .ref r56, .int x3, .ref r56]) lk_M166 lk_s166_170_2 rfl ?_
              refine lk_wp_ai lk_i166_172 lk_M166 H (fun r57 H => ?_)
              refine lk_wp_seg (lo' := [.ref a0, .int x1, .int x2, .int x3, .int 0, .int x5]) (st' := [.int (r57 + 1), .int x3, .ref r56]) lk_M166 lk_s166_173_2 rfl ?_
              refine lk_wp_as lk_i166_175 lk_M166 H (fun h58 H => ?_)
              refine lk_wp_seg (lo' := [.ref a0, .int x1, .int x2, .int x3, .int 0, .int x5]) (st' := []) lk_M166 lk_s166_176_1 rfl ?_
              exact H.forget (lk_le_s (lk_le_s (lk_le_s (lk_le_s (lk_le_d (lk_le_d lk_le_n))))))
            · refine lk_wp_seg (lo' := [.ref a0, .int x1, .int x2, .int (x3 + (-1)), .int 0, .int x5]) (st' := [.int (x3 + (-1))]) lk_M166 lk_s166_141_2 rfl ?_
              refine lk_wp_if_le lk_i166_145 lk_M166 H (fun H => ?_) (fun H => ?_)
              · refine lk_wp_seg (lo' := [.ref a0, .int x1, .int x2, .int ((-1)), .int 0, .int x5]) (st' := []) lk_M166 lk_s166_161_3 rfl ?_
                refine lk_wp_seg (lo' := [.ref a0, .int x1, .int x2, .int ((-1)), .int 0, .int x5]) (st' := []) lk_M166 lk_s166_176_1 rfl ?_
                exact H.forget (lk_le_s (lk_le_s (lk_le_s (lk_le_s (lk_le_d (lk_le_d lk_le_n))))))
              · refine lk_wp_seg (lo' := [.ref a0, .int x1, .int x2, .int (x3 + (-1)), .int 0, .int x5]) (st' := [.ref a0]) lk_M166 lk_s166_148_1 rfl ?_
                refine lk_wp_fR lk_i166_149 lk_M166 H (fun r59 H => ?_)
                refine lk_wp_seg (lo' := [.ref a0, .int x1, .int x2, .int (x3 + (-1)), .int 0, .int x5]) (st' := [.int (x3 + (-1)), .ref r59, .int (x3 + (-1)), .ref r59]) lk_M166 lk_s166_152_2 rfl ?_
                refine lk_wp_ai lk_i166_154 lk_M166 H (fun r60 H => ?_)
                refine lk_wp_seg (lo' := [.ref a0, .int x1, .int x2, .int (x3 + (-1)), .int 0, .int x5]) (st' := [.int (r60 + 1), .int (x3 + (-1)), .ref r59]) lk_M166 lk_s166_155_2 rfl ?_
                refine lk_wp_as lk_i166_157 lk_M166 H (fun h61 H => ?_)
                refine lk_wp_seg (lo' := [.ref a0, .int x1, .int x2, .int (x3 + (-1)), .int 0, .int x5]) (st' := []) lk_M166 lk_s166_158_1 rfl ?_
                refine lk_wp_seg (lo' := [.ref a0, .int x1, .int x2, .int (x3 + (-1)), .int 0, .int x5]) (st' := []) lk_M166 lk_s166_176_1 rfl ?_
                exact H.forget (lk_le_s (lk_le_s (lk_le_s (lk_le_s (lk_le_d (lk_le_d lk_le_n))))))
        · refine lk_wp_seg (lo' := [.ref a0, .int x1, .int x2, .int x3, .int x4, .int x5]) (st' := [.int 1]) lk_M166 lk_s166_79_2 rfl ?_
          refine lk_wp_seg (lo' := [.ref a0, .int x1, .int x2, .int x3, .int 1, .int x5]) (st' := [.int 1]) lk_M166 lk_s166_84_2 rfl ?_
          refine lk_wp_if_eq lk_i166_88 lk_M166 (A := False) (B := True) ⟨fun q => absurd q (by decide), fun _ => trivial⟩ (fun q => q.elim) (fun _ => ?_)
          refine lk_wp_seg (lo' := [.ref a0, .int x1, .int x2, .int x3, .int 1, .int x5]) (st' := [.int (x1 - 1), .int x3]) lk_M166 lk_s166_91_4 rfl ?_
          refine lk_wp_ic_ne lk_i166_95 lk_M166 H (fun H => ?_) (fun H => ?_)
          · refine lk_wp_seg (lo' := [.ref a0, .int x1, .int x2, .int x3, .int 1, .int x5]) (st' := [.int 1]) lk_M166 lk_s166_100_1 rfl ?_
            refine lk_wp_if_eq lk_i166_102 lk_M166 (A := False) (B := True) ⟨fun q => absurd q (by decide), fun _ => trivial⟩ (fun q => q.elim) (fun _ => ?_)
            refine lk_wp_seg (lo' := [.ref a0, .int x1, .int x2, .int (x3 + 1), .int 1, .int x5]) (st' := [.ref a0]) lk_M166 lk_s166_105_2 rfl ?_
            refine lk_wp_fR lk_i166_109 lk_M166 H (fun r62 H => ?_)
            refine lk_wp_seg (lo' := [.ref a0, .int x1, .int x2, .int (x3 + 1), .int 1, .int x5]) (st' := [.ref a0, .int (x3 + 1), .ref r62]) lk_M166 lk_s166_112_2 rfl ?_
            refine lk_wp_fR lk_i166_114 lk_M166 H (fun r63 H => ?_)
            refine lk_wp_seg (lo' := [.ref a0, .int x1, .int x2, .int (x3 + 1), .int 1, .int x5]) (st' := [.int ((x3 + 1) - 1), .ref r63, .int (x3 + 1), .ref r62]) lk_M166 lk_s166_117_3 rfl ?_
            refine lk_wp_ai lk_i166_120 lk_M166 H (fun r64 H => ?_)
            refine lk_wp_seg (lo' := [.ref a0, .int x1, .int x2, .int (x3 + 1), .int 1, .int x5]) (st' := [.int (r64 + 1), .int (x3 + 1), .ref r62]) lk_M166 lk_s166_121_2 rfl ?_
            refine lk_wp_as lk_i166_123 lk_M166 H (fun h65 H => ?_)
            refine lk_wp_seg (lo' := [.ref a0, .int x1, .int x2, .int (x3 + 1), .int 1, .int x5]) (st' := []) lk_M166 lk_s166_124_1 rfl ?_
            refine lk_wp_seg (lo' := [.ref a0, .int x1, .int x2, .int (x3 + 1), .int 1, .int x5]) (st' := []) lk_M166 lk_s166_176_1 rfl ?_
            exact H.forget (lk_le_s (lk_le_s (lk_le_s (lk_le_s (lk_le_d (lk_le_d lk_le_n))))))
          · refine lk_wp_seg (lo' := [.ref a0, .int x1, .int x2, .int x3, .int 1, .int x5]) (st' := [.int 1]) lk_M166 lk_s166_98_1 rfl ?_
            exact lk_wp_ret lk_i166_99 lk_M166 rfl H
    · refine lk_wp_seg (lo' := [.ref a0, .int x1, .int x2, .int x3, .int x4, .int x5]) (st' := [.ref a0, .int x5, .ref a0]) lk_M166 lk_s166_30_3 rfl ?_
      refine lk_wp_fR lk_i166_34 lk_M166 H (fun r67 H => ?_)
      refine lk_wp_seg (lo' := [.ref a0, .int x1, .int x2, .int x3, .int x4, .int x5]) (st' := [.int x5, .ref r67, .int x5, .ref a0]) lk_M166 lk_s166_37_1 rfl ?_
      refine lk_wp_ai lk_i166_39 lk_M166 H (fun r68 H => ?_)
      refine lk_wp_cv (as := [.int x5, .int r68]) (r := []) (a := a0) lk_i166_40 lk_M166 rfl rfl rfl (Nat.le_of_ble_eq_true rfl) H (fun k70 H => lk_gv H (fun h69 H => ?_))
      refine lk_wp_seg (lo' := [.ref a0, .int x1, .int x2, .int x3, .int x4, .int (x5 + 1)]) (st' := []) lk_M166 lk_s166_43_2 rfl ?_
      exact H
/-! LonelyDotsModel.shortest(I)I -/
theorem lk_M167 : lk_mt[167]? = some (yX12_shortest, cX12_shortest, 3, ((some FieldType.int))) := rfl
theorem lk_s167_0_4 : lk_seg 167 [(.iload_n 1, 1, (0, [], .null)), (.i2l, 1, (0, [], .null)), (.lconst 1, 1, (0, [], .long 1)), (.ldc2_w 189, 3, (0, [], .long (6)))] 0 = some 6 := by decide +kernel
theorem lk_i167_6 : lk_ins 167 6 = some (.invokestatic 60, 3, (0, [(0, 112)], .ref 80)) := lk_eqE_eq (by decide +kernel)
theorem lk_i167_9 : lk_ins 167 9 = some (.ifCond .ne 6, 3, (15, [], .null)) := lk_eqE_eq (by decide +kernel)
theorem lk_s167_15_1 : lk_seg 167 [(.aload_n 0, 1, (0, [], .null))] 15 = some 16 := by decide +kernel
theorem lk_i167_16 : lk_ins 167 16 = some (.getfield 191, 3, (14, [(11, 0)], .null)) := lk_eqE_eq (by decide +kernel)
theorem lk_s167_19_4 : lk_seg 167 [(.iload_n 1, 1, (0, [], .null)), (.ishr, 1, (0, [], .null)), (.iconst 1, 1, (0, [], .int (1))), (.iand, 1, (0, [], .null))] 19 = some 23 := by decide +kernel
theorem lk_i167_23 : lk_ins 167 23 = some (.ifCond .ne 39, 3, (62, [], .null)) := lk_eqE_eq (by decide +kernel)
theorem lk_s167_62_1 : lk_seg 167 [(.aload_n 0, 1, (0, [], .null))] 62 = some 63 := by decide +kernel
theorem lk_i167_63 : lk_ins 167 63 = some (.getfield 47, 3, (15, [(11, 0)], .null)) := lk_eqE_eq (by decide +kernel)
theorem lk_s167_66_1 : lk_seg 167 [(.iload_n 1, 1, (0, [], .null))] 66 = some 67 := by decide +kernel
theorem lk_i167_67 : lk_ins 167 67 = some (.iaload, 1, (0, [], .null)) := lk_eqE_eq (by decide +kernel)
theorem lk_i167_68 : lk_ins 167 68 = some (.ireturn, 1, (0, [], .null)) := lk_eqE_eq (by decide +kernel)
theorem lk_s167_26_2 : lk_seg 167 [(.aload_n 0, 1, (0, [], .null)), (.dup, 1, (0, [], .null))] 26 = some 28 := by decide +kernel
theorem lk_i167_28 : lk_ins 167 28 = some (.getfield 191, 3, (14, [(11, 0)], .null)) := lk_eqE_eq (by decide +kernel)
theorem lk_s167_31_4 : lk_seg 167 [(.iconst 1, 1, (0, [], .int (1))), (.iload_n 1, 1, (0, [], .null)), (.ishl, 1, (0, [], .null)), (.ior, 1, (0, [], .null))] 31 = some 35 := by decide +kernel
theorem lk_i167_35 : lk_ins 167 35 = some (.putfield 191, 3, (14, [(11, 0)], .null)) := lk_eqE_eq (by decide +kernel)
theorem lk_s167_38_2 : lk_seg 167 [(.iconst 0, 1, (0, [], .int (0))), (.istore_n 2, 1, (0, [], .null))] 38 = some 40 := by decide +kernel
theorem lk_s167_12_1 : lk_seg 167 [(.ldc 70, 2, (0, [], .int (-1000001)))] 12 = some 14 := by decide +kernel
theorem lk_i167_14 : lk_ins 167 14 = some (.ireturn, 1, (0, [], .null)) := lk_eqE_eq (by decide +kernel)
theorem lk_s167_40_3 : lk_seg 167 [(.aload_n 0, 1, (0, [], .null)), (.iload_n 1, 1, (0, [], .null)), (.iload_n 2, 1, (0, [], .null))] 40 = some 43 := by decide +kernel
theorem lk_i167_43 : lk_ins 167 43 = some (.invokevirtual 194, 3, (1, [(11, 166)], .ref 109)) := lk_eqE_eq (by decide +kernel)
theorem lk_i167_46 : lk_ins 167 46 = some (.ifCond .ne 9, 3, (55, [], .null)) := lk_eqE_eq (by decide +kernel)
theorem lk_s167_55_1 : lk_seg 167 [(.aload_n 0, 1, (0, [], .null))] 55 = some 56 := by decide +kernel
theorem lk_i167_56 : lk_ins 167 56 = some (.getfield 47, 3, (15, [(11, 0)], .null)) := lk_eqE_eq (by decide +kernel)
theorem lk_s167_59_2 : lk_seg 167 [(.iload_n 1, 1, (0, [], .null)), (.iload_n 2, 1, (0, [], .null))] 59 = some 61 := by decide +kernel
theorem lk_i167_61 : lk_ins 167 61 = some (.iastore, 1, (0, [], .null)) := lk_eqE_eq (by decide +kernel)
theorem lk_s167_49_2 : lk_seg 167 [(.iinc 2 1, 3, (0, [], .int (1))), (.goto (-12), 3, (40, [], .null))] 49 = some 40 := by decide +kernel
set_option maxRecDepth 20000 in
theorem E_m_shortest {X : lk_X} {d : Nat} {x1 : Int32} {a0 : Nat} {h : lk_H} {Q : Option Value → lk_H → Prop} (H : lk_wxi X d 112 [.long (x1.toInt64), .long 1, .long 6] h (fun r2 h1 => (¬ r2 = 0 → lk_fI h1 a0 14 [(11, 0)] (fun r3 => (¬ ((r3 >>> (x1 &&& 31)) &&& 1) = 0 → lk_fR h1 a0 15 [(11, 0)] (fun r4 => lk_ai h1 r4 x1 (fun r5 => Q (some (.int r5)) h1))) ∧ (((r3 >>> (x1 &&& 31)) &&& 1) = 0 → lk_fI h1 a0 14 [(11, 0)] (fun r6 => lk_pf h1 a0 14 [(11, 0)] (.int (r6 ||| (1 <<< (x1 &&& 31)))) (fun h7 => lk_wp X (d + 1) 167 40 [.ref a0, .int x1, .int 0] [] h7 Q))))) ∧ (r2 = 0 → Q (some (.int ((-1000001)))) h1))) : lk_wx X (d + 1) 167 [.ref a0, .int x1] h Q := by
  refine lk_enter (lo := [.ref a0, .int x1, .retAddr 0]) lk_M167 rfl (Nat.le_of_ble_eq_true rfl) ?_
  refine lk_wp_seg (lo' := [.ref a0, .int x1, .retAddr 0]) (st' := [.long 6, .long 1, .long (x1.toInt64)]) lk_M167 lk_s167_0_4 rfl ?_
  refine lk_wp_cs (as := [.long (x1.toInt64), .long 1, .long 6]) (r := []) lk_i167_6 lk_M167 rfl rfl rfl rfl (Nat.le_of_ble_eq_true rfl) (lk_gi H (fun r2 h1 H => ?_))
  refine lk_wp_if_ne lk_i167_9 lk_M167 H (fun H => ?_) (fun H => ?_)
  · refine lk_wp_seg (lo' := [.ref a0, .int x1, .retAddr 0]) (st' := [.ref a0]) lk_M167 lk_s167_15_1 rfl ?_
    refine lk_wp_fI lk_i167_16 lk_M167 H (fun r3 H => ?_)
    refine lk_wp_seg (lo' := [.ref a0, .int x1, .retAddr 0]) (st' := [.int ((r3 >>> (x1 &&& 31)) &&& 1)]) lk_M167 lk_s167_19_4 rfl ?_
    refine lk_wp_if_ne lk_i167_23 lk_M167 H (fun H => ?_) (fun H => ?_)
    · refine lk_wp_seg (lo' := [.ref a0, .int x1, .retAddr 0]) (st' := [.ref a0]) lk_M167 lk_s167_62_1 rfl ?_
      refine lk_wp_fR lk_i167_63 lk_M167 H (fun r4 H => ?_)
      refine lk_wp_seg (lo' := [.ref a0, .int x1, .retAddr 0]) (st' := [.int x1, .ref r4]) lk_M167 lk_s167_66_1 rfl ?_
      refine lk_wp_ai lk_i167_67 lk_M167 H (fun r5 H => ?_)
      exact lk_wp_ret lk_i167_68 lk_M167 rfl H
    · refine lk_wp_seg (lo' := [.ref a0, .int x1, .retAddr 0]) (st' := [.ref a0, .ref a0]) lk_M167 lk_s167_26_2 rfl ?_
      refine lk_wp_fI lk_i167_28 lk_M167 H (fun r6 H => ?_)
      refine lk_wp_seg (lo' := [.ref a0, .int x1, .retAddr 0]) (st' := [.int (r6 ||| (1 <<< (x1 &&& 31))), .ref a0]) lk_M167 lk_s167_31_4 rfl ?_
      refine lk_wp_pf lk_i167_35 lk_M167 H (fun h7 H => ?_)
      refine lk_wp_seg (lo' := [.ref a0, .int x1, .int 0]) (st' := []) lk_M167 lk_s167_38_2 rfl ?_
      exact H
  · refine lk_wp_seg (lo' := [.ref a0, .int x1, .retAddr 0]) (st' := [.int ((-1000001))]) lk_M167 lk_s167_12_1 rfl ?_
    exact lk_wp_ret lk_i167_14 lk_M167 rfl H
set_option maxRecDepth 20000 in
theorem F_m_shortest_40 {X : lk_X} {d : Nat} {x1 x2 : Int32} {a0 : Nat} {h : lk_H} {Q : Option Value → lk_H → Prop} (H : lk_vc h a0 [(11, 166)] (fun k7 => lk_wxi X d k7 [.ref a0, .int x1, .int x2] h (fun r2 h1 => (¬ r2 = 0 → lk_fR h1 a0 15 [(11, 0)] (fun r3 => lk_as h1 r3 x1 x2 (fun h4 => lk_fR h4 a0 15 [(11, 0)] (fun r5 => lk_ai h4 r5 x1 (fun r6 => Q (some (.int r6)) h4))))) ∧ (r2 = 0 → lk_wp X (d + 1) 167 40 [.ref a0, .int x1, .int (x2 + 1)] [] h1 Q)))) : lk_wp X (d + 1) 167 40 [.ref a0, .int x1, .int x2] [] h Q := by
  refine lk_wp_seg (lo' := [.ref a0, .int x1, .int x2]) (st' := [.int x2, .int x1, .ref a0]) lk_M167 lk_s167_40_3 rfl ?_
  refine lk_wp_cv (as := [.int x1, .int x2]) (r := []) (a := a0) lk_i167_43 lk_M167 rfl rfl rfl (Nat.le_of_ble_eq_true rfl) H (fun k7 H => lk_gi H (fun r2 h1 H => ?_))
  refine lk_wp_if_ne lk_i167_46 lk_M167 H (fun H => ?_) (fun H => ?_)
  · refine lk_wp_seg (lo' := [.ref a0, .int x1, .int x2]) (st' := [.ref a0]) lk_M167 lk_s167_55_1 rfl ?_
    refine lk_wp_fR lk_i167_56 lk_M167 H (fun r3 H => ?_)
    refine lk_wp_seg (lo' := [.ref a0, .int x1, .int x2]) (st' := [.int x2, .int x1, .ref r3]) lk_M167 lk_s167_59_2 rfl ?_
    refine lk_wp_as lk_i167_61 lk_M167 H (fun h4 H => ?_)
    refine lk_wp_seg (lo' := [.ref a0, .int x1, .int x2]) (st' := [.ref a0]) lk_M167 lk_s167_62_1 rfl ?_
    refine lk_wp_fR lk_i167_63 lk_M167 H (fun r5 H => ?_)
    refine lk_wp_seg (lo' := [.ref a0, .int x1, .int x2]) (st' := [.int x1, .ref r5]) lk_M167 lk_s167_66_1 rfl ?_
    refine lk_wp_ai lk_i167_67 lk_M167 H (fun r6 H => ?_)
    exact lk_wp_ret lk_i167_68 lk_M167 rfl H
  · refine lk_wp_seg (lo' := [.ref a0, .int x1, .int (x2 + 1)]) (st' := []) lk_M167 lk_s167_49_2 rfl ?_
    exact H
/-! LonelyDotsModel.count(I)I -/
theorem lk_M168 : lk_mt[168]? = some (yX12_count, cX12_count, 4, ((some FieldType.int))) := rfl
theorem lk_s168_0_4 : lk_seg 168 [(.iload_n 1, 1, (0, [], .null)), (.i2l, 1, (0, [], .null)), (.lconst 0, 1, (0, [], .long 0)), (.ldc2_w 152, 3, (0, [], .long (5)))] 0 = some 6 := by decide +kernel
theorem lk_i168_6 : lk_ins 168 6 = some (.invokestatic 60, 3, (0, [(0, 112)], .ref 80)) := lk_eqE_eq (by decide +kernel)
theorem lk_i168_9 : lk_ins 168 9 = some (.ifCond .ne 6, 3, (15, [], .null)) := lk_eqE_eq (by decide +kernel)
theorem lk_s168_15_4 : lk_seg 168 [(.iconst 0, 1, (0, [], .int (0))), (.istore_n 2, 1, (0, [], .null)), (.iconst 0, 1, (0, [], .int (0))), (.istore_n 3, 1, (0, [], .null))] 15 = some 19 := by decide +kernel
theorem lk_s168_12_1 : lk_seg 168 [(.ldc 70, 2, (0, [], .int (-1000001)))] 12 = some 14 := by decide +kernel
theorem lk_i168_14 : lk_ins 168 14 = some (.ireturn, 1, (0, [], .null)) := lk_eqE_eq (by decide +kernel)
theorem lk_s168_19_2 : lk_seg 168 [(.iload_n 3, 1, (0, [], .null)), (.bipush 8, 2, (0, [], .int (8)))] 19 = some 22 := by decide +kernel
theorem lk_i168_22 : lk_ins 168 22 = some (.if_icmp .ge 30, 3, (52, [], .null)) := lk_eqE_eq (by decide +kernel)
theorem lk_s168_52_2 : lk_seg 168 [(.iconst 0, 1, (0, [], .int (0))), (.istore_n 3, 1, (0, [], .null))] 52 = some 54 := by decide +kernel
theorem lk_s168_25_1 : lk_seg 168 [(.iload_n 1, 1, (0, [], .null))] 25 = some 26 := by decide +kernel
theorem lk_i168_26 : lk_ins 168 26 = some (.ifCond .ne 26, 3, (52, [], .null)) := lk_eqE_eq (by decide +kernel)
theorem lk_s168_29_2 : lk_seg 168 [(.iload_n 2, 1, (0, [], .null)), (.aload_n 0, 1, (0, [], .null))] 29 = some 31 := by decide +kernel
theorem lk_i168_31 : lk_ins 168 31 = some (.getfield 7, 3, (0, [(11, 0)], .null)) := lk_eqE_eq (by decide +kernel)
theorem lk_s168_34_1 : lk_seg 168 [(.iload_n 3, 1, (0, [], .null))] 34 = some 35 := by decide +kernel
theorem lk_i168_35 : lk_ins 168 35 = some (.iaload, 1, (0, [], .null)) := lk_eqE_eq (by decide +kernel)
theorem lk_i168_36 : lk_ins 168 36 = some (.ifCond .le 7, 3, (43, [], .null)) := lk_eqE_eq (by decide +kernel)
theorem lk_s168_43_5 : lk_seg 168 [(.iconst 0, 1, (0, [], .int (0))), (.iadd, 1, (0, [], .null)), (.istore_n 2, 1, (0, [], .null)), (.iinc 3 1, 3, (0, [], .int (1))), (.goto (-30), 3, (19, [], .null))] 43 = some 19 := by decide +kernel
theorem lk_s168_39_2 : lk_seg 168 [(.iconst 1, 1, (0, [], .int (1))), (.goto 4, 3, (44, [], .null))] 39 = some 44 := by decide +kernel
theorem lk_s168_44_4 : lk_seg 168 [(.iadd, 1, (0, [], .null)), (.istore_n 2, 1, (0, [], .null)), (.iinc 3 1, 3, (0, [], .int (1))), (.goto (-30), 3, (19, [], .null))] 44 = some 19 := by decide +kernel
theorem lk_s168_54_2 : lk_seg 168 [(.iload_n 3, 1, (0, [], .null)), (.bipush 10, 2, (0, [], .int (10)))] 54 = some 57 := by decide +kernel
theorem lk_i168_57 : lk_ins 168 57 = some (.if_icmp .ge 45, 3, (102, [], .null)) := lk_eqE_eq (by decide +kernel)
theorem lk_s168_102_1 : lk_seg 168 [(.iload_n 2, 1, (0, [], .null))] 102 = some 103 := by decide +kernel
theorem lk_i168_103 : lk_ins 168 103 = some (.ireturn, 1, (0, [], .null)) := lk_eqE_eq (by decide +kernel)
theorem lk_s168_60_1 : lk_seg 168 [(.iload_n 1, 1, (0, [], .null))] 60 = some 61 := by decide +kernel
theorem lk_i168_61 : lk_ins 168 61 = some (.ifCond .le 41, 3, (102, [], .null)) := lk_eqE_eq (by decide +kernel)
theorem lk_s168_64_2 : lk_seg 168 [(.iload_n 2, 1, (0, [], .null)), (.aload_n 0, 1, (0, [], .null))] 64 = some 66 := by decide +kernel
theorem lk_i168_66 : lk_ins 168 66 = some (.getfield 22, 3, (4, [(11, 0)], .null)) := lk_eqE_eq (by decide +kernel)
theorem lk_s168_69_1 : lk_seg 168 [(.iload_n 3, 1, (0, [], .null))] 69 = some 70 := by decide +kernel
theorem lk_i168_70 : lk_ins 168 70 = some (.iaload, 1, (0, [], .null)) := lk_eqE_eq (by decide +kernel)
theorem lk_i168_71 : lk_ins 168 71 = some (.ifCond .le 22, 3, (93, [], .null)) := lk_eqE_eq (by decide +kernel)
theorem lk_s168_93_5 : lk_seg 168 [(.iconst 0, 1, (0, [], .int (0))), (.iadd, 1, (0, [], .null)), (.istore_n 2, 1, (0, [], .null)), (.iinc 3 1, 3, (0, [], .int (1))), (.goto (-45), 3, (54, [], .null))] 93 = some 54 := by decide +kernel
theorem lk_s168_74_1 : lk_seg 168 [(.aload_n 0, 1, (0, [], .null))] 74 = some 75 := by decide +kernel
theorem lk_i168_75 : lk_ins 168 75 = some (.getfield 22, 3, (4, [(11, 0)], .null)) := lk_eqE_eq (by decide +kernel)
theorem lk_s168_78_1 : lk_seg 168 [(.iload_n 3, 1, (0, [], .null))] 78 = some 79 := by decide +kernel
theorem lk_i168_79 : lk_ins 168 79 = some (.iaload, 1, (0, [], .null)) := lk_eqE_eq (by decide +kernel)
theorem lk_s168_80_3 : lk_seg 168 [(.iload_n 1, 1, (0, [], .null)), (.iconst 1, 1, (0, [], .int (1))), (.isub, 1, (0, [], .null))] 80 = some 83 := by decide +kernel
theorem lk_i168_83 : lk_ins 168 83 = some (.invokestatic 129, 3, (0, [(0, 121)], .ref 95)) := lk_eqE_eq (by decide +kernel)
theorem lk_i168_86 : lk_ins 168 86 = some (.ifCond .eq 7, 3, (93, [], .null)) := lk_eqE_eq (by decide +kernel)
theorem lk_s168_89_2 : lk_seg 168 [(.iconst 1, 1, (0, [], .int (1))), (.goto 4, 3, (94, [], .null))] 89 = some 94 := by decide +kernel
theorem lk_s168_94_4 : lk_seg 168 [(.iadd, 1, (0, [], .null)), (.istore_n 2, 1, (0, [], .null)), (.iinc 3 1, 3, (0, [], .int (1))), (.goto (-45), 3, (54, [], .null))] 94 = some 54 := by decide +kernel
set_option maxRecDepth 20000 in
theorem E_m_count {X : lk_X} {d : Nat} {x1 : Int32} {a0 : Nat} {h : lk_H} {Q : Option Value → lk_H → Prop} (H : lk_wxi X d 112 [.long (x1.toInt64), .long 0, .long 5] h (fun r2 h1 => (¬ r2 = 0 → lk_wp X (d + 1) 168 19 [.ref a0, .int x1, .int 0, .int 0] [] h1 Q) ∧ (r2 = 0 → Q (some (.int ((-1000001)))) h1))) : lk_wx X (d + 1) 168 [.ref a0, .int x1] h Q := by
  refine lk_enter (lo := [.ref a0, .int x1, .retAddr 0, .retAddr 0]) lk_M168 rfl (Nat.le_of_ble_eq_true rfl) ?_
  refine lk_wp_seg (lo' := [.ref a0, .int x1, .retAddr 0, .retAddr 0]) (st' := [.long 5, .long 0, .long (x1.toInt64)]) lk_M168 lk_s168_0_4 rfl ?_
  refine lk_wp_cs (as := [.long (x1.toInt64), .long 0, .long 5]) (r := []) lk_i168_6 lk_M168 rfl rfl rfl rfl (Nat.le_of_ble_eq_true rfl) (lk_gi H (fun r2 h1 H => ?_))
  refine lk_wp_if_ne lk_i168_9 lk_M168 H (fun H => ?_) (fun H => ?_)
  · refine lk_wp_seg (lo' := [.ref a0, .int x1, .int 0, .int 0]) (st' := []) lk_M168 lk_s168_15_4 rfl ?_
    exact H
  · refine lk_wp_seg (lo' := [.ref a0, .int x1, .retAddr 0, .retAddr 0]) (st' := [.int ((-1000001))]) lk_M168 lk_s168_12_1 rfl ?_
    exact lk_wp_ret lk_i168_14 lk_M168 rfl H
set_option maxRecDepth 20000 in
theorem F_m_count_19 {X : lk_X} {d : Nat} {x1 x2 x3 : Int32} {a0 : Nat} {h : lk_H} {Q : Option Value → lk_H → Prop} (H : (8 ≤ x3 → lk_wp X (d + 1) 168 54 [.ref a0, .int x1, .int x2, .int 0] [] h Q) ∧ (¬ 8 ≤ x3 → (¬ x1 = 0 → lk_wp X (d + 1) 168 54 [.ref a0, .int x1, .int x2, .int 0] [] h Q) ∧ (x1 = 0 → lk_fR h a0 0 [(11, 0)] (fun r1 => lk_ai h r1 x3 (fun r2 => (r2 ≤ 0 → lk_wp X (d + 1) 168 19 [.ref a0, .int x1, .int (x2 + 0), .int (x3 + 1)] [] h Q) ∧ (¬ r2 ≤ 0 → lk_wp X (d + 1) 168 19 [.ref a0, .int x1, .int (x2 + 1), .int (x3 + 1)] [] h Q)))))) : lk_wp X (d + 1) 168 19 [.ref a0, .int x1, .int x2, .int x3] [] h Q := by
  refine lk_wp_seg (lo' := [.ref a0, .int x1, .int x2, .int x3]) (st' := [.int 8, .int x3]) lk_M168 lk_s168_19_2 rfl ?_
  refine lk_wp_ic_ge lk_i168_22 lk_M168 H (fun H => ?_) (fun H => ?_)
  · refine lk_wp_seg (lo' := [.ref a0, .int x1, .int x2, .int 0]) (st' := []) lk_M168 lk_s168_52_2 rfl ?_
    exact H
  · refine lk_wp_seg (lo' := [.ref a0, .int x1, .int x2, .int x3]) (st' := [.int x1]) lk_M168 lk_s168_25_1 rfl ?_
    refine lk_wp_if_ne lk_i168_26 lk_M168 H (fun H => ?_) (fun H => ?_)
    · refine lk_wp_seg (lo' := [.ref a0, .int x1, .int x2, .int 0]) (st' := []) lk_M168 lk_s168_52_2 rfl ?_
      exact H
    · refine lk_wp_seg (lo' := [.ref a0, .int x1, .int x2, .int x3]) (st' := [.ref a0, .int x2]) lk_M168 lk_s168_29_2 rfl ?_
      refine lk_wp_fR lk_i168_31 lk_M168 H (fun r1 H => ?_)
      refine lk_wp_seg (lo' := [.ref a0, .int x1, .int x2, .int x3]) (st' := [.int x3, .ref r1, .int x2]) lk_M168 lk_s168_34_1 rfl ?_
      refine lk_wp_ai lk_i168_35 lk_M168 H (fun r2 H => ?_)
      refine lk_wp_if_le lk_i168_36 lk_M168 H (fun H => ?_) (fun H => ?_)
      · refine lk_wp_seg (lo' := [.ref a0, .int x1, .int (x2 + 0), .int (x3 + 1)]) (st' := []) lk_M168 lk_s168_43_5 rfl ?_
        exact H
      · refine lk_wp_seg (lo' := [.ref a0, .int x1, .int x2, .int x3]) (st' := [.int 1, .int x2]) lk_M168 lk_s168_39_2 rfl ?_
        refine lk_wp_seg (lo' := [.ref a0, .int x1, .int (x2 + 1), .int (x3 + 1)]) (st' := []) lk_M168 lk_s168_44_4 rfl ?_
        exact H
set_option maxRecDepth 20000 in
theorem F_m_count_54 {X : lk_X} {d : Nat} {x1 x2 x3 : Int32} {a0 : Nat} {h : lk_H} {Q : Option Value → lk_H → Prop} (H : (10 ≤ x3 → Q (some (.int x2)) h) ∧ (¬ 10 ≤ x3 → (x1 ≤ 0 → Q (some (.int x2)) h) ∧ (¬ x1 ≤ 0 → lk_fR h a0 4 [(11, 0)] (fun r1 => lk_ai h r1 x3 (fun r2 => (r2 ≤ 0 → lk_wp X (d + 1) 168 54 [.ref a0, .int x1, .int (x2 + 0), .int (x3 + 1)] [] h Q) ∧ (¬ r2 ≤ 0 → lk_fR h a0 4 [(11, 0)] (fun r3 => lk_ai h r3 x3 (fun r4 => lk_wxi X d 121 [.int r4, .int (x1 - 1)] h (fun r6 h5 => (r6 = 0 → lk_wp X (d + 1) 168 54 [.ref a0, .int x1, .int (x2 + 0), .int (x3 + 1)] [] h5 Q) ∧ (¬ r6 = 0 → lk_wp X (d + 1) 168 54 [.ref a0, .int x1, .int (x2 + 1), .int (x3 + 1)] [] h5 Q)))))))))) : lk_wp X (d + 1) 168 54 [.ref a0, .int x1, .int x2, .int x3] [] h Q := by
  refine lk_wp_seg (lo' := [.ref a0, .int x1, .int x2, .int x3]) (st' := [.int 10, .int x3]) lk_M168 lk_s168_54_2 rfl ?_
  refine lk_wp_ic_ge lk_i168_57 lk_M168 H (fun H => ?_) (fun H => ?_)
  · refine lk_wp_seg (lo' := [.ref a0, .int x1, .int x2, .int x3]) (st' := [.int x2]) lk_M168 lk_s168_102_1 rfl ?_
    exact lk_wp_ret lk_i168_103 lk_M168 rfl H
  · refine lk_wp_seg (lo' := [.ref a0, .int x1, .int x2, .int x3]) (st' := [.int x1]) lk_M168 lk_s168_60_1 rfl ?_
    refine lk_wp_if_le lk_i168_61 lk_M168 H (fun H => ?_) (fun H => ?_)
    · refine lk_wp_seg (lo' := [.ref a0, .int x1, .int x2, .int x3]) (st' := [.int x2]) lk_M168 lk_s168_102_1 rfl ?_
      exact lk_wp_ret lk_i168_103 lk_M168 rfl H
    · refine lk_wp_seg (lo' := [.ref a0, .int x1, .int x2, .int x3]) (st' := [.ref a0, .int x2]) lk_M168 lk_s168_64_2 rfl ?_
      refine lk_wp_fR lk_i168_66 lk_M168 H (fun r1 H => ?_)
      refine lk_wp_seg (lo' := [.ref a0, .int x1, .int x2, .int x3]) (st' := [.int x3, .ref r1, .int x2]) lk_M168 lk_s168_69_1 rfl ?_
      refine lk_wp_ai lk_i168_70 lk_M168 H (fun r2 H => ?_)
      refine lk_wp_if_le lk_i168_71 lk_M168 H (fun H => ?_) (fun H => ?_)
      · refine lk_wp_seg (lo' := [.ref a0, .int x1, .int (x2 + 0), .int (x3 + 1)]) (st' := []) lk_M168 lk_s168_93_5 rfl ?_
        exact H
      · refine lk_wp_seg (lo' := [.ref a0, .int x1, .int x2, .int x3]) (st' := [.ref a0, .int x2]) lk_M168 lk_s168_74_1 rfl ?_
        refine lk_wp_fR lk_i168_75 lk_M168 H (fun r3 H => ?_)
        refine lk_wp_seg (lo' := [.ref a0, .int x1, .int x2, .int x3]) (st' := [.int x3, .ref r3, .int x2]) lk_M168 lk_s168_78_1 rfl ?_
        refine lk_wp_ai lk_i168_79 lk_M168 H (fun r4 H => ?_)
        refine lk_wp_seg (lo' := [.ref a0, .int x1, .int x2, .int x3]) (st' := [.int (x1 - 1), .int r4, .int x2]) lk_M168 lk_s168_80_3 rfl ?_
        refine lk_wp_cs (as := [.int r4, .int (x1 - 1)]) (r := [.int x2]) lk_i168_83 lk_M168 rfl rfl rfl rfl (Nat.le_of_ble_eq_true rfl) (lk_gi H (fun r6 h5 H => ?_))
        refine lk_wp_if_eq lk_i168_86 lk_M168 H (fun H => ?_) (fun H => ?_)
        · refine lk_wp_seg (lo' := [.ref a0, .int x1, .int (x2 + 0), .int (x3 + 1)]) (st' := []) lk_M168 lk_s168_93_5 rfl ?_
          exact H
        · refine lk_wp_seg (lo' := [.ref a0, .int x1, .int x2, .int x3]) (st' := [.int 1, .int x2]) lk_M168 lk_s168_89_2 rfl ?_
          refine lk_wp_seg (lo' := [.ref a0, .int x1, .int (x2 + 1), .int (x3 + 1)]) (st' := []) lk_M168 lk_s168_94_4 rfl ?_
          exact H
/-! LonelyDotsModel.status()I -/
theorem lk_M169 : lk_mt[169]? = some (yX12_status, cX12_status, 1, ((some FieldType.int))) := rfl
theorem lk_s169_0_1 : lk_seg 169 [(.aload_n 0, 1, (0, [], .null))] 0 = some 1 := by decide +kernel
theorem lk_i169_1 : lk_ins 169 1 = some (.getfield 53, 3, (7, [(11, 0)], .null)) := lk_eqE_eq (by decide +kernel)
theorem lk_i169_4 : lk_ins 169 4 = some (.ireturn, 1, (0, [], .null)) := lk_eqE_eq (by decide +kernel)
set_option maxRecDepth 20000 in
theorem E_m_status {X : lk_X} {d : Nat} {a0 : Nat} {h : lk_H} {Q : Option Value → lk_H → Prop} (H : lk_fI h a0 7 [(11, 0)] (fun r1 => Q (some (.int r1)) h)) : lk_wx X (d + 1) 169 [.ref a0] h Q := by
  refine lk_enter (lo := [.ref a0]) lk_M169 rfl (Nat.le_of_ble_eq_true rfl) ?_
  refine lk_wp_seg (lo' := [.ref a0]) (st' := [.ref a0]) lk_M169 lk_s169_0_1 rfl ?_
  refine lk_wp_fI lk_i169_1 lk_M169 H (fun r1 H => ?_)
  exact lk_wp_ret lk_i169_4 lk_M169 rfl H
