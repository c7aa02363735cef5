/-! LonelyDotsModel.refusal(II)I -/
theorem lk_M136 : lk_mt[136]? = some (yX12_refusal, cX12_refusal, 3, ((some FieldType.int))) := rfl
theorem lk_s136_0_1 : lk_seg 136 [(.aload_n 0, 1, (0, [], .null))] 0 = some 1 := by decide +kernel
theorem lk_i136_1 : lk_ins 136 1 = some (.getfield 22, 3, (4, [(11, 0)], .null)) := lk_eqE_eq (by decide +kernel)
theorem lk_s136_4_1 : lk_seg 136 [(.iload_n 1, 1, (0, [], .null))] 4 = some 5 := by decide +kernel
theorem lk_i136_5 : lk_ins 136 5 = some (.iaload, 1, (0, [], .null)) := lk_eqE_eq (by decide +kernel)
theorem lk_i136_6 : lk_ins 136 6 = some (.ifCond .ne 9, 3, (15, [], .null)) := lk_eqE_eq (by decide +kernel)
theorem lk_s136_15_1 : lk_seg 136 [(.aload_n 0, 1, (0, [], .null))] 15 = some 16 := by decide +kernel
theorem lk_i136_16 : lk_ins 136 16 = some (.getfield 22, 3, (4, [(11, 0)], .null)) := lk_eqE_eq (by decide +kernel)
theorem lk_s136_19_1 : lk_seg 136 [(.iload_n 1, 1, (0, [], .null))] 19 = some 20 := by decide +kernel
theorem lk_i136_20 : lk_ins 136 20 = some (.iaload, 1, (0, [], .null)) := lk_eqE_eq (by decide +kernel)
theorem lk_s136_21_1 : lk_seg 136 [(.iload_n 2, 1, (0, [], .null))] 21 = some 22 := by decide +kernel
theorem lk_i136_22 : lk_ins 136 22 = some (.invokestatic 129, 3, (0, [(0, 121)], .ref 95)) := lk_eqE_eq (by decide +kernel)
theorem lk_i136_25 : lk_ins 136 25 = some (.ifCond .eq 7, 3, (32, [], .null)) := lk_eqE_eq (by decide +kernel)
theorem lk_s136_32_2 : lk_seg 136 [(.aload_n 0, 1, (0, [], .null)), (.iconst 3, 1, (0, [], .int (3)))] 32 = some 34 := by decide +kernel
theorem lk_i136_34 : lk_ins 136 34 = some (.invokevirtual 71, 3, (1, [(11, 113)], .ref 82)) := lk_eqE_eq (by decide +kernel)
theorem lk_i136_37 : lk_ins 136 37 = some (.ireturn, 1, (0, [], .null)) := lk_eqE_eq (by decide +kernel)
theorem lk_s136_28_2 : lk_seg 136 [(.iconst 0, 1, (0, [], .int (0))), (.goto 8, 3, (37, [], .null))] 28 = some 37 := by decide +kernel
theorem lk_s136_9_2 : lk_seg 136 [(.aload_n 0, 1, (0, [], .null)), (.iconst 1, 1, (0, [], .int (1)))] 9 = some 11 := by decide +kernel
theorem lk_i136_11 : lk_ins 136 11 = some (.invokevirtual 71, 3, (1, [(11, 113)], .ref 82)) := lk_eqE_eq (by decide +kernel)
theorem lk_i136_14 : lk_ins 136 14 = some (.ireturn, 1, (0, [], .null)) := lk_eqE_eq (by decide +kernel)
set_option maxRecDepth 20000 in
theorem E_m_refusal {X : lk_X} {d : Nat} {x1 x2 : Int32} {a0 : Nat} {h : lk_H} {Q : Option Value → lk_H → Prop} (H : lk_fR h a0 4 [(11, 0)] (fun r1 => lk_ai h r1 x1 (fun r2 => (¬ r2 = 0 → lk_fR h a0 4 [(11, 0)] (fun r3 => lk_ai h r3 x1 (fun r4 => lk_wxi X d 121 [.int r4, .int x2] h (fun r6 h5 => (r6 = 0 → lk_vc h5 a0 [(11, 113)] (fun k9 => lk_wxi X d k9 [.ref a0, .int 3] h5 (fun r8 h7 => Q (some (.int r8)) h7))) ∧ (¬ r6 = 0 → Q (some (.int 0)) h5))))) ∧ (r2 = 0 → lk_vc h a0 [(11, 113)] (fun k12 => lk_wxi X d k12 [.ref a0, .int 1] h (fun r11 h10 => Q (some (.int r11)) h10)))))) : lk_wx X (d + 1) 136 [.ref a0, .int x1, .int x2] h Q := by
  refine lk_enter (lo := [.ref a0, .int x1, .int x2]) lk_M136 rfl (Nat.le_of_ble_eq_true rfl) ?_
  refine lk_wp_seg (lo' := [.ref a0, .int x1, .int x2]) (st' := [.ref a0]) lk_M136 lk_s136_0_1 rfl ?_
  refine lk_wp_fR lk_i136_1 lk_M136 H (fun r1 H => ?_)
  refine lk_wp_seg (lo' := [.ref a0, .int x1, .int x2]) (st' := [.int x1, .ref r1]) lk_M136 lk_s136_4_1 rfl ?_
  refine lk_wp_ai lk_i136_5 lk_M136 H (fun r2 H => ?_)
  refine lk_wp_if_ne lk_i136_6 lk_M136 H (fun H => ?_) (fun H => ?_)
  · refine lk_wp_seg (lo' := [.ref a0, .int x1, .int x2]) (st' := [.ref a0]) lk_M136 lk_s136_15_1 rfl ?_
    refine lk_wp_fR lk_i136_16 lk_M136 H (fun r3 H => ?_)
    refine lk_wp_seg (lo' := [.ref a0, .int x1, .int x2]) (st' := [.int x1, .ref r3]) lk_M136 lk_s136_19_1 rfl ?_
    refine lk_wp_ai lk_i136_20 lk_M136 H (fun r4 H => ?_)
    refine lk_wp_seg (lo' := [.ref a0, .int x1, .int x2]) (st' := [.int x2, .int r4]) lk_M136 lk_s136_21_1 rfl ?_
    refine lk_wp_cs (as := [.int r4, .int x2]) (r := []) lk_i136_22 lk_M136 rfl rfl rfl rfl (Nat.le_of_ble_eq_true rfl) (lk_gi H (fun r6 h5 H => ?_))
    refine lk_wp_if_eq lk_i136_25 lk_M136 H (fun H => ?_) (fun H => ?_)
    · refine lk_wp_seg (lo' := [.ref a0, .int x1, .int x2]) (st' := [.int 3, .ref a0]) lk_M136 lk_s136_32_2 rfl ?_
      refine lk_wp_cv (as := [.int 3]) (r := []) (a := a0) lk_i136_34 lk_M136 rfl rfl rfl (Nat.le_of_ble_eq_true rfl) H (fun k9 H => lk_gi H (fun r8 h7 H => ?_))
      exact lk_wp_ret lk_i136_37 lk_M136 rfl H
    · refine lk_wp_seg (lo' := [.ref a0, .int x1, .int x2]) (st' := [.int 0]) lk_M136 lk_s136_28_2 rfl ?_
      exact lk_wp_ret lk_i136_37 lk_M136 rfl H
  · refine lk_wp_seg (lo' := [.ref a0, .int x1, .int x2]) (st' := [.int 1, .ref a0]) lk_M136 lk_s136_9_2 rfl ?_
    refine lk_wp_cv (as := [.int 1]) (r := []) (a := a0) lk_i136_11 lk_M136 rfl rfl rfl (Nat.le_of_ble_eq_true rfl) H (fun k12 H => lk_gi H (fun r11 h10 H => ?_))
    exact lk_wp_ret lk_i136_14 lk_M136 rfl H
/-! LonelyDotsModel.take(III)I -/
theorem lk_M137 : lk_mt[137]? = some (yX12_take, cX12_take, 9, ((some FieldType.int))) := rfl
theorem lk_s137_0_1 : lk_seg 137 [(.iload_n 1, 1, (0, [], .null))] 0 = some 1 := by decide +kernel
theorem lk_i137_1 : lk_ins 137 1 = some (.invokestatic 100, 3, (0, [(0, 120)], .ref 89)) := lk_eqE_eq (by decide +kernel)
theorem lk_i137_4 : lk_ins 137 4 = some (.ifCond .eq 22, 3, (26, [], .null)) := lk_eqE_eq (by decide +kernel)
theorem lk_s137_26_1 : lk_seg 137 [(.ldc 70, 2, (0, [], .int (-1000001)))] 26 = some 28 := by decide +kernel
theorem lk_i137_28 : lk_ins 137 28 = some (.ireturn, 1, (0, [], .null)) := lk_eqE_eq (by decide +kernel)
theorem lk_s137_7_1 : lk_seg 137 [(.iload_n 2, 1, (0, [], .null))] 7 = some 8 := by decide +kernel
theorem lk_i137_8 : lk_ins 137 8 = some (.invokestatic 100, 3, (0, [(0, 120)], .ref 89)) := lk_eqE_eq (by decide +kernel)
theorem lk_i137_11 : lk_ins 137 11 = some (.ifCond .eq 15, 3, (26, [], .null)) := lk_eqE_eq (by decide +kernel)
theorem lk_s137_14_4 : lk_seg 137 [(.iload_n 3, 1, (0, [], .null)), (.i2l, 1, (0, [], .null)), (.lconst 0, 1, (0, [], .long 0)), (.ldc2_w 132, 3, (0, [], .long (3)))] 14 = some 20 := by decide +kernel
theorem lk_i137_20 : lk_ins 137 20 = some (.invokestatic 60, 3, (0, [(0, 112)], .ref 80)) := lk_eqE_eq (by decide +kernel)
theorem lk_i137_23 : lk_ins 137 23 = some (.ifCond .ne 6, 3, (29, [], .null)) := lk_eqE_eq (by decide +kernel)
theorem lk_s137_29_3 : lk_seg 137 [(.aload_n 0, 1, (0, [], .null)), (.iload_n 2, 1, (0, [], .null)), (.iconst 1, 1, (0, [], .int (1)))] 29 = some 32 := by decide +kernel
theorem lk_i137_32 : lk_ins 137 32 = some (.invokevirtual 134, 3, (1, [(11, 136)], .ref 96)) := lk_eqE_eq (by decide +kernel)
theorem lk_s137_35_2 : lk_seg 137 [(.istore 4, 2, (0, [], .null)), (.iload 4, 2, (0, [], .null))] 35 = some 39 := by decide +kernel
theorem lk_i137_39 : lk_ins 137 39 = some (.ifCond .eq 6, 3, (45, [], .null)) := lk_eqE_eq (by decide +kernel)
theorem lk_s137_45_1 : lk_seg 137 [(.aload_n 0, 1, (0, [], .null))] 45 = some 46 := by decide +kernel
theorem lk_i137_46 : lk_ins 137 46 = some (.getfield 25, 3, (5, [(11, 0)], .null)) := lk_eqE_eq (by decide +kernel)
theorem lk_s137_49_1 : lk_seg 137 [(.iload_n 2, 1, (0, [], .null))] 49 = some 50 := by decide +kernel
theorem lk_i137_50 : lk_ins 137 50 = some (.iaload, 1, (0, [], .null)) := lk_eqE_eq (by decide +kernel)
theorem lk_s137_51_3 : lk_seg 137 [(.istore 5, 2, (0, [], .null)), (.iload_n 3, 1, (0, [], .null)), (.iconst 2, 1, (0, [], .int (2)))] 51 = some 55 := by decide +kernel
theorem lk_i137_55 : lk_ins 137 55 = some (.if_icmp .ge 7, 3, (62, [], .null)) := lk_eqE_eq (by decide +kernel)
theorem lk_s137_62_6 : lk_seg 137 [(.iload 5, 2, (0, [], .null)), (.iconst 1, 1, (0, [], .int (1))), (.isub, 1, (0, [], .null)), (.istore 6, 2, (0, [], .null)), (.iload_n 3, 1, (0, [], .null)), (.iconst 2, 1, (0, [], .int (2)))] 62 = some 70 := by decide +kernel
theorem lk_i137_70 : lk_ins 137 70 = some (.irem, 1, (0, [], .null)) := lk_eqE_eq (by decide +kernel)
theorem lk_i137_71 : lk_ins 137 71 = some (.ifCond .ne 7, 3, (78, [], .null)) := lk_eqE_eq (by decide +kernel)
theorem lk_s137_78_6 : lk_seg 137 [(.iload 5, 2, (0, [], .null)), (.iconst 1, 1, (0, [], .int (1))), (.isub, 1, (0, [], .null)), (.istore 7, 2, (0, [], .null)), (.iload 5, 2, (0, [], .null)), (.iconst 1, 1, (0, [], .int (1)))] 78 = some 87 := by decide +kernel
theorem lk_i137_87 : lk_ins 137 87 = some (.if_icmp .eq 15, 3, (102, [], .null)) := lk_eqE_eq (by decide +kernel)
theorem lk_s137_102_2 : lk_seg 137 [(.aload_n 0, 1, (0, [], .null)), (.ldc 88, 2, (0, [], .int (-1000000)))] 102 = some 105 := by decide +kernel
theorem lk_i137_105 : lk_ins 137 105 = some (.invokevirtual 75, 3, (1, [(11, 114)], .ref 83)) := lk_eqE_eq (by decide +kernel)
theorem lk_i137_108 : lk_ins 137 108 = some (.ireturn, 1, (0, [], .null)) := lk_eqE_eq (by decide +kernel)
theorem lk_s137_90_3 : lk_seg 137 [(.aload_n 0, 1, (0, [], .null)), (.iload_n 2, 1, (0, [], .null)), (.iload 6, 2, (0, [], .null))] 90 = some 94 := by decide +kernel
theorem lk_i137_94 : lk_ins 137 94 = some (.invokevirtual 80, 3, (1, [(11, 122)], .ref 84)) := lk_eqE_eq (by decide +kernel)
theorem lk_s137_97_1 : lk_seg 137 [(.iload 7, 2, (0, [], .null))] 97 = some 99 := by decide +kernel
theorem lk_i137_99 : lk_ins 137 99 = some (.if_icmp .eq 10, 3, (109, [], .null)) := lk_eqE_eq (by decide +kernel)
theorem lk_s137_109_1 : lk_seg 137 [(.aload_n 0, 1, (0, [], .null))] 109 = some 110 := by decide +kernel
theorem lk_i137_110 : lk_ins 137 110 = some (.getfield 25, 3, (5, [(11, 0)], .null)) := lk_eqE_eq (by decide +kernel)
theorem lk_s137_113_4 : lk_seg 137 [(.bipush 10, 2, (0, [], .int (10))), (.iload 5, 2, (0, [], .null)), (.iconst 1, 1, (0, [], .int (1))), (.isub, 1, (0, [], .null))] 113 = some 119 := by decide +kernel
theorem lk_i137_119 : lk_ins 137 119 = some (.iastore, 1, (0, [], .null)) := lk_eqE_eq (by decide +kernel)
theorem lk_s137_120_2 : lk_seg 137 [(.iconst 0, 1, (0, [], .int (0))), (.istore 8, 2, (0, [], .null))] 120 = some 123 := by decide +kernel
theorem lk_s137_74_2 : lk_seg 137 [(.iconst 0, 1, (0, [], .int (0))), (.goto 7, 3, (82, [], .null))] 74 = some 82 := by decide +kernel
theorem lk_s137_82_3 : lk_seg 137 [(.istore 7, 2, (0, [], .null)), (.iload 5, 2, (0, [], .null)), (.iconst 1, 1, (0, [], .int (1)))] 82 = some 87 := by decide +kernel
theorem lk_s137_58_2 : lk_seg 137 [(.iconst 0, 1, (0, [], .int (0))), (.goto 7, 3, (66, [], .null))] 58 = some 66 := by decide +kernel
theorem lk_s137_66_3 : lk_seg 137 [(.istore 6, 2, (0, [], .null)), (.iload_n 3, 1, (0, [], .null)), (.iconst 2, 1, (0, [], .int (2)))] 66 = some 70 := by decide +kernel
theorem lk_s137_42_1 : lk_seg 137 [(.iload 4, 2, (0, [], .null))] 42 = some 44 := by decide +kernel
theorem lk_i137_44 : lk_ins 137 44 = some (.ireturn, 1, (0, [], .null)) := lk_eqE_eq (by decide +kernel)
theorem lk_s137_123_4 : lk_seg 137 [(.iload 8, 2, (0, [], .null)), (.iload 5, 2, (0, [], .null)), (.iconst 1, 1, (0, [], .int (1))), (.isub, 1, (0, [], .null))] 123 = some 129 := by decide +kernel
theorem lk_i137_129 : lk_ins 137 129 = some (.if_icmp .ge 46, 3, (175, [], .null)) := lk_eqE_eq (by decide +kernel)
theorem lk_s137_175_3 : lk_seg 137 [(.aload_n 0, 1, (0, [], .null)), (.iload_n 1, 1, (0, [], .null)), (.iconst 1, 1, (0, [], .int (1)))] 175 = some 178 := by decide +kernel
theorem lk_i137_178 : lk_ins 137 178 = some (.invokevirtual 108, 3, (1, [(11, 127)], .ref 91)) := lk_eqE_eq (by decide +kernel)
theorem lk_i137_181 : lk_ins 137 181 = some (.ireturn, 1, (0, [], .null)) := lk_eqE_eq (by decide +kernel)
theorem lk_s137_132_6 : lk_seg 137 [(.aload_n 0, 1, (0, [], .null)), (.iload 8, 2, (0, [], .null)), (.aload_n 0, 1, (0, [], .null)), (.iload_n 2, 1, (0, [], .null)), (.iload_n 3, 1, (0, [], .null)), (.iconst 2, 1, (0, [], .int (2)))] 132 = some 139 := by decide +kernel
theorem lk_i137_139 : lk_ins 137 139 = some (.if_icmp .ge 10, 3, (149, [], .null)) := lk_eqE_eq (by decide +kernel)
theorem lk_s137_149_1 : lk_seg 137 [(.iload 8, 2, (0, [], .null))] 149 = some 151 := by decide +kernel
theorem lk_i137_151 : lk_ins 137 151 = some (.invokevirtual 80, 3, (1, [(11, 122)], .ref 84)) := lk_eqE_eq (by decide +kernel)
theorem lk_s137_154_2 : lk_seg 137 [(.iload_n 3, 1, (0, [], .null)), (.iconst 2, 1, (0, [], .int (2)))] 154 = some 156 := by decide +kernel
theorem lk_i137_156 : lk_ins 137 156 = some (.irem, 1, (0, [], .null)) := lk_eqE_eq (by decide +kernel)
theorem lk_i137_157 : lk_ins 137 157 = some (.ifCond .ne 7, 3, (164, [], .null)) := lk_eqE_eq (by decide +kernel)
theorem lk_s137_164_2 : lk_seg 137 [(.iconst 0, 1, (0, [], .int (0))), (.isub, 1, (0, [], .null))] 164 = some 166 := by decide +kernel
theorem lk_i137_166 : lk_ins 137 166 = some (.invokevirtual 105, 3, (1, [(11, 128)], .ref 90)) := lk_eqE_eq (by decide +kernel)
theorem lk_s137_169_2 : lk_seg 137 [(.iinc 8 1, 3, (0, [], .int (1))), (.goto (-49), 3, (123, [], .null))] 169 = some 123 := by decide +kernel
theorem lk_s137_160_2 : lk_seg 137 [(.iconst 1, 1, (0, [], .int (1))), (.goto 4, 3, (165, [], .null))] 160 = some 165 := by decide +kernel
theorem lk_s137_165_1 : lk_seg 137 [(.isub, 1, (0, [], .null))] 165 = some 166 := by decide +kernel
theorem lk_s137_142_4 : lk_seg 137 [(.iload 8, 2, (0, [], .null)), (.iconst 1, 1, (0, [], .int (1))), (.iadd, 1, (0, [], .null)), (.goto 5, 3, (151, [], .null))] 142 = some 151 := by decide +kernel
set_option maxRecDepth 20000 in
theorem E_m_take {X : lk_X} {d : Nat} {x1 x2 x3 : Int32} {a0 : Nat} {h : lk_H} {Q : Option Value → lk_H → Prop} (H : lk_wxi X d 120 [.int x1] h (fun r2 h1 => (r2 = 0 → Q (some (.int ((-1000001)))) h1) ∧ (¬ r2 = 0 → lk_wxi X d 120 [.int x2] h1 (fun r4 h3 => (r4 = 0 → Q (some (.int ((-1000001)))) h3) ∧ (¬ r4 = 0 → lk_wxi X d 112 [.long (x3.toInt64), .long 0, .long 3] h3 (fun r6 h5 => (¬ r6 = 0 → lk_vc h5 a0 [(11, 136)] (fun k55 => lk_wxi X d k55 [.ref a0, .int x2, .int 1] h5 (fun r8 h7 => (r8 = 0 → lk_fR h7 a0 5 [(11, 0)] (fun r9 => lk_ai h7 r9 x2 (fun r10 => (2 ≤ x3 → ¬ (2 : Int32) = 0 ∧ ((¬ (x3 - x3 / (2 : Int32) * (2 : Int32)) = 0 → (r10 = 1 → lk_vc h7 a0 [(11, 114)] (fun k13 => lk_wxi X d k13 [.ref a0, .int ((-1000000))] h7 (fun r12 h11 => Q (some (.int r12)) h11))) ∧ (¬ r10 = 1 → lk_vc h7 a0 [(11, 122)] (fun k21 => lk_wxi X d k21 [.ref a0, .int x2, .int (r10 - 1)] h7 (fun r15 h14 => (r15 = (r10 - 1) → lk_fR h14 a0 5 [(11, 0)] (fun r16 => lk_as h14 r16 10 (r10 - 1) (fun h17 => lk_wp X (d + 1) 137 123 [.ref a0, .int x1, .int x2, .int x3, .retAddr 0, .int r10, .retAddr 0, .retAddr 0, .int 0] [] h17 Q))) ∧ (¬ r15 = (r10 - 1) → lk_vc h14 a0 [(11, 114)] (fun k20 => lk_wxi X d k20 [.ref a0, .int ((-1000000))] h14 (fun r19 h18 => Q (some (.int r19)) h18))))))) ∧ ((x3 - x3 / (2 : Int32) * (2 : Int32)) = 0 → (r10 = 1 → lk_vc h7 a0 [(11, 114)] (fun k24 => lk_wxi X d k24 [.ref a0, .int ((-1000000))] h7 (fun r23 h22 => Q (some (.int r23)) h22))) ∧ (¬ r10 = 1 → lk_vc h7 a0 [(11, 122)] (fun k32 => lk_wxi X d k32 [.ref a0, .int x2, .int (r10 - 1)] h7 (fun r26 h25 => (r26 = 0 → lk_fR h25 a0 5 [(11, 0)] (fun r27 => lk_as h25 r27 10 (r10 - 1) (fun h28 => lk_wp X (d + 1) 137 123 [.ref a0, .int x1, .int x2, .int x3, .retAddr 0, .int r10, .retAddr 0, .retAddr 0, .int 0] [] h28 Q))) ∧ (¬ r26 = 0 → lk_vc h25 a0 [(11, 114)] (fun k31 => lk_wxi X d k31 [.ref a0, .int ((-1000000))] h25 (fun r30 h29 => Q (some (.int r30)) h29))))))))) ∧ (¬ 2 ≤ x3 → ¬ (2 : Int32) = 0 ∧ ((¬ (x3 - x3 / (2 : Int32) * (2 : Int32)) = 0 → (r10 = 1 → lk_vc h7 a0 [(11, 114)] (fun k35 => lk_wxi X d k35 [.ref a0, .int ((-1000000))] h7 (fun r34 h33 => Q (some (.int r34)) h33))) ∧ (¬ r10 = 1 → lk_vc h7 a0 [(11, 122)] (fun k43 => lk_wxi X d k43 [.ref a0, .int x2, .int 0] h7 (fun r37 h36 => (r37 = (r10 - 1) → lk_fR h36 a0 5 [(11, 0)] (fun r38 => lk_as h36 r38 10 (r10 - 1) (fun h39 => lk_wp X (d + 1) 137 123 [.ref a0, .int x1, .int x2, .int x3, .retAddr 0, .int r10, .retAddr 0, .retAddr 0, .int 0] [] h39 Q))) ∧ (¬ r37 = (r10 - 1) → lk_vc h36 a0 [(11, 114)] (fun k42 => lk_wxi X d k42 [.ref a0, .int ((-1000000))] h36 (fun r41 h40 => Q (some (.int r41)) h40))))))) ∧ ((x3 - x3 / (2 : Int32) * (2 : Int32)) = 0 → (r10 = 1 → lk_vc h7 a0 [(11, 114)] (fun k46 => lk_wxi X d k46 [.ref a0, .int ((-1000000))] h7 (fun r45 h44 => Q (some (.int r45)) h44))) ∧ (¬ r10 = 1 → lk_vc h7 a0 [(11, 122)] (fun k54 => lk_wxi X d k54 [.ref a0, .int x2, .int 0] h7 (fun r48 h47 => (r48 = 0 → lk_fR h47 a0 5 [(11, 0)] (fun r49 => lk_as h47 r49 10 (r10 - 1) (fun h50 => lk_wp X (d + 1) 137 123 [.ref a0, .int x1, .int x2, .int x3, .retAddr 0, .int r10, .retAddr 0, .retAddr 0, .int 0] [] h50 Q))) ∧ (¬ r48 = 0 → lk_vc h47 a0 [(11, 114)] (fun k53 => lk_wxi X d k53 [.ref a0, .int ((-1000000))] h47 (fun r52 h51 => Q (some (.int r52)) h51)))))))))))) ∧ (¬ r8 = 0 → Q (some (.int r8)) h7)))) ∧ (r6 = 0 → Q (some (.int ((-1000001)))) h5))))))) : lk_wx X (d + 1) 137 [.ref a0, .int x1, .int x2, .int x3] h Q := by
  refine lk_enter (lo := [.ref a0, .int x1, .int x2, .int x3, .retAddr 0, .retAddr 0, .retAddr 0, .retAddr 0, .retAddr 0]) lk_M137 rfl (Nat.le_of_ble_eq_true rfl) ?_
  refine lk_wp_seg (lo' := [.ref a0, .int x1, .int x2, .int x3, .retAddr 0, .retAddr 0, .retAddr 0, .retAddr 0, .retAddr 0]) (st' := [.int x1]) lk_M137 lk_s137_0_1 rfl ?_
  refine lk_wp_cs (as := [.int x1]) (r := []) lk_i137_1 lk_M137 rfl rfl rfl rfl (Nat.le_of_ble_eq_true rfl) (lk_gi H (fun r2 h1 H => ?_))
  refine lk_wp_if_eq lk_i137_4 lk_M137 H (fun H => ?_) (fun H => ?_)
  · refine lk_wp_seg (lo' := [.ref a0, .int x1, .int x2, .int x3, .retAddr 0, .retAddr 0, .retAddr 0, .retAddr 0, .retAddr 0]) (st' := [.int ((-1000001))]) lk_M137 lk_s137_26_1 rfl ?_
    exact lk_wp_ret lk_i137_28 lk_M137 rfl H
  · refine lk_wp_seg (lo' := [.ref a0, .int x1, .int x2, .int x3, .retAddr 0, .retAddr 0, .retAddr 0, .retAddr 0, .retAddr 0]) (st' := [.int x2]) lk_M137 lk_s137_7_1 rfl ?_
    refine lk_wp_cs (as := [.int x2]) (r := []) lk_i137_8 lk_M137 rfl rfl rfl rfl (Nat.le_of_ble_eq_true rfl) (lk_gi H (fun r4 h3 H => ?_))
    refine lk_wp_if_eq lk_i137_11 lk_M137 H (fun H => ?_) (fun H => ?_)
    · refine lk_wp_seg (lo' := [.ref a0, .int x1, .int x2, .int x3, .retAddr 0, .retAddr 0, .retAddr 0, .retAddr 0, .retAddr 0]) (st' := [.int ((-1000001))]) lk_M137 lk_s137_26_1 rfl ?_
      exact lk_wp_ret lk_i137_28 lk_M137 rfl H
    · refine lk_wp_seg (lo' := [.ref a0, .int x1, .int x2, .int x3, .retAddr 0, .retAddr 0, .retAddr 0, .retAddr 0, .retAddr 0]) (st' := [.long 3, .long 0, .long (x3.toInt64)]) lk_M137 lk_s137_14_4 rfl ?_
      refine lk_wp_cs (as := [.long (x3.toInt64), .long 0, .long 3]) (r := []) lk_i137_20 lk_M137 rfl rfl rfl rfl (Nat.le_of_ble_eq_true rfl) (lk_gi H (fun r6 h5 H => ?_))
      refine lk_wp_if_ne lk_i137_23 lk_M137 H (fun H => ?_) (fun H => ?_)
      · refine lk_wp_seg (lo' := [.ref a0, .int x1, .int x2, .int x3, .retAddr 0, .retAddr 0, .retAddr 0, .retAddr 0, .retAddr 0]) (st' := [.int 1, .int x2, .ref a0]) lk_M137 lk_s137_29_3 rfl ?_
        refine lk_wp_cv (as := [.int x2, .int 1]) (r := []) (a := a0) lk_i137_32 lk_M137 rfl rfl rfl (Nat.le_of_ble_eq_true rfl) H (fun k55 H => lk_gi H (fun r8 h7 H => ?_))
        refine lk_wp_seg (lo' := [.ref a0, .int x1, .int x2, .int x3, .int r8, .retAddr 0, .retAddr 0, .retAddr 0, .retAddr 0]) (st' := [.int r8]) lk_M137 lk_s137_35_2 rfl ?_
        refine lk_wp_if_eq lk_i137_39 lk_M137 H (fun H => ?_) (fun H => ?_)
        · refine lk_wp_seg (lo' := [.ref a0, .int x1, .int x2, .int x3, .int r8, .retAddr 0, .retAddr 0, .retAddr 0, .retAddr 0]) (st' := [.ref a0]) lk_M137 lk_s137_45_1 rfl ?_
          refine lk_wp_fR lk_i137_46 lk_M137 H (fun r9 H => ?_)
          refine lk_wp_seg (lo' := [.ref a0, .int x1, .int x2, .int x3, .int r8, .retAddr 0, .retAddr 0, .retAddr 0, .retAddr 0]) (st' := [.int x2, .ref r9]) lk_M137 lk_s137_49_1 rfl ?_
          refine lk_wp_ai lk_i137_50 lk_M137 H (fun r10 H => ?_)
          refine lk_wp_seg (lo' := [.ref a0, .int x1, .int x2, .int x3, .int r8, .int r10, .retAddr 0, .retAddr 0, .retAddr 0]) (st' := [.int 2, .int x3]) lk_M137 lk_s137_51_3 rfl ?_
          refine lk_wp_ic_ge lk_i137_55 lk_M137 H (fun H => ?_) (fun H => ?_)
          · refine lk_wp_seg (lo' := [.ref a0, .int x1, .int x2, .int x3, .int r8, .int r10, .int (r10 - 1), .retAddr 0, .retAddr 0]) (st' := [.int 2, .int x3]) lk_M137 lk_s137_62_6 rfl ?_
            refine lk_wp_rem lk_i137_70 lk_M137 H (fun H => ?_)
            refine lk_wp_if_ne lk_i137_71 lk_M137 H (fun H => ?_) (fun H => ?_)
            · refine lk_wp_seg (lo' := [.ref a0, .int x1, .int x2, .int x3, .int r8, .int r10, .int (r10 - 1), .int (r10 - 1), .retAddr 0]) (st' := [.int 1, .int r10]) lk_M137 lk_s137_78_6 rfl ?_
              refine lk_wp_ic_eq lk_i137_87 lk_M137 H (fun H => ?_) (fun H => ?_)
              · refine lk_wp_seg (lo' := [.ref a0, .int x1, .int x2, .int x3, .int r8, .int r10, .int (r10 - 1), .int (r10 - 1), .retAddr 0]) (st' := [.int ((-1000000)), .ref a0]) lk_M137 lk_s137_102_2 rfl ?_
                refine lk_wp_cv (as := [.int ((-1000000))]) (r := []) (a := a0) lk_i137_105 lk_M137 rfl rfl rfl (Nat.le_of_ble_eq_true rfl) H (fun k13 H => lk_gi H (fun r12 h11 H => ?_))
                exact lk_wp_ret lk_i137_108 lk_M137 rfl H
              · refine lk_wp_seg (lo' := [.ref a0, .int x1, .int x2, .int x3, .int r8, .int r10, .int (r10 - 1), .int (r10 - 1), .retAddr 0]) (st' := [.int (r10 - 1), .int x2, .ref a0]) lk_M137 lk_s137_90_3 rfl ?_
                refine lk_wp_cv (as := [.int x2, .int (r10 - 1)]) (r := []) (a := a0) lk_i137_94 lk_M137 rfl rfl rfl (Nat.le_of_ble_eq_true rfl) H (fun k21 H => lk_gi H (fun r15 h14 H => ?_))
                refine lk_wp_seg (lo' := [.ref a0, .int x1, .int x2, .int x3, .int r8, .int r10, .int (r10 - 1), .int (r10 - 1), .retAddr 0]) (st' := [.int (r10 - 1), .int r15]) lk_M137 lk_s137_97_1 rfl ?_
                refine lk_wp_ic_eq lk_i137_99 lk_M137 H (fun H => ?_) (fun H => ?_)
                · refine lk_wp_seg (lo' := [.ref a0, .int x1, .int x2, .int x3, .int r8, .int r10, .int (r10 - 1), .int (r10 - 1), .retAddr 0]) (st' := [.ref a0]) lk_M137 lk_s137_109_1 rfl ?_
                  refine lk_wp_fR lk_i137_110 lk_M137 H (fun r16 H => ?_)
                  refine lk_wp_seg (lo' := [.ref a0, .int x1, .int x2, .int x3, .int r8, .int r10, .int (r10 - 1), .int (r10 - 1), .retAddr 0]) (st' := [.int (r10 - 1), .int 10, .ref r16]) lk_M137 lk_s137_113_4 rfl ?_
                  refine lk_wp_as lk_i137_119 lk_M137 H (fun h17 H => ?_)
                  refine lk_wp_seg (lo' := [.ref a0, .int x1, .int x2, .int x3, .int r8, .int r10, .int (r10 - 1), .int (r10 - 1), .int 0]) (st' := []) lk_M137 lk_s137_120_2 rfl ?_
                  exact H.forget (lk_le_s (lk_le_s (lk_le_s (lk_le_s (lk_le_d (lk_le_s (lk_le_d (lk_le_d (lk_le_s lk_le_n)))))))))
                · refine lk_wp_seg (lo' := [.ref a0, .int x1, .int x2, .int x3, .int r8, .int r10, .int (r10 - 1), .int (r10 - 1), .retAddr 0]) (st' := [.int ((-1000000)), .ref a0]) lk_M137 lk_s137_102_2 rfl ?_
                  refine lk_wp_cv (as := [.int ((-1000000))]) (r := []) (a := a0) lk_i137_105 lk_M137 rfl rfl rfl (Nat.le_of_ble_eq_true rfl) H (fun k20 H => lk_gi H (fun r19 h18 H => ?_))
                  exact lk_wp_ret lk_i137_108 lk_M137 rfl H
            · refine lk_wp_seg (lo' := [.ref a0, .int x1, .int x2, .int x3, .int r8, .int r10, .int (r10 - 1), .retAddr 0, .retAddr 0]) (st' := [.int 0]) lk_M137 lk_s137_74_2 rfl ?_
              refine lk_wp_seg (lo' := [.ref a0, .int x1, .int x2, .int x3, .int r8, .int r10, .int (r10 - 1), .int 0, .retAddr 0]) (st' := [.int 1, .int r10]) lk_M137 lk_s137_82_3 rfl ?_
              refine lk_wp_ic_eq lk_i137_87 lk_M137 H (fun H => ?_) (fun H => ?_)
              · refine lk_wp_seg (lo' := [.ref a0, .int x1, .int x2, .int x3, .int r8, .int r10, .int (r10 - 1), .int 0, .retAddr 0]) (st' := [.int ((-1000000)), .ref a0]) lk_M137 lk_s137_102_2 rfl ?_
                refine lk_wp_cv (as := [.int ((-1000000))]) (r := []) (a := a0) lk_i137_105 lk_M137 rfl rfl rfl (Nat.le_of_ble_eq_true rfl) H (fun k24 H => lk_gi H (fun r23 h22 H => ?_))
                exact lk_wp_ret lk_i137_108 lk_M137 rfl H
              · refine lk_wp_seg (lo' := [.ref a0, .int x1, .int x2, .int x3, .int r8, .int r10, .int (r10 - 1), .int 0, .retAddr 0]) (st' := [.int (r10 - 1), .int x2, .ref a0]) lk_M137 lk_s137_90_3 rfl ?_
                refine lk_wp_cv (as := [.int x2, .int (r10 - 1)]) (r := []) (a := a0) lk_i137_94 lk_M137 rfl rfl rfl (Nat.le_of_ble_eq_true rfl) H (fun k32 H => lk_gi H (fun r26 h25 H => ?_))
                refine lk_wp_seg (lo' := [.ref a0, .int x1, .int x2, .int x3, .int r8, .int r10, .int (r10 - 1), .int 0, .retAddr 0]) (st' := [.int 0, .int r26]) lk_M137 lk_s137_97_1 rfl ?_
                refine lk_wp_ic_eq lk_i137_99 lk_M137 H (fun H => ?_) (fun H => ?_)
                · refine lk_wp_seg (lo' := [.ref a0, .int x1, .int x2, .int x3, .int r8, .int r10, .int (r10 - 1), .int 0, .retAddr 0]) (st' := [.ref a0]) lk_M137 lk_s137_109_1 rfl ?_
                  refine lk_wp_fR lk_i137_110 lk_M137 H (fun r27 H => ?_)
                  refine lk_wp_seg (lo' := [.ref a0, .int x1, .int x2, .int x3, .int r8, .int r10, .int (r10 - 1), .int 0, .retAddr 0]) (st' := [.int (r10 - 1), .int 10, .ref r27]) lk_M137 lk_s137_113_4 rfl ?_
                  refine lk_wp_as lk_i137_119 lk_M137 H (fun h28 H => ?_)
                  refine lk_wp_seg (lo' := [.ref a0, .int x1, .int x2, .int x3, .int r8, .int r10, .int (r10 - 1), .int 0, .int 0]) (st' := []) lk_M137 lk_s137_120_2 rfl ?_
                  exact H.forget (lk_le_s (lk_le_s (lk_le_s (lk_le_s (lk_le_d (lk_le_s (lk_le_d (lk_le_d (lk_le_s lk_le_n)))))))))
                · refine lk_wp_seg (lo' := [.ref a0, .int x1, .int x2, .int x3, .int r8, .int r10, .int (r10 - 1), .int 0, .retAddr 0]) (st' := [.int ((-1000000)), .ref a0]) lk_M137 lk_s137_102_2 rfl ?_
                  refine lk_wp_cv (as := [.int ((-1000000))]) (r := []) (a := a0) lk_i137_105 lk_M137 rfl rfl rfl (Nat.le_of_ble_eq_true rfl) H (fun k31 H => lk_gi H (fun r30 h29 H => ?_))
                  exact lk_wp_ret lk_i137_108 lk_M137 rfl H
          · refine lk_wp_seg (lo' := [.ref a0, .int x1, .int x2, .int x3, .int r8, .int r10, .retAddr 0, .retAddr 0, .retAddr 0]) (st' := [.int 0]) lk_M137 lk_s137_58_2 rfl ?_
            refine lk_wp_seg (lo' := [.ref a0, .int x1, .int x2, .int x3, .int r8, .int r10, .int 0, .retAddr 0, .retAddr 0]) (st' := [.int 2, .int x3]) lk_M137 lk_s137_66_3 rfl ?_
            refine lk_wp_rem lk_i137_70 lk_M137 H (fun H => ?_)
            refine lk_wp_if_ne lk_i137_71 lk_M137 H (fun H => ?_) (fun H => ?_)
            · refine lk_wp_seg (lo' := [.ref a0, .int x1, .int x2, .int x3, .int r8, .int r10, .int 0, .int (r10 - 1), .retAddr 0]) (st' := [.int 1, .int r10]) lk_M137 lk_s137_78_6 rfl ?_
              refine lk_wp_ic_eq lk_i137_87 lk_M137 H (fun H => ?_) (fun H => ?_)
              · refine lk_wp_seg (lo' := [.ref a0, .int x1, .int x2, .int x3, .int r8, .int r10, .int 0, .int (r10 - 1), .retAddr 0]) (st' := [.int ((-1000000)), .ref a0]) lk_M137 lk_s137_102_2 rfl ?_
                refine lk_wp_cv (as := [.int ((-1000000))]) (r := []) (a := a0) lk_i137_105 lk_M137 rfl rfl rfl (Nat.le_of_ble_eq_true rfl) H (fun k35 H => lk_gi H (fun r34 h33 H => ?_))
                exact lk_wp_ret lk_i137_108 lk_M137 rfl H
              · refine lk_wp_seg (lo' := [.ref a0, .int x1, .int x2, .int x3, .int r8, .int r10, .int 0, .int (r10 - 1), .retAddr 0]) (st' := [.int 0, .int x2, .ref a0]) lk_M137 lk_s137_90_3 rfl ?_
                refine lk_wp_cv (as := [.int x2, .int 0]) (r := []) (a := a0) lk_i137_94 lk_M137 rfl rfl rfl (Nat.le_of_ble_eq_true rfl) H (fun k43 H => lk_gi H (fun r37 h36 H => ?_))
                refine lk_wp_seg (lo' := [.ref a0, .int x1, .int x2, .int x3, .int r8, .int r10, .int 0, .int (r10 - 1), .retAddr 0]) (st' := [.int (r10 - 1), .int r37]) lk_M137 lk_s137_97_1 rfl ?_
                refine lk_wp_ic_eq lk_i137_99 lk_M137 H (fun H => ?_) (fun H => ?_)
                · refine lk_wp_seg (lo' := [.ref a0, .int x1, .int x2, .int x3, .int r8, .int r10, .int 0, .int (r10 - 1), .retAddr 0]) (st' := [.ref a0]) lk_M137 lk_s137_109_1 rfl ?_
                  refine lk_wp_fR lk_i137_110 lk_M137 H (fun r38 H => ?_)
                  refine lk_wp_seg (lo' := [.ref a0, .int x1, .int x2, .int x3, .int r8, .int r10, .int 0, .int (r10 - 1), .retAddr 0]) (st' := [.int (r10 - 1), .int 10, .ref r38]) lk_M137 lk_s137_113_4 rfl ?_
                  refine lk_wp_as lk_i137_119 lk_M137 H (fun h39 H => ?_)
                  refine lk_wp_seg (lo' := [.ref a0, .int x1, .int x2, .int x3, .int r8, .int r10, .int 0, .int (r10 - 1), .int 0]) (st' := []) lk_M137 lk_s137_120_2 rfl ?_
                  exact H.forget (lk_le_s (lk_le_s (lk_le_s (lk_le_s (lk_le_d (lk_le_s (lk_le_d (lk_le_d (lk_le_s lk_le_n)))))))))
                · refine lk_wp_seg (lo' := [.ref a0, .int x1, .int x2, .int x3, .int r8, .int r10, .int 0, .int (r10 - 1), .retAddr 0]) (st' := [.int ((-1000000)), .ref a0]) lk_M137 lk_s137_102_2 rfl ?_
                  refine lk_wp_cv (as := [.int ((-1000000))]) (r := []) (a := a0) lk_i137_105 lk_M137 rfl rfl rfl (Nat.le_of_ble_eq_true rfl) H (fun k42 H => lk_gi H (fun r41 h40 H => ?_))
                  exact lk_wp_ret lk_i137_108 lk_M137 rfl H
            · refine lk_wp_seg (lo' := [.ref a0, .int x1, .int x2, .int x3, .int r8, .int r10, .int 0, .retAddr 0, .retAddr 0]) (st' := [.int 0]) lk_M137 lk_s137_74_2 rfl ?_
              refine lk_wp_seg (lo' := [.ref a0, .int x1, .int x2, .int x3, .int r8, .int r10, .int 0, .int 0, .retAddr 0]) (st' := [.int 1, .int r10]) lk_M137 lk_s137_82_3 rfl ?_
              refine lk_wp_ic_eq lk_i137_87 lk_M137 H (fun H => ?_) (fun H => ?_)
              · refine lk_wp_seg (lo' := [.ref a0, .int x1, .int x2, .int x3, .int r8, .int r10, .int 0, .int 0, .retAddr 0]) (st' := [.int ((-1000000)), .ref a0]) lk_M137 lk_s137_102_2 rfl ?_
                refine lk_wp_cv (as := [.int ((-1000000))]) (r := []) (a := a0) lk_i137_105 lk_M137 rfl rfl rfl (Nat.le_of_ble_eq_true rfl) H (fun k46 H => lk_gi H (fun r45 h44 H => ?_))
                exact lk_wp_ret lk_i137_108 lk_M137 rfl H
              · refine lk_wp_seg (lo' := [.ref a0, .int x1, .int x2, .int x3, .int r8, .int r10, .int 0, .int 0, .retAddr 0]) (st' := [.int 0, .int x2, .ref a0]) lk_M137 lk_s137_90_3 rfl ?_
                refine lk_wp_cv (as := [.int x2, .int 0]) (r := []) (a := a0) lk_i137_94 lk_M137 rfl rfl rfl (Nat.le_of_ble_eq_true rfl) H (fun k54 H => lk_gi H (fun r48 h47 H => ?_))
                refine lk_wp_seg (lo' := [.ref a0, .int x1, .int x2, .int x3, .int r8, .int r10, .int 0, .int 0, .retAddr 0]) (st' := [.int 0, .int r48]) lk_M137 lk_s137_97_1 rfl ?_
                refine lk_wp_ic_eq lk_i137_99 lk_M137 H (fun H => ?_) (fun H => ?_)
                · refine lk_wp_seg (lo' := [.ref a0, .int x1, .int x2, .int x3, .int r8, .int r10, .int 0, .int 0, .retAddr 0]) (st' := [.ref a0]) lk_M137 lk_s137_109_1 rfl ?_
                  refine lk_wp_fR lk_i137_110 lk_M137 H (fun r49 H => ?_)
                  refine lk_wp_seg (lo' := [.ref a0, .int x1, .int x2, .int x3, .int r8, .int r10, .int 0, .int 0, .retAddr 0]) (st' := [.int (r10 - 1), .int 10, .ref r49]) lk_M137 lk_s137_113_4 rfl ?_
                  refine lk_wp_as lk_i137_119 lk_M137 H (fun h50 H => ?_)
                  refine lk_wp_seg (lo' := [.ref a0, .int x1, .int x2, .int x3, .int r8, .int r10, .int 0, .int 0, .int 0]) (st' := []) lk_M137 lk_s137_120_2 rfl ?_
                  exact H.forget (lk_le_s (lk_le_s (lk_le_s (lk_le_s (lk_le_d (lk_le_s (lk_le_d (lk_le_d (lk_le_s lk_le_n)))))))))
                · refine lk_wp_seg (lo' := [.ref a0, .int x1, .int x2, .int x3, .int r8, .int r10, .int 0, .int 0, .retAddr 0]) (st' := [.int ((-1000000)), .ref a0]) lk_M137 lk_s137_102_2 rfl ?_
                  refine lk_wp_cv (as := [.int ((-1000000))]) (r := []) (a := a0) lk_i137_105 lk_M137 rfl rfl rfl (Nat.le_of_ble_eq_true rfl) H (fun k53 H => lk_gi H (fun r52 h51 H => ?_))
                  exact lk_wp_ret lk_i137_108 lk_M137 rfl H
        · refine lk_wp_seg (lo' := [.ref a0, .int x1, .int x2, .int x3, .int r8, .retAddr 0, .retAddr 0, .retAddr 0, .retAddr 0]) (st' := [.int r8]) lk_M137 lk_s137_42_1 rfl ?_
          exact lk_wp_ret lk_i137_44 lk_M137 rfl H
      · refine lk_wp_seg (lo' := [.ref a0, .int x1, .int x2, .int x3, .retAddr 0, .retAddr 0, .retAddr 0, .retAddr 0, .retAddr 0]) (st' := [.int ((-1000001))]) lk_M137 lk_s137_26_1 rfl ?_
        exact lk_wp_ret lk_i137_28 lk_M137 rfl H
set_option maxRecDepth 20000 in
theorem F_m_take_123 {X : lk_X} {d : Nat} {x1 x2 x3 x5 x8 : Int32} {a0 : Nat} {h : lk_H} {Q : Option Value → lk_H → Prop} (H : ((x5 - 1) ≤ x8 → lk_vc h a0 [(11, 127)] (fun k3 => lk_wxi X d k3 [.ref a0, .int x1, .int 1] h (fun r2 h1 => Q (some (.int r2)) h1))) ∧ (¬ (x5 - 1) ≤ x8 → (2 ≤ x3 → lk_vc h a0 [(11, 122)] (fun k10 => lk_wxi X d k10 [.ref a0, .int x2, .int x8] h (fun r5 h4 => ¬ (2 : Int32) = 0 ∧ ((¬ (x3 - x3 / (2 : Int32) * (2 : Int32)) = 0 → lk_vc h4 a0 [(11, 128)] (fun k7 => lk_wxv X d k7 [.ref a0, .int x8, .int (r5 - 0)] h4 (fun h6 => lk_wp X (d + 1) 137 123 [.ref a0, .int x1, .int x2, .int x3, .retAddr 0, .int x5, .retAddr 0, .retAddr 0, .int (x8 + 1)] [] h6 Q))) ∧ ((x3 - x3 / (2 : Int32) * (2 : Int32)) = 0 → lk_vc h4 a0 [(11, 128)] (fun k9 => lk_wxv X d k9 [.ref a0, .int x8, .int (r5 - 1)] h4 (fun h8 => lk_wp X (d + 1) 137 123 [.ref a0, .int x1, .int x2, .int x3, .retAddr 0, .int x5, .retAddr 0, .retAddr 0, .int (x8 + 1)] [] h8 Q))))))) ∧ (¬ 2 ≤ x3 → lk_vc h a0 [(11, 122)] (fun k17 => lk_wxi X d k17 [.ref a0, .int x2, .int (x8 + 1)] h (fun r12 h11 => ¬ (2 : Int32) = 0 ∧ ((¬ (x3 - x3 / (2 : Int32) * (2 : Int32)) = 0 → lk_vc h11 a0 [(11, 128)] (fun k14 => lk_wxv X d k14 [.ref a0, .int x8, .int (r12 - 0)] h11 (fun h13 => lk_wp X (d + 1) 137 123 [.ref a0, .int x1, .int x2, .int x3, .retAddr 0, .int x5, .retAddr 0, .retAddr 0, .int (x8 + 1)] [] h13 Q))) ∧ ((x3 - x3 / (2 : Int32) * (2 : Int32)) = 0 → lk_vc h11 a0 [(11, 128)] (fun k16 => lk_wxv X d k16 [.ref a0, .int x8, .int (r12 - 1)] h11 (fun h15 => lk_wp X (d + 1) 137 123 [.ref a0, .int x1, .int x2, .int x3, .retAddr 0, .int x5, .retAddr 0, .retAddr 0, .int (x8 + 1)] [] h15 Q))))))))) : lk_wp X (d + 1) 137 123 [.ref a0, .int x1, .int x2, .int x3, .retAddr 0, .int x5, .retAddr 0, .retAddr 0, .int x8] [] h Q := by
  refine lk_wp_seg (lo' := [.ref a0, .int x1, .int x2, .int x3, .retAddr 0, .int x5, .retAddr 0, .retAddr 0, .int x8]) (st' := [.int (x5 - 1), .int x8]) lk_M137 lk_s137_123_4 rfl ?_
  refine lk_wp_ic_ge lk_i137_129 lk_M137 H (fun H => ?_) (fun H => ?_)
  · refine lk_wp_seg (lo' := [.ref a0, .int x1, .int x2, .int x3, .retAddr 0, .int x5, .retAddr 0, .retAddr 0, .int x8]) (st' := [.int 1, .int x1, .ref a0]) lk_M137 lk_s137_175_3 rfl ?_
    refine lk_wp_cv (as := [.int x1, .int 1]) (r := []) (a := a0) lk_i137_178 lk_M137 rfl rfl rfl (Nat.le_of_ble_eq_true rfl) H (fun k3 H => lk_gi H (fun r2 h1 H => ?_))
    exact lk_wp_ret lk_i137_181 lk_M137 rfl H
  · refine lk_wp_seg (lo' := [.ref a0, .int x1, .int x2, .int x3, .retAddr 0, .int x5, .retAddr 0, .retAddr 0, .int x8]) (st' := [.int 2, .int x3, .int x2, .ref a0, .int x8, .ref a0]) lk_M137 lk_s137_132_6 rfl ?_
    refine lk_wp_ic_ge lk_i137_139 lk_M137 H (fun H => ?_) (fun H => ?_)
    · refine lk_wp_seg (lo' := [.ref a0, .int x1, .int x2, .int x3, .retAddr 0, .int x5, .retAddr 0, .retAddr 0, .int x8]) (st' := [.int x8, .int x2, .ref a0, .int x8, .ref a0]) lk_M137 lk_s137_149_1 rfl ?_
      refine lk_wp_cv (as := [.int x2, .int x8]) (r := [.int x8, .ref a0]) (a := a0) lk_i137_151 lk_M137 rfl rfl rfl (Nat.le_of_ble_eq_true rfl) H (fun k10 H => lk_gi H (fun r5 h4 H => ?_))
      refine lk_wp_seg (lo' := [.ref a0, .int x1, .int x2, .int x3, .retAddr 0, .int x5, .retAddr 0, .retAddr 0, .int x8]) (st' := [.int 2, .int x3, .int r5, .int x8, .ref a0]) lk_M137 lk_s137_154_2 rfl ?_
      refine lk_wp_rem lk_i137_156 lk_M137 H (fun H => ?_)
      refine lk_wp_if_ne lk_i137_157 lk_M137 H (fun H => ?_) (fun H => ?_)
      · refine lk_wp_seg (lo' := [.ref a0, .int x1, .int x2, .int x3, .retAddr 0, .int x5, .retAddr 0, .retAddr 0, .int x8]) (st' := [.int (r5 - 0), .int x8, .ref a0]) lk_M137 lk_s137_164_2 rfl ?_
        refine lk_wp_cv (as := [.int x8, .int (r5 - 0)]) (r := []) (a := a0) lk_i137_166 lk_M137 rfl rfl rfl (Nat.le_of_ble_eq_true rfl) H (fun k7 H => lk_gv H (fun h6 H => ?_))
        refine lk_wp_seg (lo' := [.ref a0, .int x1, .int x2, .int x3, .retAddr 0, .int x5, .retAddr 0, .retAddr 0, .int (x8 + 1)]) (st' := []) lk_M137 lk_s137_169_2 rfl ?_
        exact H
      · refine lk_wp_seg (lo' := [.ref a0, .int x1, .int x2, .int x3, .retAddr 0, .int x5, .retAddr 0, .retAddr 0, .int x8]) (st' := [.int 1, .int r5, .int x8, .ref a0]) lk_M137 lk_s137_160_2 rfl ?_
        refine lk_wp_seg (lo' := [.ref a0, .int x1, .int x2, .int x3, .retAddr 0, .int x5, .retAddr 0, .retAddr 0, .int x8]) (st' := [.int (r5 - 1), .int x8, .ref a0]) lk_M137 lk_s137_165_1 rfl ?_
        refine lk_wp_cv (as := [.int x8, .int (r5 - 1)]) (r := []) (a := a0) lk_i137_166 lk_M137 rfl rfl rfl (Nat.le_of_ble_eq_true rfl) H (fun k9 H => lk_gv H (fun h8 H => ?_))
        refine lk_wp_seg (lo' := [.ref a0, .int x1, .int x2, .int x3, .retAddr 0, .int x5, .retAddr 0, .retAddr 0, .int (x8 + 1)]) (st' := []) lk_M137 lk_s137_169_2 rfl ?_
        exact H
    · refine lk_wp_seg (lo' := [.ref a0, .int x1, .int x2, .int x3, .retAddr 0, .int x5, .retAddr 0, .retAddr 0, .int x8]) (st' := [.int (x8 + 1), .int x2, .ref a0, .int x8, .ref a0]) lk_M137 lk_s137_142_4 rfl ?_
      refine lk_wp_cv (as := [.int x2, .int (x8 + 1)]) (r := [.int x8, .ref a0]) (a := a0) lk_i137_151 lk_M137 rfl rfl rfl (Nat.le_of_ble_eq_true rfl) H (fun k17 H => lk_gi H (fun r12 h11 H => ?_))
      refine lk_wp_seg (lo' := [.ref a0, .int x1, .int x2, .int x3, .retAddr 0, .int x5, .retAddr 0, .retAddr 0, .int x8]) (st' := [.int 2, .int x3, .int r12, .int x8, .ref a0]) lk_M137 lk_s137_154_2 rfl ?_
      refine lk_wp_rem lk_i137_156 lk_M137 H (fun H => ?_)
      refine lk_wp_if_ne lk_i137_157 lk_M137 H (fun H => ?_) (fun H => ?_)
      · refine lk_wp_seg (lo' := [.ref a0, .int x1, .int x2, .int x3, .retAddr 0, .int x5, .retAddr 0, .retAddr 0, .int x8]) (st' := [.int (r12 - 0), .int x8, .ref a0]) lk_M137 lk_s137_164_2 rfl ?_
        refine lk_wp_cv (as := [.int x8, .int (r12 - 0)]) (r := []) (a := a0) lk_i137_166 lk_M137 rfl rfl rfl (Nat.le_of_ble_eq_true rfl) H (fun k14 H => lk_gv H (fun h13 H => ?_))
        refine lk_wp_seg (lo' := [.ref a0, .int x1, .int x2, .int x3, .retAddr 0, .int x5, .retAddr 0, .retAddr 0, .int (x8 + 1)]) (st' := []) lk_M137 lk_s137_169_2 rfl ?_
        exact H
      · refine lk_wp_seg (lo' := [.ref a0, .int x1, .int x2, .int x3, .retAddr 0, .int x5, .retAddr 0, .retAddr 0, .int x8]) (st' := [.int 1, .int r12, .int x8, .ref a0]) lk_M137 lk_s137_160_2 rfl ?_
        refine lk_wp_seg (lo' := [.ref a0, .int x1, .int x2, .int x3, .retAddr 0, .int x5, .retAddr 0, .retAddr 0, .int x8]) (st' := [.int (r12 - 1), .int x8, .ref a0]) lk_M137 lk_s137_165_1 rfl ?_
        refine lk_wp_cv (as := [.int x8, .int (r12 - 1)]) (r := []) (a := a0) lk_i137_166 lk_M137 rfl rfl rfl (Nat.le_of_ble_eq_true rfl) H (fun k16 H => lk_gv H (fun h15 H => ?_))
        refine lk_wp_seg (lo' := [.ref a0, .int x1, .int x2, .int x3, .retAddr 0, .int x5, .retAddr 0, .retAddr 0, .int (x8 + 1)]) (st' := []) lk_M137 lk_s137_169_2 rfl ?_
        exact H
/-! LonelyDotsModel.put(III)I -/
theorem lk_M138 : lk_mt[138]? = some (yX12_put, cX12_put, 7, ((some FieldType.int))) := rfl
theorem lk_s138_0_1 : lk_seg 138 [(.iload_n 1, 1, (0, [], .null))] 0 = some 1 := by decide +kernel
theorem lk_i138_1 : lk_ins 138 1 = some (.invokestatic 100, 3, (0, [(0, 120)], .ref 89)) := lk_eqE_eq (by decide +kernel)
theorem lk_i138_4 : lk_ins 138 4 = some (.ifCond .eq 22, 3, (26, [], .null)) := lk_eqE_eq (by decide +kernel)
theorem lk_s138_26_1 : lk_seg 138 [(.ldc 70, 2, (0, [], .int (-1000001)))] 26 = some 28 := by decide +kernel
theorem lk_i138_28 : lk_ins 138 28 = some (.ireturn, 1, (0, [], .null)) := lk_eqE_eq (by decide +kernel)
theorem lk_s138_7_1 : lk_seg 138 [(.iload_n 2, 1, (0, [], .null))] 7 = some 8 := by decide +kernel
theorem lk_i138_8 : lk_ins 138 8 = some (.invokestatic 100, 3, (0, [(0, 120)], .ref 89)) := lk_eqE_eq (by decide +kernel)
theorem lk_i138_11 : lk_ins 138 11 = some (.ifCond .eq 15, 3, (26, [], .null)) := lk_eqE_eq (by decide +kernel)
theorem lk_s138_14_4 : lk_seg 138 [(.iload_n 3, 1, (0, [], .null)), (.i2l, 1, (0, [], .null)), (.lconst 0, 1, (0, [], .long 0)), (.ldc2_w 132, 3, (0, [], .long (3)))] 14 = some 20 := by decide +kernel
theorem lk_i138_20 : lk_ins 138 20 = some (.invokestatic 60, 3, (0, [(0, 112)], .ref 80)) := lk_eqE_eq (by decide +kernel)
theorem lk_i138_23 : lk_ins 138 23 = some (.ifCond .ne 6, 3, (29, [], .null)) := lk_eqE_eq (by decide +kernel)
theorem lk_s138_29_3 : lk_seg 138 [(.aload_n 0, 1, (0, [], .null)), (.iload_n 2, 1, (0, [], .null)), (.iconst 1, 1, (0, [], .int (1)))] 29 = some 32 := by decide +kernel
theorem lk_i138_32 : lk_ins 138 32 = some (.invokevirtual 134, 3, (1, [(11, 136)], .ref 96)) := lk_eqE_eq (by decide +kernel)
theorem lk_s138_35_2 : lk_seg 138 [(.istore 4, 2, (0, [], .null)), (.iload 4, 2, (0, [], .null))] 35 = some 39 := by decide +kernel
theorem lk_i138_39 : lk_ins 138 39 = some (.ifCond .eq 6, 3, (45, [], .null)) := lk_eqE_eq (by decide +kernel)
theorem lk_s138_45_1 : lk_seg 138 [(.aload_n 0, 1, (0, [], .null))] 45 = some 46 := by decide +kernel
theorem lk_i138_46 : lk_ins 138 46 = some (.getfield 25, 3, (5, [(11, 0)], .null)) := lk_eqE_eq (by decide +kernel)
theorem lk_s138_49_1 : lk_seg 138 [(.iload_n 2, 1, (0, [], .null))] 49 = some 50 := by decide +kernel
theorem lk_i138_50 : lk_ins 138 50 = some (.iaload, 1, (0, [], .null)) := lk_eqE_eq (by decide +kernel)
theorem lk_s138_51_3 : lk_seg 138 [(.istore 5, 2, (0, [], .null)), (.iload 5, 2, (0, [], .null)), (.bipush 16, 2, (0, [], .int (16)))] 51 = some 57 := by decide +kernel
theorem lk_i138_57 : lk_ins 138 57 = some (.if_icmp .ne 6, 3, (63, [], .null)) := lk_eqE_eq (by decide +kernel)
theorem lk_s138_63_1 : lk_seg 138 [(.aload_n 0, 1, (0, [], .null))] 63 = some 64 := by decide +kernel
theorem lk_i138_64 : lk_ins 138 64 = some (.getfield 25, 3, (5, [(11, 0)], .null)) := lk_eqE_eq (by decide +kernel)
theorem lk_s138_67_4 : lk_seg 138 [(.bipush 10, 2, (0, [], .int (10))), (.iload 5, 2, (0, [], .null)), (.iconst 1, 1, (0, [], .int (1))), (.iadd, 1, (0, [], .null))] 67 = some 73 := by decide +kernel
theorem lk_i138_73 : lk_ins 138 73 = some (.iastore, 1, (0, [], .null)) := lk_eqE_eq (by decide +kernel)
theorem lk_s138_74_2 : lk_seg 138 [(.iconst 0, 1, (0, [], .int (0))), (.istore 6, 2, (0, [], .null))] 74 = some 77 := by decide +kernel
theorem lk_s138_60_1 : lk_seg 138 [(.ldc 137, 2, (0, [], .int (-1000003)))] 60 = some 62 := by decide +kernel
theorem lk_i138_62 : lk_ins 138 62 = some (.ireturn, 1, (0, [], .null)) := lk_eqE_eq (by decide +kernel)
theorem lk_s138_42_1 : lk_seg 138 [(.iload 4, 2, (0, [], .null))] 42 = some 44 := by decide +kernel
theorem lk_i138_44 : lk_ins 138 44 = some (.ireturn, 1, (0, [], .null)) := lk_eqE_eq (by decide +kernel)
theorem lk_s138_77_2 : lk_seg 138 [(.iload 6, 2, (0, [], .null)), (.iload 5, 2, (0, [], .null))] 77 = some 81 := by decide +kernel
theorem lk_i138_81 : lk_ins 138 81 = some (.if_icmp .ge 46, 3, (127, [], .null)) := lk_eqE_eq (by decide +kernel)
theorem lk_s138_127_3 : lk_seg 138 [(.aload_n 0, 1, (0, [], .null)), (.iload_n 3, 1, (0, [], .null)), (.iconst 2, 1, (0, [], .int (2)))] 127 = some 130 := by decide +kernel
theorem lk_i138_130 : lk_ins 138 130 = some (.if_icmp .ge 7, 3, (137, [], .null)) := lk_eqE_eq (by decide +kernel)
theorem lk_s138_137_3 : lk_seg 138 [(.iload 5, 2, (0, [], .null)), (.iload_n 3, 1, (0, [], .null)), (.iconst 2, 1, (0, [], .int (2)))] 137 = some 141 := by decide +kernel
theorem lk_i138_141 : lk_ins 138 141 = some (.irem, 1, (0, [], .null)) := lk_eqE_eq (by decide +kernel)
theorem lk_i138_142 : lk_ins 138 142 = some (.ifCond .ne 7, 3, (149, [], .null)) := lk_eqE_eq (by decide +kernel)
theorem lk_s138_149_1 : lk_seg 138 [(.iload 5, 2, (0, [], .null))] 149 = some 151 := by decide +kernel
theorem lk_i138_151 : lk_ins 138 151 = some (.invokevirtual 105, 3, (1, [(11, 128)], .ref 90)) := lk_eqE_eq (by decide +kernel)
theorem lk_s138_154_3 : lk_seg 138 [(.aload_n 0, 1, (0, [], .null)), (.iload_n 1, 1, (0, [], .null)), (.iconst 1, 1, (0, [], .int (1)))] 154 = some 157 := by decide +kernel
theorem lk_i138_157 : lk_ins 138 157 = some (.invokevirtual 108, 3, (1, [(11, 127)], .ref 91)) := lk_eqE_eq (by decide +kernel)
theorem lk_i138_160 : lk_ins 138 160 = some (.ireturn, 1, (0, [], .null)) := lk_eqE_eq (by decide +kernel)
theorem lk_s138_145_2 : lk_seg 138 [(.iconst 0, 1, (0, [], .int (0))), (.goto 5, 3, (151, [], .null))] 145 = some 151 := by decide +kernel
theorem lk_s138_133_2 : lk_seg 138 [(.iconst 0, 1, (0, [], .int (0))), (.goto 5, 3, (139, [], .null))] 133 = some 139 := by decide +kernel
theorem lk_s138_139_2 : lk_seg 138 [(.iload_n 3, 1, (0, [], .null)), (.iconst 2, 1, (0, [], .int (2)))] 139 = some 141 := by decide +kernel
theorem lk_s138_84_3 : lk_seg 138 [(.aload_n 0, 1, (0, [], .null)), (.iload_n 3, 1, (0, [], .null)), (.iconst 2, 1, (0, [], .int (2)))] 84 = some 87 := by decide +kernel
theorem lk_i138_87 : lk_ins 138 87 = some (.if_icmp .ge 10, 3, (97, [], .null)) := lk_eqE_eq (by decide +kernel)
theorem lk_s138_97_4 : lk_seg 138 [(.iload 6, 2, (0, [], .null)), (.aload_n 0, 1, (0, [], .null)), (.iload_n 2, 1, (0, [], .null)), (.iload 6, 2, (0, [], .null))] 97 = some 103 := by decide +kernel
theorem lk_i138_103 : lk_ins 138 103 = some (.invokevirtual 80, 3, (1, [(11, 122)], .ref 84)) := lk_eqE_eq (by decide +kernel)
theorem lk_s138_106_2 : lk_seg 138 [(.iload_n 3, 1, (0, [], .null)), (.iconst 2, 1, (0, [], .int (2)))] 106 = some 108 := by decide +kernel
theorem lk_i138_108 : lk_ins 138 108 = some (.irem, 1, (0, [], .null)) := lk_eqE_eq (by decide +kernel)
theorem lk_i138_109 : lk_ins 138 109 = some (.ifCond .ne 7, 3, (116, [], .null)) := lk_eqE_eq (by decide +kernel)
theorem lk_s138_116_2 : lk_seg 138 [(.iconst 0, 1, (0, [], .int (0))), (.iadd, 1, (0, [], .null))] 116 = some 118 := by decide +kernel
theorem lk_i138_118 : lk_ins 138 118 = some (.invokevirtual 105, 3, (1, [(11, 128)], .ref 90)) := lk_eqE_eq (by decide +kernel)
theorem lk_s138_121_2 : lk_seg 138 [(.iinc 6 1, 3, (0, [], .int (1))), (.goto (-47), 3, (77, [], .null))] 121 = some 77 := by decide +kernel
theorem lk_s138_112_2 : lk_seg 138 [(.iconst 1, 1, (0, [], .int (1))), (.goto 4, 3, (117, [], .null))] 112 = some 117 := by decide +kernel
theorem lk_s138_117_1 : lk_seg 138 [(.iadd, 1, (0, [], .null))] 117 = some 118 := by decide +kernel
theorem lk_s138_90_4 : lk_seg 138 [(.iload 6, 2, (0, [], .null)), (.iconst 1, 1, (0, [], .int (1))), (.iadd, 1, (0, [], .null)), (.goto 5, 3, (99, [], .null))] 90 = some 99 := by decide +kernel
theorem lk_s138_99_3 : lk_seg 138 [(.aload_n 0, 1, (0, [], .null)), (.iload_n 2, 1, (0, [], .null)), (.iload 6, 2, (0, [], .null))] 99 = some 103 := by decide +kernel
set_option maxRecDepth 20000 in
theorem E_m_put {X : lk_X} {d : Nat} {x1 x2 x3 : Int32} {a0 : Nat} {h : lk_H} {Q : Option Value → lk_H → Prop} (H : lk_wxi X d 120 [.int x1] h (fun r2 h1 => (r2 = 0 → Q (some (.int ((-1000001)))) h1) ∧ (¬ r2 = 0 → lk_wxi X d 120 [.int x2] h1 (fun r4 h3 => (r4 = 0 → Q (some (.int ((-1000001)))) h3) ∧ (¬ r4 = 0 → lk_wxi X d 112 [.long (x3.toInt64), .long 0, .long 3] h3 (fun r6 h5 => (¬ r6 = 0 → lk_vc h5 a0 [(11, 136)] (fun k13 => lk_wxi X d k13 [.ref a0, .int x2, .int 1] h5 (fun r8 h7 => (r8 = 0 → lk_fR h7 a0 5 [(11, 0)] (fun r9 => lk_ai h7 r9 x2 (fun r10 => (¬ r10 = 16 → lk_fR h7 a0 5 [(11, 0)] (fun r11 => lk_as h7 r11 10 (r10 + 1) (fun h12 => lk_wp X (d + 1) 138 77 [.ref a0, .int x1, .int x2, .int x3, .retAddr 0, .int r10, .int 0] [] h12 Q))) ∧ (r10 = 16 → Q (some (.int ((-1000003)))) h7)))) ∧ (¬ r8 = 0 → Q (some (.int r8)) h7)))) ∧ (r6 = 0 → Q (some (.int ((-1000001)))) h5))))))) : lk_wx X (d + 1) 138 [.ref a0, .int x1, .int x2, .int x3] h Q := by
  refine lk_enter (lo := [.ref a0, .int x1, .int x2, .int x3, .retAddr 0, .retAddr 0, .retAddr 0]) lk_M138 rfl (Nat.le_of_ble_eq_true rfl) ?_
  refine lk_wp_seg (lo' := [.ref a0, .int x1, .int x2, .int x3, .retAddr 0, .retAddr 0, .retAddr 0]) (st' := [.int x1]) lk_M138 lk_s138_0_1 rfl ?_
  refine lk_wp_cs (as := [.int x1]) (r := []) lk_i138_1 lk_M138 rfl rfl rfl rfl (Nat.le_of_ble_eq_true rfl) (lk_gi H (fun r2 h1 H => ?_))
  refine lk_wp_if_eq lk_i138_4 lk_M138 H (fun H => ?_) (fun H => ?_)
  · refine lk_wp_seg (lo' := [.ref a0, .int x1, .int x2, .int x3, .retAddr 0, .retAddr 0, .retAddr 0]) (st' := [.int ((-1000001))]) lk_M138 lk_s138_26_1 rfl ?_
    exact lk_wp_ret lk_i138_28 lk_M138 rfl H
  · refine lk_wp_seg (lo' := [.ref a0, .int x1, .int x2, .int x3, .retAddr 0, .retAddr 0, .retAddr 0]) (st' := [.int x2]) lk_M138 lk_s138_7_1 rfl ?_
    refine lk_wp_cs (as := [.int x2]) (r := []) lk_i138_8 lk_M138 rfl rfl rfl rfl (Nat.le_of_ble_eq_true rfl) (lk_gi H (fun r4 h3 H => ?_))
    refine lk_wp_if_eq lk_i138_11 lk_M138 H (fun H => ?_) (fun H => ?_)
    · refine lk_wp_seg (lo' := [.ref a0, .int x1, .int x2, .int x3, .retAddr 0, .retAddr 0, .retAddr 0]) (st' := [.int ((-1000001))]) lk_M138 lk_s138_26_1 rfl ?_
      exact lk_wp_ret lk_i138_28 lk_M138 rfl H
    · refine lk_wp_seg (lo' := [.ref a0, .int x1, .int x2, .int x3, .retAddr 0, .retAddr 0, .retAddr 0]) (st' := [.long 3, .long 0, .long (x3.toInt64)]) lk_M138 lk_s138_14_4 rfl ?_
      refine lk_wp_cs (as := [.long (x3.toInt64), .long 0, .long 3]) (r := []) lk_i138_20 lk_M138 rfl rfl rfl rfl (Nat.le_of_ble_eq_true rfl) (lk_gi H (fun r6 h5 H => ?_))
      refine lk_wp_if_ne lk_i138_23 lk_M138 H (fun H => ?_) (fun H => ?_)
      · refine lk_wp_seg (lo' := [.ref a0, .int x1, .int x2, .int x3, .retAddr 0, .retAddr 0, .retAddr 0]) (st' := [.int 1, .int x2, .ref a0]) lk_M138 lk_s138_29_3 rfl ?_
        refine lk_wp_cv (as := [.int x2, .int 1]) (r := []) (a := a0) lk_i138_32 lk_M138 rfl rfl rfl (Nat.le_of_ble_eq_true rfl) H (fun k13 H => lk_gi H (fun r8 h7 H => ?_))
        refine lk_wp_seg (lo' := [.ref a0, .int x1, .int x2, .int x3, .int r8, .retAddr 0, .retAddr 0]) (st' := [.int r8]) lk_M138 lk_s138_35_2 rfl ?_
        refine lk_wp_if_eq lk_i138_39 lk_M138 H (fun H => ?_) (fun H => ?_)
        · refine lk_wp_seg (lo' := [.ref a0, .int x1, .int x2, .int x3, .int r8, .retAddr 0, .retAddr 0]) (st' := [.ref a0]) lk_M138 lk_s138_45_1 rfl ?_
          refine lk_wp_fR lk_i138_46 lk_M138 H (fun r9 H => ?_)
          refine lk_wp_seg (lo' := [.ref a0, .int x1, .int x2, .int x3, .int r8, .retAddr 0, .retAddr 0]) (st' := [.int x2, .ref r9]) lk_M138 lk_s138_49_1 rfl ?_
          refine lk_wp_ai lk_i138_50 lk_M138 H (fun r10 H => ?_)
          refine lk_wp_seg (lo' := [.ref a0, .int x1, .int x2, .int x3, .int r8, .int r10, .retAddr 0]) (st' := [.int 16, .int r10]) lk_M138 lk_s138_51_3 rfl ?_
          refine lk_wp_ic_ne lk_i138_57 lk_M138 H (fun H => ?_) (fun H => ?_)
          · refine lk_wp_seg (lo' := [.ref a0, .int x1, .int x2, .int x3, .int r8, .int r10, .retAddr 0]) (st' := [.ref a0]) lk_M138 lk_s138_63_1 rfl ?_
            refine lk_wp_fR lk_i138_64 lk_M138 H (fun r11 H => ?_)
            refine lk_wp_seg (lo' := [.ref a0, .int x1, .int x2, .int x3, .int r8, .int r10, .retAddr 0]) (st' := [.int (r10 + 1), .int 10, .ref r11]) lk_M138 lk_s138_67_4 rfl ?_
            refine lk_wp_as lk_i138_73 lk_M138 H (fun h12 H => ?_)
            refine lk_wp_seg (lo' := [.ref a0, .int x1, .int x2, .int x3, .int r8, .int r10, .int 0]) (st' := []) lk_M138 lk_s138_74_2 rfl ?_
            exact H.forget (lk_le_s (lk_le_s (lk_le_s (lk_le_s (lk_le_d (lk_le_s (lk_le_s lk_le_n)))))))
          · refine lk_wp_seg (lo' := [.ref a0, .int x1, .int x2, .int x3, .int r8, .int r10, .retAddr 0]) (st' := [.int ((-1000003))]) lk_M138 lk_s138_60_1 rfl ?_
            exact lk_wp_ret lk_i138_62 lk_M138 rfl H
        · refine lk_wp_seg (lo' := [.ref a0, .int x1, .int x2, .int x3, .int r8, .retAddr 0, .retAddr 0]) (st' := [.int r8]) lk_M138 lk_s138_42_1 rfl ?_
          exact lk_wp_ret lk_i138_44 lk_M138 rfl H
      · refine lk_wp_seg (lo' := [.ref a0, .int x1, .int x2, .int x3, .retAddr 0, .retAddr 0, .retAddr 0]) (st' := [.int ((-1000001))]) lk_M138 lk_s138_26_1 rfl ?_
        exact lk_wp_ret lk_i138_28 lk_M138 rfl H
set_option maxRecDepth 20000 in
theorem F_m_put_77 {X : lk_X} {d : Nat} {x1 x2 x3 x5 x6 : Int32} {a0 : Nat} {h : lk_H} {Q : Option Value → lk_H → Prop} (H : (x5 ≤ x6 → (2 ≤ x3 → ¬ (2 : Int32) = 0 ∧ ((¬ (x3 - x3 / (2 : Int32) * (2 : Int32)) = 0 → lk_vc h a0 [(11, 128)] (fun k5 => lk_wxv X d k5 [.ref a0, .int x5, .int x5] h (fun h1 => lk_vc h1 a0 [(11, 127)] (fun k4 => lk_wxi X d k4 [.ref a0, .int x1, .int 1] h1 (fun r3 h2 => Q (some (.int r3)) h2))))) ∧ ((x3 - x3 / (2 : Int32) * (2 : Int32)) = 0 → lk_vc h a0 [(11, 128)] (fun k10 => lk_wxv X d k10 [.ref a0, .int x5, .int 0] h (fun h6 => lk_vc h6 a0 [(11, 127)] (fun k9 => lk_wxi X d k9 [.ref a0, .int x1, .int 1] h6 (fun r8 h7 => Q (some (.int r8)) h7))))))) ∧ (¬ 2 ≤ x3 → ¬ (2 : Int32) = 0 ∧ ((¬ (x3 - x3 / (2 : Int32) * (2 : Int32)) = 0 → lk_vc h a0 [(11, 128)] (fun k15 => lk_wxv X d k15 [.ref a0, .int 0, .int x5] h (fun h11 => lk_vc h11 a0 [(11, 127)] (fun k14 => lk_wxi X d k14 [.ref a0, .int x1, .int 1] h11 (fun r13 h12 => Q (some (.int r13)) h12))))) ∧ ((x3 - x3 / (2 : Int32) * (2 : Int32)) = 0 → lk_vc h a0 [(11, 128)] (fun k20 => lk_wxv X d k20 [.ref a0, .int 0, .int 0] h (fun h16 => lk_vc h16 a0 [(11, 127)] (fun k19 => lk_wxi X d k19 [.ref a0, .int x1, .int 1] h16 (fun r18 h17 => Q (some (.int r18)) h17)))))))) ∧ (¬ x5 ≤ x6 → (2 ≤ x3 → lk_vc h a0 [(11, 122)] (fun k27 => lk_wxi X d k27 [.ref a0, .int x2, .int x6] h (fun r22 h21 => ¬ (2 : Int32) = 0 ∧ ((¬ (x3 - x3 / (2 : Int32) * (2 : Int32)) = 0 → lk_vc h21 a0 [(11, 128)] (fun k24 => lk_wxv X d k24 [.ref a0, .int x6, .int (r22 + 0)] h21 (fun h23 => lk_wp X (d + 1) 138 77 [.ref a0, .int x1, .int x2, .int x3, .retAddr 0, .int x5, .int (x6 + 1)] [] h23 Q))) ∧ ((x3 - x3 / (2 : Int32) * (2 : Int32)) = 0 → lk_vc h21 a0 [(11, 128)] (fun k26 => lk_wxv X d k26 [.ref a0, .int x6, .int (r22 + 1)] h21 (fun h25 => lk_wp X (d + 1) 138 77 [.ref a0, .int x1, .int x2, .int x3, .retAddr 0, .int x5, .int (x6 + 1)] [] h25 Q))))))) ∧ (¬ 2 ≤ x3 → lk_vc h a0 [(11, 122)] (fun k34 => lk_wxi X d k34 [.ref a0, .int x2, .int x6] h (fun r29 h28 => ¬ (2 : Int32) = 0 ∧ ((¬ (x3 - x3 / (2 : Int32) * (2 : Int32)) = 0 → lk_vc h28 a0 [(11, 128)] (fun k31 => lk_wxv X d k31 [.ref a0, .int (x6 + 1), .int (r29 + 0)] h28 (fun h30 => lk_wp X (d + 1) 138 77 [.ref a0, .int x1, .int x2, .int x3, .retAddr 0, .int x5, .int (x6 + 1)] [] h30 Q))) ∧ ((x3 - x3 / (2 : Int32) * (2 : Int32)) = 0 → lk_vc h28 a0 [(11, 128)] (fun k33 => lk_wxv X d k33 [.ref a0, .int (x6 + 1), .int (r29 + 1)] h28 (fun h32 => lk_wp X (d + 1) 138 77 [.ref a0, .int x1, .int x2, .int x3, .retAddr 0, .int x5, .int (x6 + 1)] [] h32 Q))))))))) : lk_wp X (d + 1) 138 77 [.ref a0, .int x1, .int x2, .int x3, .retAddr 0, .int x5, .int x6] [] h Q := by
  refine lk_wp_seg (lo' := [.ref a0, .int x1, .int x2, .int x3, .retAddr 0, .int x5, .int x6]) (st' := [.int x5, .int x6]) lk_M138 lk_s138_77_2 rfl ?_
  refine lk_wp_ic_ge lk_i138_81 lk_M138 H (fun H => ?_) (fun H => ?_)
  · refine lk_wp_seg (lo' := [.ref a0, .int x1, .int x2, .int x3, .retAddr 0, .int x5, .int x6]) (st' := [.int 2, .int x3, .ref a0]) lk_M138 lk_s138_127_3 rfl ?_
    refine lk_wp_ic_ge lk_i138_130 lk_M138 H (fun H => ?_) (fun H => ?_)
    · refine lk_wp_seg (lo' := [.ref a0, .int x1, .int x2, .int x3, .retAddr 0, .int x5, .int x6]) (st' := [.int 2, .int x3, .int x5, .ref a0]) lk_M138 lk_s138_137_3 rfl ?_
      refine lk_wp_rem lk_i138_141 lk_M138 H (fun H => ?_)
      refine lk_wp_if_ne lk_i138_142 lk_M138 H (fun H => ?_) (fun H => ?_)
      · refine lk_wp_seg (lo' := [.ref a0, .int x1, .int x2, .int x3, .retAddr 0, .int x5, .int x6]) (st' := [.int x5, .int x5, .ref a0]) lk_M138 lk_s138_149_1 rfl ?_
        refine lk_wp_cv (as := [.int x5, .int x5]) (r := []) (a := a0) lk_i138_151 lk_M138 rfl rfl rfl (Nat.le_of_ble_eq_true rfl) H (fun k5 H => lk_gv H (fun h1 H => ?_))
        refine lk_wp_seg (lo' := [.ref a0, .int x1, .int x2, .int x3, .retAddr 0, .int x5, .int x6]) (st' := [.int 1, .int x1, .ref a0]) lk_M138 lk_s138_154_3 rfl ?_
        refine lk_wp_cv (as := [.int x1, .int 1]) (r := []) (a := a0) lk_i138_157 lk_M138 rfl rfl rfl (Nat.le_of_ble_eq_true rfl) H (fun k4 H => lk_gi H (fun r3 h2 H => ?_))
        exact lk_wp_ret lk_i138_160 lk_M138 rfl H
      · refine lk_wp_seg (lo' := [.ref a0, .int x1, .int x2, .int x3, .retAddr 0, .int x5, .int x6]) (st' := [.int 0, .int x5, .ref a0]) lk_M138 lk_s138_145_2 rfl ?_
        refine lk_wp_cv (as := [.int x5, .int 0]) (r := []) (a := a0) lk_i138_151 lk_M138 rfl rfl rfl (Nat.le_of_ble_eq_true rfl) H (fun k10 H => lk_gv H (fun h6 H => ?_))
        refine lk_wp_seg (lo' := [.ref a0, .int x1, .int x2, .int x3, .retAddr 0, .int x5, .int x6]) (st' := [.int 1, .int x1, .ref a0]) lk_M138 lk_s138_154_3 rfl ?_
        refine lk_wp_cv (as := [.int x1, .int 1]) (r := []) (a := a0) lk_i138_157 lk_M138 rfl rfl rfl (Nat.le_of_ble_eq_true rfl) H (fun k9 H => lk_gi H (fun r8 h7 H => ?_))
        exact lk_wp_ret lk_i138_160 lk_M138 rfl H
    · refine lk_wp_seg (lo' := [.ref a0, .int x1, .int x2, .int x3, .retAddr 0, .int x5, .int x6]) (st' := [.int 0, .ref a0]) lk_M138 lk_s138_133_2 rfl ?_
      refine lk_wp_seg (lo' := [.ref a0, .int x1, .int x2, .int x3, .retAddr 0, .int x5, .int x6]) (st' := [.int 2, .int x3, .int 0, .ref a0]) lk_M138 lk_s138_139_2 rfl ?_
      refine lk_wp_rem lk_i138_141 lk_M138 H (fun H => ?_)
      refine lk_wp_if_ne lk_i138_142 lk_M138 H (fun H => ?_) (fun H => ?_)
      · refine lk_wp_seg (lo' := [.ref a0, .int x1, .int x2, .int x3, .retAddr 0, .int x5, .int x6]) (st' := [.int x5, .int 0, .ref a0]) lk_M138 lk_s138_149_1 rfl ?_
        refine lk_wp_cv (as := [.int 0, .int x5]) (r := []) (a := a0) lk_i138_151 lk_M138 rfl rfl rfl (Nat.le_of_ble_eq_true rfl) H (fun k15 H => lk_gv H (fun h11 H => ?_))
        refine lk_wp_seg (lo' := [.ref a0, .int x1, .int x2, .int x3, .retAddr 0, .int x5, .int x6]) (st' := [.int 1, .int x1, .ref a0]) lk_M138 lk_s138_154_3 rfl ?_
        refine lk_wp_cv (as := [.int x1, .int 1]) (r := []) (a := a0) lk_i138_157 lk_M138 rfl rfl rfl (Nat.le_of_ble_eq_true rfl) H (fun k14 H => lk_gi H (fun r13 h12 H => ?_))
        exact lk_wp_ret lk_i138_160 lk_M138 rfl H
      · refine lk_wp_seg (lo' := [.ref a0, .int x1, .int x2, .int x3, .retAddr 0, .int x5, .int x6]) (st' := [.int 0, .int 0, .ref a0]) lk_M138 lk_s138_145_2 rfl ?_
        refine lk_wp_cv (as := [.int 0, .int 0]) (r := []) (a := a0) lk_i138_151 lk_M138 rfl rfl rfl (Nat.le_of_ble_eq_true rfl) H (fun k20 H => lk_gv H (fun h16 H => ?_))
        refine lk_wp_seg (lo' := [.ref a0, .int x1, .int x2, .int x3, .retAddr 0, .int x5, .int x6]) (st' := [.int 1, .int x1, .ref a0]) lk_M138 lk_s138_154_3 rfl ?_
        refine lk_wp_cv (as := [.int x1, .int 1]) (r := []) (a := a0) lk_i138_157 lk_M138 rfl rfl rfl (Nat.le_of_ble_eq_true rfl) H (fun k19 H => lk_gi H (fun r18 h17 H => ?_))
        exact lk_wp_ret lk_i138_160 lk_M138 rfl H
  · refine lk_wp_seg (lo' := [.ref a0, .int x1, .int x2, .int x3, .retAddr 0, .int x5, .int x6]) (st' := [.int 2, .int x3, .ref a0]) lk_M138 lk_s138_84_3 rfl ?_
    refine lk_wp_ic_ge lk_i138_87 lk_M138 H (fun H => ?_) (fun H => ?_)
    · refine lk_wp_seg (lo' := [.ref a0, .int x1, .int x2, .int x3, .retAddr 0, .int x5, .int x6]) (st' := [.int x6, .int x2, .ref a0, .int x6, .ref a0]) lk_M138 lk_s138_97_4 rfl ?_
      refine lk_wp_cv (as := [.int x2, .int x6]) (r := [.int x6, .ref a0]) (a := a0) lk_i138_103 lk_M138 rfl rfl rfl (Nat.le_of_ble_eq_true rfl) H (fun k27 H => lk_gi H (fun r22 h21 H => ?_))
      refine lk_wp_seg (lo' := [.ref a0, .int x1, .int x2, .int x3, .retAddr 0, .int x5, .int x6]) (st' := [.int 2, .int x3, .int r22, .int x6, .ref a0]) lk_M138 lk_s138_106_2 rfl ?_
      refine lk_wp_rem lk_i138_108 lk_M138 H (fun H => ?_)
      refine lk_wp_if_ne lk_i138_109 lk_M138 H (fun H => ?_) (fun H => ?_)
      · refine lk_wp_seg (lo' := [.ref a0, .int x1, .int x2, .int x3, .retAddr 0, .int x5, .int x6]) (st' := [.int (r22 + 0), .int x6, .ref a0]) lk_M138 lk_s138_116_2 rfl ?_
        refine lk_wp_cv (as := [.int x6, .int (r22 + 0)]) (r := []) (a := a0) lk_i138_118 lk_M138 rfl rfl rfl (Nat.le_of_ble_eq_true rfl) H (fun k24 H => lk_gv H (fun h23 H => ?_))
        refine lk_wp_seg (lo' := [.ref a0, .int x1, .int x2, .int x3, .retAddr 0, .int x5, .int (x6 + 1)]) (st' := []) lk_M138 lk_s138_121_2 rfl ?_
        exact H
      · refine lk_wp_seg (lo' := [.ref a0, .int x1, .int x2, .int x3, .retAddr 0, .int x5, .int x6]) (st' := [.int 1, .int r22, .int x6, .ref a0]) lk_M138 lk_s138_112_2 rfl ?_
        refine lk_wp_seg (lo' := [.ref a0, .int x1, .int x2, .int x3, .retAddr 0, .int x5, .int x6]) (st' := [.int (r22 + 1), .int x6, .ref a0]) lk_M138 lk_s138_117_1 rfl ?_
        refine lk_wp_cv (as := [.int x6, .int (r22 + 1)]) (r := []) (a := a0) lk_i138_118 lk_M138 rfl rfl rfl (Nat.le_of_ble_eq_true rfl) H (fun k26 H => lk_gv H (fun h25 H => ?_))
        refine lk_wp_seg (lo' := [.ref a0, .int x1, .int x2, .int x3, .retAddr 0, .int x5, .int (x6 + 1)]) (st' := []) lk_M138 lk_s138_121_2 rfl ?_
        exact H
    · refine lk_wp_seg (lo' := [.ref a0, .int x1, .int x2, .int x3, .retAddr 0, .int x5, .int x6]) (st' := [.int (x6 + 1), .ref a0]) lk_M138 lk_s138_90_4 rfl ?_
      refine lk_wp_seg (lo' := [.ref a0, .int x1, .int x2, .int x3, .retAddr 0, .int x5, .int x6]) (st' := [.int x6, .int x2, .ref a0, .int (x6 + 1), .ref a0]) lk_M138 lk_s138_99_3 rfl ?_
      refine lk_wp_cv (as := [.int x2, .int x6]) (r := [.int (x6 + 1), .ref a0]) (a := a0) lk_i138_103 lk_M138 rfl rfl rfl (Nat.le_of_ble_eq_true rfl) H (fun k34 H => lk_gi H (fun r29 h28 H => ?_))
      refine lk_wp_seg (lo' := [.ref a0, .int x1, .int x2, .int x3, .retAddr 0, .int x5, .int x6]) (st' := [.int 2, .int x3, .int r29, .int (x6 + 1), .ref a0]) lk_M138 lk_s138_106_2 rfl ?_
      refine lk_wp_rem lk_i138_108 lk_M138 H (fun H => ?_)
      refine lk_wp_if_ne lk_i138_109 lk_M138 H (fun H => ?_) (fun H => ?_)
      · refine lk_wp_seg (lo' := [.ref a0, .int x1, .int x2, .int x3, .retAddr 0, .int x5, .int x6]) (st' := [.int (r29 + 0), .int (x6 + 1), .ref a0]) lk_M138 lk_s138_116_2 rfl ?_
        refine lk_wp_cv (as := [.int (x6 + 1), .int (r29 + 0)]) (r := []) (a := a0) lk_i138_118 lk_M138 rfl rfl rfl (Nat.le_of_ble_eq_true rfl) H (fun k31 H => lk_gv H (fun h30 H => ?_))
        refine lk_wp_seg (lo' := [.ref a0, .int x1, .int x2, .int x3, .retAddr 0, .int x5, .int (x6 + 1)]) (st' := []) lk_M138 lk_s138_121_2 rfl ?_
        exact H
      · refine lk_wp_seg (lo' := [.ref a0, .int x1, .int x2, .int x3, .retAddr 0, .int x5, .int x6]) (st' := [.int 1, .int r29, .int (x6 + 1), .ref a0]) lk_M138 lk_s138_112_2 rfl ?_
        refine lk_wp_seg (lo' := [.ref a0, .int x1, .int x2, .int x3, .retAddr 0, .int x5, .int x6]) (st' := [.int (r29 + 1), .int (x6 + 1), .ref a0]) lk_M138 lk_s138_117_1 rfl ?_
        refine lk_wp_cv (as := [.int (x6 + 1), .int (r29 + 1)]) (r := []) (a := a0) lk_i138_118 lk_M138 rfl rfl rfl (Nat.le_of_ble_eq_true rfl) H (fun k33 H => lk_gv H (fun h32 H => ?_))
        refine lk_wp_seg (lo' := [.ref a0, .int x1, .int x2, .int x3, .retAddr 0, .int x5, .int (x6 + 1)]) (st' := []) lk_M138 lk_s138_121_2 rfl ?_
        exact H
/-! LonelyDotsModel.turned(III)I -/
theorem lk_M139 : lk_mt[139]? = some (yX12_turned, cX12_turned, 6, ((some FieldType.int))) := rfl
theorem lk_s139_0_1 : lk_seg 139 [(.aload_n 0, 1, (0, [], .null))] 0 = some 1 := by decide +kernel
theorem lk_i139_1 : lk_ins 139 1 = some (.getfield 25, 3, (5, [(11, 0)], .null)) := lk_eqE_eq (by decide +kernel)
theorem lk_s139_4_1 : lk_seg 139 [(.iload_n 1, 1, (0, [], .null))] 4 = some 5 := by decide +kernel
theorem lk_i139_5 : lk_ins 139 5 = some (.iaload, 1, (0, [], .null)) := lk_eqE_eq (by decide +kernel)
theorem lk_s139_6_3 : lk_seg 139 [(.istore 4, 2, (0, [], .null)), (.iload_n 2, 1, (0, [], .null)), (.iconst 4, 1, (0, [], .int (4)))] 6 = some 10 := by decide +kernel
theorem lk_i139_10 : lk_ins 139 10 = some (.if_icmp .ge 47, 3, (57, [], .null)) := lk_eqE_eq (by decide +kernel)
theorem lk_s139_57_2 : lk_seg 139 [(.iconst 0, 1, (0, [], .int (0))), (.istore 5, 2, (0, [], .null))] 57 = some 60 := by decide +kernel
theorem lk_s139_13_6 : lk_seg 139 [(.aload_n 0, 1, (0, [], .null)), (.iload_n 1, 1, (0, [], .null)), (.iload_n 2, 1, (0, [], .null)), (.iconst 1, 1, (0, [], .int (1))), (.iand, 1, (0, [], .null)), (.iconst 1, 1, (0, [], .int (1)))] 13 = some 19 := by decide +kernel
theorem lk_i139_19 : lk_ins 139 19 = some (.if_icmp .ne 12, 3, (31, [], .null)) := lk_eqE_eq (by decide +kernel)
theorem lk_s139_31_1 : lk_seg 139 [(.iload_n 3, 1, (0, [], .null))] 31 = some 32 := by decide +kernel
theorem lk_i139_32 : lk_ins 139 32 = some (.invokevirtual 80, 3, (1, [(11, 122)], .ref 84)) := lk_eqE_eq (by decide +kernel)
theorem lk_s139_35_5 : lk_seg 139 [(.istore 5, 2, (0, [], .null)), (.iload_n 2, 1, (0, [], .null)), (.iconst 2, 1, (0, [], .int (2))), (.iand, 1, (0, [], .null)), (.iconst 2, 1, (0, [], .int (2)))] 35 = some 41 := by decide +kernel
theorem lk_i139_41 : lk_ins 139 41 = some (.if_icmp .ne 13, 3, (54, [], .null)) := lk_eqE_eq (by decide +kernel)
theorem lk_s139_54_1 : lk_seg 139 [(.iload 5, 2, (0, [], .null))] 54 = some 56 := by decide +kernel
theorem lk_i139_56 : lk_ins 139 56 = some (.ireturn, 1, (0, [], .null)) := lk_eqE_eq (by decide +kernel)
theorem lk_s139_44_6 : lk_seg 139 [(.iload 4, 2, (0, [], .null)), (.iconst 1, 1, (0, [], .int (1))), (.isub, 1, (0, [], .null)), (.iload 5, 2, (0, [], .null)), (.isub, 1, (0, [], .null)), (.goto 5, 3, (56, [], .null))] 44 = some 56 := by decide +kernel
theorem lk_s139_22_6 : lk_seg 139 [(.iload 4, 2, (0, [], .null)), (.iconst 1, 1, (0, [], .int (1))), (.isub, 1, (0, [], .null)), (.iload_n 3, 1, (0, [], .null)), (.isub, 1, (0, [], .null)), (.goto 4, 3, (32, [], .null))] 22 = some 32 := by decide +kernel
theorem lk_s139_60_4 : lk_seg 139 [(.aload_n 0, 1, (0, [], .null)), (.iload_n 1, 1, (0, [], .null)), (.iload_n 2, 1, (0, [], .null)), (.iload 5, 2, (0, [], .null))] 60 = some 65 := by decide +kernel
theorem lk_i139_65 : lk_ins 139 65 = some (.invokevirtual 138, 3, (1, [(11, 140)], .ref 97)) := lk_eqE_eq (by decide +kernel)
theorem lk_s139_68_1 : lk_seg 139 [(.iload_n 3, 1, (0, [], .null))] 68 = some 69 := by decide +kernel
theorem lk_i139_69 : lk_ins 139 69 = some (.if_icmp .eq 9, 3, (78, [], .null)) := lk_eqE_eq (by decide +kernel)
theorem lk_s139_78_1 : lk_seg 139 [(.iload 5, 2, (0, [], .null))] 78 = some 80 := by decide +kernel
theorem lk_i139_80 : lk_ins 139 80 = some (.ireturn, 1, (0, [], .null)) := lk_eqE_eq (by decide +kernel)
theorem lk_s139_72_2 : lk_seg 139 [(.iinc 5 1, 3, (0, [], .int (1))), (.goto (-15), 3, (60, [], .null))] 72 = some 60 := by decide +kernel
set_option maxRecDepth 20000 in
theorem E_m_turned {X : lk_X} {d : Nat} {x1 x2 x3 : Int32} {a0 : Nat} {h : lk_H} {Q : Option Value → lk_H → Prop} (H : lk_fR h a0 5 [(11, 0)] (fun r1 => lk_ai h r1 x1 (fun r2 => (4 ≤ x2 → lk_wp X (d + 1) 139 60 [.ref a0, .int x1, .int x2, .int x3, .retAddr 0, .int 0] [] h Q) ∧ (¬ 4 ≤ x2 → (¬ (x2 &&& 1) = 1 → lk_vc h a0 [(11, 122)] (fun k5 => lk_wxi X d k5 [.ref a0, .int x1, .int x3] h (fun r4 h3 => (¬ (x2 &&& 2) = 2 → Q (some (.int r4)) h3) ∧ ((x2 &&& 2) = 2 → Q (some (.int ((r2 - 1) - r4))) h3)))) ∧ ((x2 &&& 1) = 1 → lk_vc h a0 [(11, 122)] (fun k8 => lk_wxi X d k8 [.ref a0, .int x1, .int ((r2 - 1) - x3)] h (fun r7 h6 => (¬ (x2 &&& 2) = 2 → Q (some (.int r7)) h6) ∧ ((x2 &&& 2) = 2 → Q (some (.int ((r2 - 1) - r7))) h6)))))))) : lk_wx X (d + 1) 139 [.ref a0, .int x1, .int x2, .int x3] h Q := by
  refine lk_enter (lo := [.ref a0, .int x1, .int x2, .int x3, .retAddr 0, .retAddr 0]) lk_M139 rfl (Nat.le_of_ble_eq_true rfl) ?_
  refine lk_wp_seg (lo' := [.ref a0, .int x1, .int x2, .int x3, .retAddr 0, .retAddr 0]) (st' := [.ref a0]) lk_M139 lk_s139_0_1 rfl ?_
  refine lk_wp_fR lk_i139_1 lk_M139 H (fun r1 H => ?_)
  refine lk_wp_seg (lo' := [.ref a0, .int x1, .int x2, .int x3, .retAddr 0, .retAddr 0]) (st' := [.int x1, .ref r1]) lk_M139 lk_s139_4_1 rfl ?_
  refine lk_wp_ai lk_i139_5 lk_M139 H (fun r2 H => ?_)
  refine lk_wp_seg (lo' := [.ref a0, .int x1, .int x2, .int x3, .int r2, .retAddr 0]) (st' := [.int 4, .int x2]) lk_M139 lk_s139_6_3 rfl ?_
  refine lk_wp_ic_ge lk_i139_10 lk_M139 H (fun H => ?_) (fun H => ?_)
  · refine lk_wp_seg (lo' := [.ref a0, .int x1, .int x2, .int x3, .int r2, .int 0]) (st' := []) lk_M139 lk_s139_57_2 rfl ?_
    exact H.forget (lk_le_s (lk_le_s (lk_le_s (lk_le_s (lk_le_d (lk_le_s lk_le_n))))))
  · refine lk_wp_seg (lo' := [.ref a0, .int x1, .int x2, .int x3, .int r2, .retAddr 0]) (st' := [.int 1, .int (x2 &&& 1), .int x1, .ref a0]) lk_M139 lk_s139_13_6 rfl ?_
    refine lk_wp_ic_ne lk_i139_19 lk_M139 H (fun H => ?_) (fun H => ?_)
    · refine lk_wp_seg (lo' := [.ref a0, .int x1, .int x2, .int x3, .int r2, .retAddr 0]) (st' := [.int x3, .int x1, .ref a0]) lk_M139 lk_s139_31_1 rfl ?_
      refine lk_wp_cv (as := [.int x1, .int x3]) (r := []) (a := a0) lk_i139_32 lk_M139 rfl rfl rfl (Nat.le_of_ble_eq_true rfl) H (fun k5 H => lk_gi H (fun r4 h3 H => ?_))
      refine lk_wp_seg (lo' := [.ref a0, .int x1, .int x2, .int x3, .int r2, .int r4]) (st' := [.int 2, .int (x2 &&& 2)]) lk_M139 lk_s139_35_5 rfl ?_
      refine lk_wp_ic_ne lk_i139_41 lk_M139 H (fun H => ?_) (fun H => ?_)
      · refine lk_wp_seg (lo' := [.ref a0, .int x1, .int x2, .int x3, .int r2, .int r4]) (st' := [.int r4]) lk_M139 lk_s139_54_1 rfl ?_
        exact lk_wp_ret lk_i139_56 lk_M139 rfl H
      · refine lk_wp_seg (lo' := [.ref a0, .int x1, .int x2, .int x3, .int r2, .int r4]) (st' := [.int ((r2 - 1) - r4)]) lk_M139 lk_s139_44_6 rfl ?_
        exact lk_wp_ret lk_i139_56 lk_M139 rfl H
    · refine lk_wp_seg (lo' := [.ref a0, .int x1, .int x2, .int x3, .int r2, .retAddr 0]) (st' := [.int ((r2 - 1) - x3), .int x1, .ref a0]) lk_M139 lk_s139_22_6 rfl ?_
      refine lk_wp_cv (as := [.int x1, .int ((r2 - 1) - x3)]) (r := []) (a := a0) lk_i139_32 lk_M139 rfl rfl rfl (Nat.le_of_ble_eq_true rfl) H (fun k8 H => lk_gi H (fun r7 h6 H => ?_))
      refine lk_wp_seg (lo' := [.ref a0, .int x1, .int x2, .int x3, .int r2, .int r7]) (st' := [.int 2, .int (x2 &&& 2)]) lk_M139 lk_s139_35_5 rfl ?_
      refine lk_wp_ic_ne lk_i139_41 lk_M139 H (fun H => ?_) (fun H => ?_)
      · refine lk_wp_seg (lo' := [.ref a0, .int x1, .int x2, .int x3, .int r2, .int r7]) (st' := [.int r7]) lk_M139 lk_s139_54_1 rfl ?_
        exact lk_wp_ret lk_i139_56 lk_M139 rfl H
      · refine lk_wp_seg (lo' := [.ref a0, .int x1, .int x2, .int x3, .int r2, .int r7]) (st' := [.int ((r2 - 1) - r7)]) lk_M139 lk_s139_44_6 rfl ?_
        exact lk_wp_ret lk_i139_56 lk_M139 rfl H
set_option maxRecDepth 20000 in
theorem F_m_turned_60 {X : lk_X} {d : Nat} {x1 x2 x3 x5 : Int32} {a0 : Nat} {h : lk_H} {Q : Option Value → lk_H → Prop} (H : lk_vc h a0 [(11, 140)] (fun k3 => lk_wxi X d k3 [.ref a0, .int x1, .int x2, .int x5] h (fun r2 h1 => (r2 = x3 → Q (some (.int x5)) h1) ∧ (¬ r2 = x3 → lk_wp X (d + 1) 139 60 [.ref a0, .int x1, .int x2, .int x3, .retAddr 0, .int (x5 + 1)] [] h1 Q)))) : lk_wp X (d + 1) 139 60 [.ref a0, .int x1, .int x2, .int x3, .retAddr 0, .int x5] [] h Q := by
  refine lk_wp_seg (lo' := [.ref a0, .int x1, .int x2, .int x3, .retAddr 0, .int x5]) (st' := [.int x5, .int x2, .int x1, .ref a0]) lk_M139 lk_s139_60_4 rfl ?_
  refine lk_wp_cv (as := [.int x1, .int x2, .int x5]) (r := []) (a := a0) lk_i139_65 lk_M139 rfl rfl rfl (Nat.le_of_ble_eq_true rfl) H (fun k3 H => lk_gi H (fun r2 h1 H => ?_))
  refine lk_wp_seg (lo' := [.ref a0, .int x1, .int x2, .int x3, .retAddr 0, .int x5]) (st' := [.int x3, .int r2]) lk_M139 lk_s139_68_1 rfl ?_
  refine lk_wp_ic_eq lk_i139_69 lk_M139 H (fun H => ?_) (fun H => ?_)
  · refine lk_wp_seg (lo' := [.ref a0, .int x1, .int x2, .int x3, .retAddr 0, .int x5]) (st' := [.int x5]) lk_M139 lk_s139_78_1 rfl ?_
    exact lk_wp_ret lk_i139_80 lk_M139 rfl H
  · refine lk_wp_seg (lo' := [.ref a0, .int x1, .int x2, .int x3, .retAddr 0, .int (x5 + 1)]) (st' := []) lk_M139 lk_s139_72_2 rfl ?_
    exact H
/-! LonelyDotsModel.turned4(III)I -/
theorem lk_M140 : lk_mt[140]? = some (yX12_turned4, cX12_turned4, 6, ((some FieldType.int))) := rfl
theorem lk_s140_0_1 : lk_seg 140 [(.aload_n 0, 1, (0, [], .null))] 0 = some 1 := by decide +kernel
theorem lk_i140_1 : lk_ins 140 1 = some (.getfield 25, 3, (5, [(11, 0)], .null)) := lk_eqE_eq (by decide +kernel)
theorem lk_s140_4_1 : lk_seg 140 [(.iload_n 1, 1, (0, [], .null))] 4 = some 5 := by decide +kernel
theorem lk_i140_5 : lk_ins 140 5 = some (.iaload, 1, (0, [], .null)) := lk_eqE_eq (by decide +kernel)
theorem lk_s140_6_7 : lk_seg 140 [(.istore 4, 2, (0, [], .null)), (.aload_n 0, 1, (0, [], .null)), (.iload_n 1, 1, (0, [], .null)), (.iload_n 2, 1, (0, [], .null)), (.iconst 1, 1, (0, [], .int (1))), (.iand, 1, (0, [], .null)), (.iconst 1, 1, (0, [], .int (1)))] 6 = some 14 := by decide +kernel
theorem lk_i140_14 : lk_ins 140 14 = some (.if_icmp .ne 12, 3, (26, [], .null)) := lk_eqE_eq (by decide +kernel)
theorem lk_s140_26_1 : lk_seg 140 [(.iload_n 3, 1, (0, [], .null))] 26 = some 27 := by decide +kernel
theorem lk_i140_27 : lk_ins 140 27 = some (.invokevirtual 80, 3, (1, [(11, 122)], .ref 84)) := lk_eqE_eq (by decide +kernel)
theorem lk_s140_30_5 : lk_seg 140 [(.istore 5, 2, (0, [], .null)), (.iload_n 2, 1, (0, [], .null)), (.iconst 2, 1, (0, [], .int (2))), (.iand, 1, (0, [], .null)), (.iconst 2, 1, (0, [], .int (2)))] 30 = some 36 := by decide +kernel
theorem lk_i140_36 : lk_ins 140 36 = some (.if_icmp .ne 13, 3, (49, [], .null)) := lk_eqE_eq (by decide +kernel)
theorem lk_s140_49_1 : lk_seg 140 [(.iload 5, 2, (0, [], .null))] 49 = some 51 := by decide +kernel
theorem lk_i140_51 : lk_ins 140 51 = some (.ireturn, 1, (0, [], .null)) := lk_eqE_eq (by decide +kernel)
theorem lk_s140_39_6 : lk_seg 140 [(.iload 4, 2, (0, [], .null)), (.iconst 1, 1, (0, [], .int (1))), (.isub, 1, (0, [], .null)), (.iload 5, 2, (0, [], .null)), (.isub, 1, (0, [], .null)), (.goto 5, 3, (51, [], .null))] 39 = some 51 := by decide +kernel
theorem lk_s140_17_6 : lk_seg 140 [(.iload 4, 2, (0, [], .null)), (.iconst 1, 1, (0, [], .int (1))), (.isub, 1, (0, [], .null)), (.iload_n 3, 1, (0, [], .null)), (.isub, 1, (0, [], .null)), (.goto 4, 3, (27, [], .null))] 17 = some 27 := by decide +kernel
set_option maxRecDepth 20000 in
theorem E_m_turned4 {X : lk_X} {d : Nat} {x1 x2 x3 : Int32} {a0 : Nat} {h : lk_H} {Q : Option Value → lk_H → Prop} (H : lk_fR h a0 5 [(11, 0)] (fun r1 => lk_ai h r1 x1 (fun r2 => (¬ (x2 &&& 1) = 1 → lk_vc h a0 [(11, 122)] (fun k5 => lk_wxi X d k5 [.ref a0, .int x1, .int x3] h (fun r4 h3 => (¬ (x2 &&& 2) = 2 → Q (some (.int r4)) h3) ∧ ((x2 &&& 2) = 2 → Q (some (.int ((r2 - 1) - r4))) h3)))) ∧ ((x2 &&& 1) = 1 → lk_vc h a0 [(11, 122)] (fun k8 => lk_wxi X d k8 [.ref a0, .int x1, .int ((r2 - 1) - x3)] h (fun r7 h6 => (¬ (x2 &&& 2) = 2 → Q (some (.int r7)) h6) ∧ ((x2 &&& 2) = 2 → Q (some (.int ((r2 - 1) - r7))) h6))))))) : lk_wx X (d + 1) 140 [.ref a0, .int x1, .int x2, .int x3] h Q := by
  refine lk_enter (lo := [.ref a0, .int x1, .int x2, .int x3, .retAddr 0, .retAddr 0]) lk_M140 rfl (Nat.le_of_ble_eq_true rfl) ?_
  refine lk_wp_seg (lo' := [.ref a0, .int x1, .int x2, .int x3, .retAddr 0, .retAddr 0]) (st' := [.ref a0]) lk_M140 lk_s140_0_1 rfl ?_
  refine lk_wp_fR lk_i140_1 lk_M140 H (fun r1 H => ?_)
  refine lk_wp_seg (lo' := [.ref a0, .int x1, .int x2, .int x3, .retAddr 0, .retAddr 0]) (st' := [.int x1, .ref r1]) lk_M140 lk_s140_4_1 rfl ?_
  refine lk_wp_ai lk_i140_5 lk_M140 H (fun r2 H => ?_)
  refine lk_wp_seg (lo' := [.ref a0, .int x1, .int x2, .int x3, .int r2, .retAddr 0]) (st' := [.int 1, .int (x2 &&& 1), .int x1, .ref a0]) lk_M140 lk_s140_6_7 rfl ?_
  refine lk_wp_ic_ne lk_i140_14 lk_M140 H (fun H => ?_) (fun H => ?_)
  · refine lk_wp_seg (lo' := [.ref a0, .int x1, .int x2, .int x3, .int r2, .retAddr 0]) (st' := [.int x3, .int x1, .ref a0]) lk_M140 lk_s140_26_1 rfl ?_
    refine lk_wp_cv (as := [.int x1, .int x3]) (r := []) (a := a0) lk_i140_27 lk_M140 rfl rfl rfl (Nat.le_of_ble_eq_true rfl) H (fun k5 H => lk_gi H (fun r4 h3 H => ?_))
    refine lk_wp_seg (lo' := [.ref a0, .int x1, .int x2, .int x3, .int r2, .int r4]) (st' := [.int 2, .int (x2 &&& 2)]) lk_M140 lk_s140_30_5 rfl ?_
    refine lk_wp_ic_ne lk_i140_36 lk_M140 H (fun H => ?_) (fun H => ?_)
    · refine lk_wp_seg (lo' := [.ref a0, .int x1, .int x2, .int x3, .int r2, .int r4]) (st' := [.int r4]) lk_M140 lk_s140_49_1 rfl ?_
      exact lk_wp_ret lk_i140_51 lk_M140 rfl H
    · refine lk_wp_seg (lo' := [.ref a0, .int x1, .int x2, .int x3, .int r2, .int r4]) (st' := [.int ((r2 - 1) - r4)]) lk_M140 lk_s140_39_6 rfl ?_
      exact lk_wp_ret lk_i140_51 lk_M140 rfl H
  · refine lk_wp_seg (lo' := [.ref a0, .int x1, .int x2, .int x3, .int r2, .retAddr 0]) (st' := [.int ((r2 - 1) - x3), .int x1, .ref a0]) lk_M140 lk_s140_17_6 rfl ?_
    refine lk_wp_cv (as := [.int x1, .int ((r2 - 1) - x3)]) (r := []) (a := a0) lk_i140_27 lk_M140 rfl rfl rfl (Nat.le_of_ble_eq_true rfl) H (fun k8 H => lk_gi H (fun r7 h6 H => ?_))
    refine lk_wp_seg (lo' := [.ref a0, .int x1, .int x2, .int x3, .int r2, .int r7]) (st' := [.int 2, .int (x2 &&& 2)]) lk_M140 lk_s140_30_5 rfl ?_
    refine lk_wp_ic_ne lk_i140_36 lk_M140 H (fun H => ?_) (fun H => ?_)
    · refine lk_wp_seg (lo' := [.ref a0, .int x1, .int x2, .int x3, .int r2, .int r7]) (st' := [.int r7]) lk_M140 lk_s140_49_1 rfl ?_
      exact lk_wp_ret lk_i140_51 lk_M140 rfl H
    · refine lk_wp_seg (lo' := [.ref a0, .int x1, .int x2, .int x3, .int r2, .int r7]) (st' := [.int ((r2 - 1) - r7)]) lk_M140 lk_s140_39_6 rfl ?_
      exact lk_wp_ret lk_i140_51 lk_M140 rfl H
/-! LonelyDotsModel.turn(III)I -/
theorem lk_M141 : lk_mt[141]? = some (yX12_turn, cX12_turn, 6, ((some FieldType.int))) := rfl
theorem lk_s141_0_1 : lk_seg 141 [(.iload_n 1, 1, (0, [], .null))] 0 = some 1 := by decide +kernel
theorem lk_i141_1 : lk_ins 141 1 = some (.invokestatic 100, 3, (0, [(0, 120)], .ref 89)) := lk_eqE_eq (by decide +kernel)
theorem lk_i141_4 : lk_ins 141 4 = some (.ifCond .eq 22, 3, (26, [], .null)) := lk_eqE_eq (by decide +kernel)
theorem lk_s141_26_1 : lk_seg 141 [(.ldc 70, 2, (0, [], .int (-1000001)))] 26 = some 28 := by decide +kernel
theorem lk_i141_28 : lk_ins 141 28 = some (.ireturn, 1, (0, [], .null)) := lk_eqE_eq (by decide +kernel)
theorem lk_s141_7_1 : lk_seg 141 [(.iload_n 2, 1, (0, [], .null))] 7 = some 8 := by decide +kernel
theorem lk_i141_8 : lk_ins 141 8 = some (.invokestatic 100, 3, (0, [(0, 120)], .ref 89)) := lk_eqE_eq (by decide +kernel)
theorem lk_i141_11 : lk_ins 141 11 = some (.ifCond .eq 15, 3, (26, [], .null)) := lk_eqE_eq (by decide +kernel)
theorem lk_s141_14_4 : lk_seg 141 [(.iload_n 3, 1, (0, [], .null)), (.i2l, 1, (0, [], .null)), (.lconst 0, 1, (0, [], .long 0)), (.ldc2_w 58, 3, (0, [], .long (7)))] 14 = some 20 := by decide +kernel
theorem lk_i141_20 : lk_ins 141 20 = some (.invokestatic 60, 3, (0, [(0, 112)], .ref 80)) := lk_eqE_eq (by decide +kernel)
theorem lk_i141_23 : lk_ins 141 23 = some (.ifCond .ne 6, 3, (29, [], .null)) := lk_eqE_eq (by decide +kernel)
theorem lk_s141_29_3 : lk_seg 141 [(.aload_n 0, 1, (0, [], .null)), (.iload_n 2, 1, (0, [], .null)), (.iconst 1, 1, (0, [], .int (1)))] 29 = some 32 := by decide +kernel
theorem lk_i141_32 : lk_ins 141 32 = some (.invokevirtual 134, 3, (1, [(11, 136)], .ref 96)) := lk_eqE_eq (by decide +kernel)
theorem lk_s141_35_2 : lk_seg 141 [(.istore 4, 2, (0, [], .null)), (.iload 4, 2, (0, [], .null))] 35 = some 39 := by decide +kernel
theorem lk_i141_39 : lk_ins 141 39 = some (.ifCond .eq 6, 3, (45, [], .null)) := lk_eqE_eq (by decide +kernel)
theorem lk_s141_45_1 : lk_seg 141 [(.aload_n 0, 1, (0, [], .null))] 45 = some 46 := by decide +kernel
theorem lk_i141_46 : lk_ins 141 46 = some (.getfield 25, 3, (5, [(11, 0)], .null)) := lk_eqE_eq (by decide +kernel)
theorem lk_s141_49_2 : lk_seg 141 [(.bipush 10, 2, (0, [], .int (10))), (.aload_n 0, 1, (0, [], .null))] 49 = some 52 := by decide +kernel
theorem lk_i141_52 : lk_ins 141 52 = some (.getfield 25, 3, (5, [(11, 0)], .null)) := lk_eqE_eq (by decide +kernel)
theorem lk_s141_55_1 : lk_seg 141 [(.iload_n 2, 1, (0, [], .null))] 55 = some 56 := by decide +kernel
theorem lk_i141_56 : lk_ins 141 56 = some (.iaload, 1, (0, [], .null)) := lk_eqE_eq (by decide +kernel)
theorem lk_i141_57 : lk_ins 141 57 = some (.iastore, 1, (0, [], .null)) := lk_eqE_eq (by decide +kernel)
theorem lk_s141_58_2 : lk_seg 141 [(.iconst 0, 1, (0, [], .int (0))), (.istore 5, 2, (0, [], .null))] 58 = some 61 := by decide +kernel
theorem lk_s141_42_1 : lk_seg 141 [(.iload 4, 2, (0, [], .null))] 42 = some 44 := by decide +kernel
theorem lk_i141_44 : lk_ins 141 44 = some (.ireturn, 1, (0, [], .null)) := lk_eqE_eq (by decide +kernel)
theorem lk_s141_61_2 : lk_seg 141 [(.iload 5, 2, (0, [], .null)), (.aload_n 0, 1, (0, [], .null))] 61 = some 64 := by decide +kernel
theorem lk_i141_64 : lk_ins 141 64 = some (.getfield 25, 3, (5, [(11, 0)], .null)) := lk_eqE_eq (by decide +kernel)
theorem lk_s141_67_1 : lk_seg 141 [(.iload_n 2, 1, (0, [], .null))] 67 = some 68 := by decide +kernel
theorem lk_i141_68 : lk_ins 141 68 = some (.iaload, 1, (0, [], .null)) := lk_eqE_eq (by decide +kernel)
theorem lk_i141_69 : lk_ins 141 69 = some (.if_icmp .ge 23, 3, (92, [], .null)) := lk_eqE_eq (by decide +kernel)
theorem lk_s141_92_3 : lk_seg 141 [(.aload_n 0, 1, (0, [], .null)), (.iload_n 1, 1, (0, [], .null)), (.iconst 1, 1, (0, [], .int (1)))] 92 = some 95 := by decide +kernel
theorem lk_i141_95 : lk_ins 141 95 = some (.invokevirtual 108, 3, (1, [(11, 127)], .ref 91)) := lk_eqE_eq (by decide +kernel)
theorem lk_i141_98 : lk_ins 141 98 = some (.ireturn, 1, (0, [], .null)) := lk_eqE_eq (by decide +kernel)
theorem lk_s141_72_6 : lk_seg 141 [(.aload_n 0, 1, (0, [], .null)), (.iload 5, 2, (0, [], .null)), (.aload_n 0, 1, (0, [], .null)), (.iload_n 2, 1, (0, [], .null)), (.iload_n 3, 1, (0, [], .null)), (.iload 5, 2, (0, [], .null))] 72 = some 80 := by decide +kernel
theorem lk_i141_80 : lk_ins 141 80 = some (.invokevirtual 141, 3, (1, [(11, 139)], .ref 98)) := lk_eqE_eq (by decide +kernel)
theorem lk_i141_83 : lk_ins 141 83 = some (.invokevirtual 105, 3, (1, [(11, 128)], .ref 90)) := lk_eqE_eq (by decide +kernel)
theorem lk_s141_86_2 : lk_seg 141 [(.iinc 5 1, 3, (0, [], .int (1))), (.goto (-28), 3, (61, [], .null))] 86 = some 61 := by decide +kernel
set_option maxRecDepth 20000 in
theorem E_m_turn {X : lk_X} {d : Nat} {x1 x2 x3 : Int32} {a0 : Nat} {h : lk_H} {Q : Option Value → lk_H → Prop} (H : lk_wxi X d 120 [.int x1] h (fun r2 h1 => (r2 = 0 → Q (some (.int ((-1000001)))) h1) ∧ (¬ r2 = 0 → lk_wxi X d 120 [.int x2] h1 (fun r4 h3 => (r4 = 0 → Q (some (.int ((-1000001)))) h3) ∧ (¬ r4 = 0 → lk_wxi X d 112 [.long (x3.toInt64), .long 0, .long 7] h3 (fun r6 h5 => (¬ r6 = 0 → lk_vc h5 a0 [(11, 136)] (fun k13 => lk_wxi X d k13 [.ref a0, .int x2, .int 1] h5 (fun r8 h7 => (r8 = 0 → lk_fR h7 a0 5 [(11, 0)] (fun r9 => lk_fR h7 a0 5 [(11, 0)] (fun r10 => lk_ai h7 r10 x2 (fun r11 => lk_as h7 r9 10 r11 (fun h12 => lk_wp X (d + 1) 141 61 [.ref a0, .int x1, .int x2, .int x3, .retAddr 0, .int 0] [] h12 Q))))) ∧ (¬ r8 = 0 → Q (some (.int r8)) h7)))) ∧ (r6 = 0 → Q (some (.int ((-1000001)))) h5))))))) : lk_wx X (d + 1) 141 [.ref a0, .int x1, .int x2, .int x3] h Q := by
  refine lk_enter (lo := [.ref a0, .int x1, .int x2, .int x3, .retAddr 0, .retAddr 0]) lk_M141 rfl (Nat.le_of_ble_eq_true rfl) ?_
  refine lk_wp_seg (lo' := [.ref a0, .int x1, .int x2, .int x3, .retAddr 0, .retAddr 0]) (st' := [.int x1]) lk_M141 lk_s141_0_1 rfl ?_
  refine lk_wp_cs (as := [.int x1]) (r := []) lk_i141_1 lk_M141 rfl rfl rfl rfl (Nat.le_of_ble_eq_true rfl) (lk_gi H (fun r2 h1 H => ?_))
  refine lk_wp_if_eq lk_i141_4 lk_M141 H (fun H => ?_) (fun H => ?_)
  · refine lk_wp_seg (lo' := [.ref a0, .int x1, .int x2, .int x3, .retAddr 0, .retAddr 0]) (st' := [.int ((-1000001))]) lk_M141 lk_s141_26_1 rfl ?_
    exact lk_wp_ret lk_i141_28 lk_M141 rfl H
  · refine lk_wp_seg (lo' := [.ref a0, .int x1, .int x2, .int x3, .retAddr 0, .retAddr 0]) (st' := [.int x2]) lk_M141 lk_s141_7_1 rfl ?_
    refine lk_wp_cs (as := [.int x2]) (r := []) lk_i141_8 lk_M141 rfl rfl rfl rfl (Nat.le_of_ble_eq_true rfl) (lk_gi H (fun r4 h3 H => ?_))
    refine lk_wp_if_eq lk_i141_11 lk_M141 H (fun H => ?_) (fun H => ?_)
    · refine lk_wp_seg (lo' := [.ref a0, .int x1, .int x2, .int x3, .retAddr 0, .retAddr 0]) (st' := [.int ((-1000001))]) lk_M141 lk_s141_26_1 rfl ?_
      exact lk_wp_ret lk_i141_28 lk_M141 rfl H
    · refine lk_wp_seg (lo' := [.ref a0, .int x1, .int x2, .int x3, .retAddr 0, .retAddr 0]) (st' := [.long 7, .long 0, .long (x3.toInt64)]) lk_M141 lk_s141_14_4 rfl ?_
      refine lk_wp_cs (as := [.long (x3.toInt64), .long 0, .long 7]) (r := []) lk_i141_20 lk_M141 rfl rfl rfl rfl (Nat.le_of_ble_eq_true rfl) (lk_gi H (fun r6 h5 H => ?_))
      refine lk_wp_if_ne lk_i141_23 lk_M141 H (fun H => ?_) (fun H => ?_)
      · refine lk_wp_seg (lo' := [.ref a0, .int x1, .int x2, .int x3, .retAddr 0, .retAddr 0]) (st' := [.int 1, .int x2, .ref a0]) lk_M141 lk_s141_29_3 rfl ?_
        refine lk_wp_cv (as := [.int x2, .int 1]) (r := []) (a := a0) lk_i141_32 lk_M141 rfl rfl rfl (Nat.le_of_ble_eq_true rfl) H (fun k13 H => lk_gi H (fun r8 h7 H => ?_))
        refine lk_wp_seg (lo' := [.ref a0, .int x1, .int x2, .int x3, .int r8, .retAddr 0]) (st' := [.int r8]) lk_M141 lk_s141_35_2 rfl ?_
        refine lk_wp_if_eq lk_i141_39 lk_M141 H (fun H => ?_) (fun H => ?_)
        · refine lk_wp_seg (lo' := [.ref a0, .int x1, .int x2, .int x3, .int r8, .retAddr 0]) (st' := [.ref a0]) lk_M141 lk_s141_45_1 rfl ?_
          refine lk_wp_fR lk_i141_46 lk_M141 H (fun r9 H => ?_)
          refine lk_wp_seg (lo' := [.ref a0, .int x1, .int x2, .int x3, .int r8, .retAddr 0]) (st' := [.ref a0, .int 10, .ref r9]) lk_M141 lk_s141_49_2 rfl ?_
          refine lk_wp_fR lk_i141_52 lk_M141 H (fun r10 H => ?_)
          refine lk_wp_seg (lo' := [.ref a0, .int x1, .int x2, .int x3, .int r8, .retAddr 0]) (st' := [.int x2, .ref r10, .int 10, .ref r9]) lk_M141 lk_s141_55_1 rfl ?_
          refine lk_wp_ai lk_i141_56 lk_M141 H (fun r11 H => ?_)
          refine lk_wp_as lk_i141_57 lk_M141 H (fun h12 H => ?_)
          refine lk_wp_seg (lo' := [.ref a0, .int x1, .int x2, .int x3, .int r8, .int 0]) (st' := []) lk_M141 lk_s141_58_2 rfl ?_
          exact H.forget (lk_le_s (lk_le_s (lk_le_s (lk_le_s (lk_le_d (lk_le_s lk_le_n))))))
        · refine lk_wp_seg (lo' := [.ref a0, .int x1, .int x2, .int x3, .int r8, .retAddr 0]) (st' := [.int r8]) lk_M141 lk_s141_42_1 rfl ?_
          exact lk_wp_ret lk_i141_44 lk_M141 rfl H
      · refine lk_wp_seg (lo' := [.ref a0, .int x1, .int x2, .int x3, .retAddr 0, .retAddr 0]) (st' := [.int ((-1000001))]) lk_M141 lk_s141_26_1 rfl ?_
        exact lk_wp_ret lk_i141_28 lk_M141 rfl H
set_option maxRecDepth 20000 in
theorem F_m_turn_61 {X : lk_X} {d : Nat} {x1 x2 x3 x5 : Int32} {a0 : Nat} {h : lk_H} {Q : Option Value → lk_H → Prop} (H : lk_fR h a0 5 [(11, 0)] (fun r1 => lk_ai h r1 x2 (fun r2 => (r2 ≤ x5 → lk_vc h a0 [(11, 127)] (fun k5 => lk_wxi X d k5 [.ref a0, .int x1, .int 1] h (fun r4 h3 => Q (some (.int r4)) h3))) ∧ (¬ r2 ≤ x5 → lk_vc h a0 [(11, 139)] (fun k10 => lk_wxi X d k10 [.ref a0, .int x2, .int x3, .int x5] h (fun r7 h6 => lk_vc h6 a0 [(11, 128)] (fun k9 => lk_wxv X d k9 [.ref a0, .int x5, .int r7] h6 (fun h8 => lk_wp X (d + 1) 141 61 [.ref a0, .int x1, .int x2, .int x3, .retAddr 0, .int (x5 + 1)] [] h8 Q)))))))) : lk_wp X (d + 1) 141 61 [.ref a0, .int x1, .int x2, .int x3, .retAddr 0, .int x5] [] h Q := by
  refine lk_wp_seg (lo' := [.ref a0, .int x1, .int x2, .int x3, .retAddr 0, .int x5]) (st' := [.ref a0, .int x5]) lk_M141 lk_s141_61_2 rfl ?_
  refine lk_wp_fR lk_i141_64 lk_M141 H (fun r1 H => ?_)
  refine lk_wp_seg (lo' := [.ref a0, .int x1, .int x2, .int x3, .retAddr 0, .int x5]) (st' := [.int x2, .ref r1, .int x5]) lk_M141 lk_s141_67_1 rfl ?_
  refine lk_wp_ai lk_i141_68 lk_M141 H (fun r2 H => ?_)
  refine lk_wp_ic_ge lk_i141_69 lk_M141 H (fun H => ?_) (fun H => ?_)
  · refine lk_wp_seg (lo' := [.ref a0, .int x1, .int x2, .int x3, .retAddr 0, .int x5]) (st' := [.int 1, .int x1, .ref a0]) lk_M141 lk_s141_92_3 rfl ?_
    refine lk_wp_cv (as := [.int x1, .int 1]) (r := []) (a := a0) lk_i141_95 lk_M141 rfl rfl rfl (Nat.le_of_ble_eq_true rfl) H (fun k5 H => lk_gi H (fun r4 h3 H => ?_))
    exact lk_wp_ret lk_i141_98 lk_M141 rfl H
  · refine lk_wp_seg (lo' := [.ref a0, .int x1, .int x2, .int x3, .retAddr 0, .int x5]) (st' := [.int x5, .int x3, .int x2, .ref a0, .int x5, .ref a0]) lk_M141 lk_s141_72_6 rfl ?_
    refine lk_wp_cv (as := [.int x2, .int x3, .int x5]) (r := [.int x5, .ref a0]) (a := a0) lk_i141_80 lk_M141 rfl rfl rfl (Nat.le_of_ble_eq_true rfl) H (fun k10 H => lk_gi H (fun r7 h6 H => ?_))
    refine lk_wp_cv (as := [.int x5, .int r7]) (r := []) (a := a0) lk_i141_83 lk_M141 rfl rfl rfl (Nat.le_of_ble_eq_true rfl) H (fun k9 H => lk_gv H (fun h8 H => ?_))
    refine lk_wp_seg (lo' := [.ref a0, .int x1, .int x2, .int x3, .retAddr 0, .int (x5 + 1)]) (st' := []) lk_M141 lk_s141_86_2 rfl ?_
    exact H
/-! LonelyDotsModel.first(I)V -/
theorem lk_M142 : lk_mt[142]? = some (yX12_first, cX12_first, 3, ((none))) := rfl
theorem lk_s142_0_1 : lk_seg 142 [(.aload_n 0, 1, (0, [], .null))] 0 = some 1 := by decide +kernel
theorem lk_i142_1 : lk_ins 142 1 = some (.getfield 25, 3, (5, [(11, 0)], .null)) := lk_eqE_eq (by decide +kernel)
theorem lk_s142_4_2 : lk_seg 142 [(.bipush 10, 2, (0, [], .int (10))), (.iload_n 1, 1, (0, [], .null))] 4 = some 7 := by decide +kernel
theorem lk_i142_7 : lk_ins 142 7 = some (.iastore, 1, (0, [], .null)) := lk_eqE_eq (by decide +kernel)
theorem lk_s142_8_2 : lk_seg 142 [(.iconst 0, 1, (0, [], .int (0))), (.istore_n 2, 1, (0, [], .null))] 8 = some 10 := by decide +kernel
theorem lk_s142_10_2 : lk_seg 142 [(.iload_n 2, 1, (0, [], .null)), (.iload_n 1, 1, (0, [], .null))] 10 = some 12 := by decide +kernel
theorem lk_i142_12 : lk_ins 142 12 = some (.if_icmp .ge 15, 3, (27, [], .null)) := lk_eqE_eq (by decide +kernel)
theorem lk_i142_27 : lk_ins 142 27 = some (.return_, 1, (0, [], .null)) := lk_eqE_eq (by decide +kernel)
theorem lk_s142_15_3 : lk_seg 142 [(.aload_n 0, 1, (0, [], .null)), (.iload_n 2, 1, (0, [], .null)), (.iload_n 2, 1, (0, [], .null))] 15 = some 18 := by decide +kernel
theorem lk_i142_18 : lk_ins 142 18 = some (.invokevirtual 105, 3, (1, [(11, 128)], .ref 90)) := lk_eqE_eq (by decide +kernel)
theorem lk_s142_21_2 : lk_seg 142 [(.iinc 2 1, 3, (0, [], .int (1))), (.goto (-14), 3, (10, [], .null))] 21 = some 10 := by decide +kernel
set_option maxRecDepth 20000 in
theorem E_m_first {X : lk_X} {d : Nat} {x1 : Int32} {a0 : Nat} {h : lk_H} {Q : Option Value → lk_H → Prop} (H : lk_fR h a0 5 [(11, 0)] (fun r1 => lk_as h r1 10 x1 (fun h2 => lk_wp X (d + 1) 142 10 [.ref a0, .int x1, .int 0] [] h2 Q))) : lk_wx X (d + 1) 142 [.ref a0, .int x1] h Q := by
  refine lk_enter (lo := [.ref a0, .int x1, .retAddr 0]) lk_M142 rfl (Nat.le_of_ble_eq_true rfl) ?_
  refine lk_wp_seg (lo' := [.ref a0, .int x1, .retAddr 0]) (st' := [.ref a0]) lk_M142 lk_s142_0_1 rfl ?_
  refine lk_wp_fR lk_i142_1 lk_M142 H (fun r1 H => ?_)
  refine lk_wp_seg (lo' := [.ref a0, .int x1, .retAddr 0]) (st' := [.int x1, .int 10, .ref r1]) lk_M142 lk_s142_4_2 rfl ?_
  refine lk_wp_as lk_i142_7 lk_M142 H (fun h2 H => ?_)
  refine lk_wp_seg (lo' := [.ref a0, .int x1, .int 0]) (st' := []) lk_M142 lk_s142_8_2 rfl ?_
  exact H
set_option maxRecDepth 20000 in
theorem F_m_first_10 {X : lk_X} {d : Nat} {x1 x2 : Int32} {a0 : Nat} {h : lk_H} {Q : Option Value → lk_H → Prop} (H : (x1 ≤ x2 → Q none h) ∧ (¬ x1 ≤ x2 → lk_vc h a0 [(11, 128)] (fun k2 => lk_wxv X d k2 [.ref a0, .int x2, .int x2] h (fun h1 => lk_wp X (d + 1) 142 10 [.ref a0, .int x1, .int (x2 + 1)] [] h1 Q)))) : lk_wp X (d + 1) 142 10 [.ref a0, .int x1, .int x2] [] h Q := by
  refine lk_wp_seg (lo' := [.ref a0, .int x1, .int x2]) (st' := [.int x1, .int x2]) lk_M142 lk_s142_10_2 rfl ?_
  refine lk_wp_ic_ge lk_i142_12 lk_M142 H (fun H => ?_) (fun H => ?_)
  · exact lk_wp_ret lk_i142_27 lk_M142 rfl H
  · refine lk_wp_seg (lo' := [.ref a0, .int x1, .int x2]) (st' := [.int x2, .int x2, .ref a0]) lk_M142 lk_s142_15_3 rfl ?_
    refine lk_wp_cv (as := [.int x2, .int x2]) (r := []) (a := a0) lk_i142_18 lk_M142 rfl rfl rfl (Nat.le_of_ble_eq_true rfl) H (fun k2 H => lk_gv H (fun h1 H => ?_))
    refine lk_wp_seg (lo' := [.ref a0, .int x1, .int (x2 + 1)]) (st' := []) lk_M142 lk_s142_21_2 rfl ?_
    exact H
/-! LonelyDotsModel.next()Z -/
theorem lk_M143 : lk_mt[143]? = some (yX12_next, cX12_next, 7, ((some FieldType.boolean))) := rfl
theorem lk_s143_0_1 : lk_seg 143 [(.aload_n 0, 1, (0, [], .null))] 0 = some 1 := by decide +kernel
theorem lk_i143_1 : lk_ins 143 1 = some (.getfield 25, 3, (5, [(11, 0)], .null)) := lk_eqE_eq (by decide +kernel)
theorem lk_s143_4_1 : lk_seg 143 [(.bipush 10, 2, (0, [], .int (10)))] 4 = some 6 := by decide +kernel
theorem lk_i143_6 : lk_ins 143 6 = some (.iaload, 1, (0, [], .null)) := lk_eqE_eq (by decide +kernel)
theorem lk_s143_7_5 : lk_seg 143 [(.istore_n 1, 1, (0, [], .null)), (.iload_n 1, 1, (0, [], .null)), (.iconst 2, 1, (0, [], .int (2))), (.isub, 1, (0, [], .null)), (.istore_n 2, 1, (0, [], .null))] 7 = some 12 := by decide +kernel
theorem lk_s143_12_1 : lk_seg 143 [(.iload_n 2, 1, (0, [], .null))] 12 = some 13 := by decide +kernel
theorem lk_i143_13 : lk_ins 143 13 = some (.ifCond .lt 28, 3, (41, [], .null)) := lk_eqE_eq (by decide +kernel)
theorem lk_s143_41_1 : lk_seg 143 [(.iload_n 2, 1, (0, [], .null))] 41 = some 42 := by decide +kernel
theorem lk_i143_42 : lk_ins 143 42 = some (.ifCond .ge 5, 3, (47, [], .null)) := lk_eqE_eq (by decide +kernel)
theorem lk_s143_47_4 : lk_seg 143 [(.iload_n 1, 1, (0, [], .null)), (.iconst 1, 1, (0, [], .int (1))), (.isub, 1, (0, [], .null)), (.istore_n 3, 1, (0, [], .null))] 47 = some 51 := by decide +kernel
theorem lk_s143_45_1 : lk_seg 143 [(.iconst 0, 1, (0, [], .int (0)))] 45 = some 46 := by decide +kernel
theorem lk_i143_46 : lk_ins 143 46 = some (.ireturn, 1, (0, [], .null)) := lk_eqE_eq (by decide +kernel)
theorem lk_s143_16_3 : lk_seg 143 [(.aload_n 0, 1, (0, [], .null)), (.bipush 10, 2, (0, [], .int (10))), (.iload_n 2, 1, (0, [], .null))] 16 = some 20 := by decide +kernel
theorem lk_i143_20 : lk_ins 143 20 = some (.invokevirtual 80, 3, (1, [(11, 122)], .ref 84)) := lk_eqE_eq (by decide +kernel)
theorem lk_s143_23_5 : lk_seg 143 [(.aload_n 0, 1, (0, [], .null)), (.bipush 10, 2, (0, [], .int (10))), (.iload_n 2, 1, (0, [], .null)), (.iconst 1, 1, (0, [], .int (1))), (.iadd, 1, (0, [], .null))] 23 = some 29 := by decide +kernel
theorem lk_i143_29 : lk_ins 143 29 = some (.invokevirtual 80, 3, (1, [(11, 122)], .ref 84)) := lk_eqE_eq (by decide +kernel)
theorem lk_i143_32 : lk_ins 143 32 = some (.if_icmp .le 9, 3, (41, [], .null)) := lk_eqE_eq (by decide +kernel)
theorem lk_s143_35_2 : lk_seg 143 [(.iinc 2 (-1), 3, (0, [], .int (-1))), (.goto (-26), 3, (12, [], .null))] 35 = some 12 := by decide +kernel
theorem lk_s143_51_3 : lk_seg 143 [(.aload_n 0, 1, (0, [], .null)), (.bipush 10, 2, (0, [], .int (10))), (.iload_n 3, 1, (0, [], .null))] 51 = some 55 := by decide +kernel
theorem lk_i143_55 : lk_ins 143 55 = some (.invokevirtual 80, 3, (1, [(11, 122)], .ref 84)) := lk_eqE_eq (by decide +kernel)
theorem lk_s143_58_3 : lk_seg 143 [(.aload_n 0, 1, (0, [], .null)), (.bipush 10, 2, (0, [], .int (10))), (.iload_n 2, 1, (0, [], .null))] 58 = some 62 := by decide +kernel
theorem lk_i143_62 : lk_ins 143 62 = some (.invokevirtual 80, 3, (1, [(11, 122)], .ref 84)) := lk_eqE_eq (by decide +kernel)
theorem lk_i143_65 : lk_ins 143 65 = some (.if_icmp .ge 9, 3, (74, [], .null)) := lk_eqE_eq (by decide +kernel)
theorem lk_s143_74_3 : lk_seg 143 [(.aload_n 0, 1, (0, [], .null)), (.bipush 10, 2, (0, [], .int (10))), (.iload_n 2, 1, (0, [], .null))] 74 = some 78 := by decide +kernel
theorem lk_i143_78 : lk_ins 143 78 = some (.invokevirtual 80, 3, (1, [(11, 122)], .ref 84)) := lk_eqE_eq (by decide +kernel)
theorem lk_s143_81_6 : lk_seg 143 [(.istore 4, 2, (0, [], .null)), (.aload_n 0, 1, (0, [], .null)), (.iload_n 2, 1, (0, [], .null)), (.aload_n 0, 1, (0, [], .null)), (.bipush 10, 2, (0, [], .int (10))), (.iload_n 3, 1, (0, [], .null))] 81 = some 89 := by decide +kernel
theorem lk_i143_89 : lk_ins 143 89 = some (.invokevirtual 80, 3, (1, [(11, 122)], .ref 84)) := lk_eqE_eq (by decide +kernel)
theorem lk_i143_92 : lk_ins 143 92 = some (.invokevirtual 105, 3, (1, [(11, 128)], .ref 90)) := lk_eqE_eq (by decide +kernel)
theorem lk_s143_95_3 : lk_seg 143 [(.aload_n 0, 1, (0, [], .null)), (.iload_n 3, 1, (0, [], .null)), (.iload 4, 2, (0, [], .null))] 95 = some 99 := by decide +kernel
theorem lk_i143_99 : lk_ins 143 99 = some (.invokevirtual 105, 3, (1, [(11, 128)], .ref 90)) := lk_eqE_eq (by decide +kernel)
theorem lk_s143_102_8 : lk_seg 143 [(.iload_n 2, 1, (0, [], .null)), (.iconst 1, 1, (0, [], .int (1))), (.iadd, 1, (0, [], .null)), (.istore 5, 2, (0, [], .null)), (.iload_n 1, 1, (0, [], .null)), (.iconst 1, 1, (0, [], .int (1))), (.isub, 1, (0, [], .null)), (.istore 6, 2, (0, [], .null))] 102 = some 112 := by decide +kernel
theorem lk_s143_68_2 : lk_seg 143 [(.iinc 3 (-1), 3, (0, [], .int (-1))), (.goto (-20), 3, (51, [], .null))] 68 = some 51 := by decide +kernel
theorem lk_s143_112_2 : lk_seg 143 [(.iload 5, 2, (0, [], .null)), (.iload 6, 2, (0, [], .null))] 112 = some 116 := by decide +kernel
theorem lk_i143_116 : lk_ins 143 116 = some (.if_icmp .ge 44, 3, (160, [], .null)) := lk_eqE_eq (by decide +kernel)
theorem lk_s143_160_1 : lk_seg 143 [(.iconst 1, 1, (0, [], .int (1)))] 160 = some 161 := by decide +kernel
theorem lk_i143_161 : lk_ins 143 161 = some (.ireturn, 1, (0, [], .null)) := lk_eqE_eq (by decide +kernel)
theorem lk_s143_119_3 : lk_seg 143 [(.aload_n 0, 1, (0, [], .null)), (.bipush 10, 2, (0, [], .int (10))), (.iload 5, 2, (0, [], .null))] 119 = some 124 := by decide +kernel
theorem lk_i143_124 : lk_ins 143 124 = some (.invokevirtual 80, 3, (1, [(11, 122)], .ref 84)) := lk_eqE_eq (by decide +kernel)
theorem lk_s143_127_6 : lk_seg 143 [(.istore 4, 2, (0, [], .null)), (.aload_n 0, 1, (0, [], .null)), (.iload 5, 2, (0, [], .null)), (.aload_n 0, 1, (0, [], .null)), (.bipush 10, 2, (0, [], .int (10))), (.iload 6, 2, (0, [], .null))] 127 = some 137 := by decide +kernel
theorem lk_i143_137 : lk_ins 143 137 = some (.invokevirtual 80, 3, (1, [(11, 122)], .ref 84)) := lk_eqE_eq (by decide +kernel)
theorem lk_i143_140 : lk_ins 143 140 = some (.invokevirtual 105, 3, (1, [(11, 128)], .ref 90)) := lk_eqE_eq (by decide +kernel)
theorem lk_s143_143_3 : lk_seg 143 [(.aload_n 0, 1, (0, [], .null)), (.iload 6, 2, (0, [], .null)), (.iload 4, 2, (0, [], .null))] 143 = some 148 := by decide +kernel
theorem lk_i143_148 : lk_ins 143 148 = some (.invokevirtual 105, 3, (1, [(11, 128)], .ref 90)) := lk_eqE_eq (by decide +kernel)
theorem lk_s143_151_3 : lk_seg 143 [(.iinc 5 1, 3, (0, [], .int (1))), (.iinc 6 (-1), 3, (0, [], .int (-1))), (.goto (-45), 3, (112, [], .null))] 151 = some 112 := by decide +kernel
set_option maxRecDepth 20000 in
theorem E_m_next {X : lk_X} {d : Nat} {a0 : Nat} {h : lk_H} {Q : Option Value → lk_H → Prop} (H : lk_fR h a0 5 [(11, 0)] (fun r1 => lk_ai h r1 10 (fun r2 => lk_wp X (d + 1) 143 12 [.ref a0, .int r2, .int (r2 - 2), .retAddr 0, .retAddr 0, .retAddr 0, .retAddr 0] [] h Q))) : lk_wx X (d + 1) 143 [.ref a0] h Q := by
  refine lk_enter (lo := [.ref a0, .retAddr 0, .retAddr 0, .retAddr 0, .retAddr 0, .retAddr 0, .retAddr 0]) lk_M143 rfl (Nat.le_of_ble_eq_true rfl) ?_
  refine lk_wp_seg (lo' := [.ref a0, .retAddr 0, .retAddr 0, .retAddr 0, .retAddr 0, .retAddr 0, .retAddr 0]) (st' := [.ref a0]) lk_M143 lk_s143_0_1 rfl ?_
  refine lk_wp_fR lk_i143_1 lk_M143 H (fun r1 H => ?_)
  refine lk_wp_seg (lo' := [.ref a0, .retAddr 0, .retAddr 0, .retAddr 0, .retAddr 0, .retAddr 0, .retAddr 0]) (st' := [.int 10, .ref r1]) lk_M143 lk_s143_4_1 rfl ?_
  refine lk_wp_ai lk_i143_6 lk_M143 H (fun r2 H => ?_)
  refine lk_wp_seg (lo' := [.ref a0, .int r2, .int (r2 - 2), .retAddr 0, .retAddr 0, .retAddr 0, .retAddr 0]) (st' := []) lk_M143 lk_s143_7_5 rfl ?_
  exact H
set_option maxRecDepth 20000 in
theorem F_m_next_12 {X : lk_X} {d : Nat} {x1 x2 : Int32} {a0 : Nat} {h : lk_H} {Q : Option Value → lk_H → Prop} (H : (x2 < 0 → (0 ≤ x2 → lk_wp X (d + 1) 143 51 [.ref a0, .int x1, .int x2, .int (x1 - 1), .retAddr 0, .retAddr 0, .retAddr 0] [] h Q) ∧ (¬ 0 ≤ x2 → Q (some (.int 0)) h)) ∧ (¬ x2 < 0 → lk_vc h a0 [(11, 122)] (fun k6 => lk_wxi X d k6 [.ref a0, .int 10, .int x2] h (fun r2 h1 => lk_vc h1 a0 [(11, 122)] (fun k5 => lk_wxi X d k5 [.ref a0, .int 10, .int (x2 + 1)] h1 (fun r4 h3 => (r2 ≤ r4 → (0 ≤ x2 → lk_wp X (d + 1) 143 51 [.ref a0, .int x1, .int x2, .int (x1 - 1), .retAddr 0, .retAddr 0, .retAddr 0] [] h3 Q) ∧ (¬ 0 ≤ x2 → Q (some (.int 0)) h3)) ∧ (¬ r2 ≤ r4 → lk_wp X (d + 1) 143 12 [.ref a0, .int x1, .int (x2 + (-1)), .retAddr 0, .retAddr 0, .retAddr 0, .retAddr 0] [] h3 Q))))))) : lk_wp X (d + 1) 143 12 [.ref a0, .int x1, .int x2, .retAddr 0, .retAddr 0, .retAddr 0, .retAddr 0] [] h Q := by
  refine lk_wp_seg (lo' := [.ref a0, .int x1, .int x2, .retAddr 0, .retAddr 0, .retAddr 0, .retAddr 0]) (st' := [.int x2]) lk_M143 lk_s143_12_1 rfl ?_
  refine lk_wp_if_lt lk_i143_13 lk_M143 H (fun H => ?_) (fun H => ?_)
  · refine lk_wp_seg (lo' := [.ref a0, .int x1, .int x2, .retAddr 0, .retAddr 0, .retAddr 0, .retAddr 0]) (st' := [.int x2]) lk_M143 lk_s143_41_1 rfl ?_
    refine lk_wp_if_ge lk_i143_42 lk_M143 H (fun H => ?_) (fun H => ?_)
    · refine lk_wp_seg (lo' := [.ref a0, .int x1, .int x2, .int (x1 - 1), .retAddr 0, .retAddr 0, .retAddr 0]) (st' := []) lk_M143 lk_s143_47_4 rfl ?_
      exact H
    · refine lk_wp_seg (lo' := [.ref a0, .int x1, .int x2, .retAddr 0, .retAddr 0, .retAddr 0, .retAddr 0]) (st' := [.int 0]) lk_M143 lk_s143_45_1 rfl ?_
      exact lk_wp_ret lk_i143_46 lk_M143 rfl H
  · refine lk_wp_seg (lo' := [.ref a0, .int x1, .int x2, .retAddr 0, .retAddr 0, .retAddr 0, .retAddr 0]) (st' := [.int x2, .int 10, .ref a0]) lk_M143 lk_s143_16_3 rfl ?_
    refine lk_wp_cv (as := [.int 10, .int x2]) (r := []) (a := a0) lk_i143_20 lk_M143 rfl rfl rfl (Nat.le_of_ble_eq_true rfl) H (fun k6 H => lk_gi H (fun r2 h1 H => ?_))
    refine lk_wp_seg (lo' := [.ref a0, .int x1, .int x2, .retAddr 0, .retAddr 0, .retAddr 0, .retAddr 0]) (st' := [.int (x2 + 1), .int 10, .ref a0, .int r2]) lk_M143 lk_s143_23_5 rfl ?_
    refine lk_wp_cv (as := [.int 10, .int (x2 + 1)]) (r := [.int r2]) (a := a0) lk_i143_29 lk_M143 rfl rfl rfl (Nat.le_of_ble_eq_true rfl) H (fun k5 H => lk_gi H (fun r4 h3 H => ?_))
    refine lk_wp_ic_le lk_i143_32 lk_M143 H (fun H => ?_) (fun H => ?_)
    · refine lk_wp_seg (lo' := [.ref a0, .int x1, .int x2, .retAddr 0, .retAddr 0, .retAddr 0, .retAddr 0]) (st' := [.int x2]) lk_M143 lk_s143_41_1 rfl ?_
      refine lk_wp_if_ge lk_i143_42 lk_M143 H (fun H => ?_) (fun H => ?_)
      · refine lk_wp_seg (lo' := [.ref a0, .int x1, .int x2, .int (x1 - 1), .retAddr 0, .retAddr 0, .retAddr 0]) (st' := []) lk_M143 lk_s143_47_4 rfl ?_
        exact H
      · refine lk_wp_seg (lo' := [.ref a0, .int x1, .int x2, .retAddr 0, .retAddr 0, .retAddr 0, .retAddr 0]) (st' := [.int 0]) lk_M143 lk_s143_45_1 rfl ?_
        exact lk_wp_ret lk_i143_46 lk_M143 rfl H
    · refine lk_wp_seg (lo' := [.ref a0, .int x1, .int (x2 + (-1)), .retAddr 0, .retAddr 0, .retAddr 0, .retAddr 0]) (st' := []) lk_M143 lk_s143_35_2 rfl ?_
      exact H
set_option maxRecDepth 20000 in
theorem F_m_next_51 {X : lk_X} {d : Nat} {x1 x2 x3 : Int32} {a0 : Nat} {h : lk_H} {Q : Option Value → lk_H → Prop} (H : lk_vc h a0 [(11, 122)] (fun k16 => lk_wxi X d k16 [.ref a0, .int 10, .int x3] h (fun r2 h1 => lk_vc h1 a0 [(11, 122)] (fun k15 => lk_wxi X d k15 [.ref a0, .int 10, .int x2] h1 (fun r4 h3 => (r4 ≤ r2 → lk_vc h3 a0 [(11, 122)] (fun k14 => lk_wxi X d k14 [.ref a0, .int 10, .int x2] h3 (fun r6 h5 => lk_vc h5 a0 [(11, 122)] (fun k13 => lk_wxi X d k13 [.ref a0, .int 10, .int x3] h5 (fun r8 h7 => lk_vc h7 a0 [(11, 128)] (fun k12 => lk_wxv X d k12 [.ref a0, .int x2, .int r8] h7 (fun h9 => lk_vc h9 a0 [(11, 128)] (fun k11 => lk_wxv X d k11 [.ref a0, .int x3, .int r6] h9 (fun h10 => lk_wp X (d + 1) 143 112 [.ref a0, .retAddr 0, .retAddr 0, .retAddr 0, .retAddr 0, .int (x2 + 1), .int (x1 - 1)] [] h10 Q))))))))) ∧ (¬ r4 ≤ r2 → lk_wp X (d + 1) 143 51 [.ref a0, .int x1, .int x2, .int (x3 + (-1)), .retAddr 0, .retAddr 0, .retAddr 0] [] h3 Q)))))) : lk_wp X (d + 1) 143 51 [.ref a0, .int x1, .int x2, .int x3, .retAddr 0, .retAddr 0, .retAddr 0] [] h Q := by
  refine lk_wp_seg (lo' := [.ref a0, .int x1, .int x2, .int x3, .retAddr 0, .retAddr 0, .retAddr 0]) (st' := [.int x3, .int 10, .ref a0]) lk_M143 lk_s143_51_3 rfl ?_
  refine lk_wp_cv (as := [.int 10, .int x3]) (r := []) (a := a0) lk_i143_55 lk_M143 rfl rfl rfl (Nat.le_of_ble_eq_true rfl) H (fun k16 H => lk_gi H (fun r2 h1 H => ?_))
  refine lk_wp_seg (lo' := [.ref a0, .int x1, .int x2, .int x3, .retAddr 0, .retAddr 0, .retAddr 0]) (st' := [.int x2, .int 10, .ref a0, .int r2]) lk_M143 lk_s143_58_3 rfl ?_
  refine lk_wp_cv (as := [.int 10, .int x2]) (r := [.int r2]) (a := a0) lk_i143_62 lk_M143 rfl rfl rfl (Nat.le_of_ble_eq_true rfl) H (fun k15 H => lk_gi H (fun r4 h3 H => ?_))
  refine lk_wp_ic_ge lk_i143_65 lk_M143 H (fun H => ?_) (fun H => ?_)
  · refine lk_wp_seg (lo' := [.ref a0, .int x1, .int x2, .int x3, .retAddr 0, .retAddr 0, .retAddr 0]) (st' := [.int x2, .int 10, .ref a0]) lk_M143 lk_s143_74_3 rfl ?_
    refine lk_wp_cv (as := [.int 10, .int x2]) (r := []) (a := a0) lk_i143_78 lk_M143 rfl rfl rfl (Nat.le_of_ble_eq_true rfl) H (fun k14 H => lk_gi H (fun r6 h5 H => ?_))
    refine lk_wp_seg (lo' := [.ref a0, .int x1, .int x2, .int x3, .int r6, .retAddr 0, .retAddr 0]) (st' := [.int x3, .int 10, .ref a0, .int x2, .ref a0]) lk_M143 lk_s143_81_6 rfl ?_
    refine lk_wp_cv (as := [.int 10, .int x3]) (r := [.int x2, .ref a0]) (a := a0) lk_i143_89 lk_M143 rfl rfl rfl (Nat.le_of_ble_eq_true rfl) H (fun k13 H => lk_gi H (fun r8 h7 H => ?_))
    refine lk_wp_cv (as := [.int x2, .int r8]) (r := []) (a := a0) lk_i143_92 lk_M143 rfl rfl rfl (Nat.le_of_ble_eq_true rfl) H (fun k12 H => lk_gv H (fun h9 H => ?_))
    refine lk_wp_seg (lo' := [.ref a0, .int x1, .int x2, .int x3, .int r6, .retAddr 0, .retAddr 0]) (st' := [.int r6, .int x3, .ref a0]) lk_M143 lk_s143_95_3 rfl ?_
    refine lk_wp_cv (as := [.int x3, .int r6]) (r := []) (a := a0) lk_i143_99 lk_M143 rfl rfl rfl (Nat.le_of_ble_eq_true rfl) H (fun k11 H => lk_gv H (fun h10 H => ?_))
    refine lk_wp_seg (lo' := [.ref a0, .int x1, .int x2, .int x3, .int r6, .int (x2 + 1), .int (x1 - 1)]) (st' := []) lk_M143 lk_s143_102_8 rfl ?_
    exact H.forget (lk_le_s (lk_le_d (lk_le_d (lk_le_d (lk_le_d (lk_le_s (lk_le_s lk_le_n)))))))
  · refine lk_wp_seg (lo' := [.ref a0, .int x1, .int x2, .int (x3 + (-1)), .retAddr 0, .retAddr 0, .retAddr 0]) (st' := []) lk_M143 lk_s143_68_2 rfl ?_
    exact H
set_option maxRecDepth 20000 in
theorem F_m_next_112 {X : lk_X} {d : Nat} {x5 x6 : Int32} {a0 : Nat} {h : lk_H} {Q : Option Value → lk_H → Prop} (H : (x6 ≤ x5 → Q (some (.int 1)) h) ∧ (¬ x6 ≤ x5 → lk_vc h a0 [(11, 122)] (fun k10 => lk_wxi X d k10 [.ref a0, .int 10, .int x5] h (fun r2 h1 => lk_vc h1 a0 [(11, 122)] (fun k9 => lk_wxi X d k9 [.ref a0, .int 10, .int x6] h1 (fun r4 h3 => lk_vc h3 a0 [(11, 128)] (fun k8 => lk_wxv X d k8 [.ref a0, .int x5, .int r4] h3 (fun h5 => lk_vc h5 a0 [(11, 128)] (fun k7 => lk_wxv X d k7 [.ref a0, .int x6, .int r2] h5 (fun h6 => lk_wp X (d + 1) 143 112 [.ref a0, .retAddr 0, .retAddr 0, .retAddr 0, .retAddr 0, .int (x5 + 1), .int (x6 + (-1))] [] h6 Q)))))))))) : lk_wp X (d + 1) 143 112 [.ref a0, .retAddr 0, .retAddr 0, .retAddr 0, .retAddr 0, .int x5, .int x6] [] h Q := by
  refine lk_wp_seg (lo' := [.ref a0, .retAddr 0, .retAddr 0, .retAddr 0, .retAddr 0, .int x5, .int x6]) (st' := [.int x6, .int x5]) lk_M143 lk_s143_112_2 rfl ?_
  refine lk_wp_ic_ge lk_i143_116 lk_M143 H (fun H => ?_) (fun H => ?_)
  · refine lk_wp_seg (lo' := [.ref a0, .retAddr 0, .retAddr 0, .retAddr 0, .retAddr 0, .int x5, .int x6]) (st' := [.int 1]) lk_M143 lk_s143_160_1 rfl ?_
    exact lk_wp_ret lk_i143_161 lk_M143 rfl H
  · refine lk_wp_seg (lo' := [.ref a0, .retAddr 0, .retAddr 0, .retAddr 0, .retAddr 0, .int x5, .int x6]) (st' := [.int x5, .int 10, .ref a0]) lk_M143 lk_s143_119_3 rfl ?_
    refine lk_wp_cv (as := [.int 10, .int x5]) (r := []) (a := a0) lk_i143_124 lk_M143 rfl rfl rfl (Nat.le_of_ble_eq_true rfl) H (fun k10 H => lk_gi H (fun r2 h1 H => ?_))
    refine lk_wp_seg (lo' := [.ref a0, .retAddr 0, .retAddr 0, .retAddr 0, .int r2, .int x5, .int x6]) (st' := [.int x6, .int 10, .ref a0, .int x5, .ref a0]) lk_M143 lk_s143_127_6 rfl ?_
    refine lk_wp_cv (as := [.int 10, .int x6]) (r := [.int x5, .ref a0]) (a := a0) lk_i143_137 lk_M143 rfl rfl rfl (Nat.le_of_ble_eq_true rfl) H (fun k9 H => lk_gi H (fun r4 h3 H => ?_))
    refine lk_wp_cv (as := [.int x5, .int r4]) (r := []) (a := a0) lk_i143_140 lk_M143 rfl rfl rfl (Nat.le_of_ble_eq_true rfl) H (fun k8 H => lk_gv H (fun h5 H => ?_))
    refine lk_wp_seg (lo' := [.ref a0, .retAddr 0, .retAddr 0, .retAddr 0, .int r2, .int x5, .int x6]) (st' := [.int r2, .int x6, .ref a0]) lk_M143 lk_s143_143_3 rfl ?_
    refine lk_wp_cv (as := [.int x6, .int r2]) (r := []) (a := a0) lk_i143_148 lk_M143 rfl rfl rfl (Nat.le_of_ble_eq_true rfl) H (fun k7 H => lk_gv H (fun h6 H => ?_))
    refine lk_wp_seg (lo' := [.ref a0, .retAddr 0, .retAddr 0, .retAddr 0, .int r2, .int (x5 + 1), .int (x6 + (-1))]) (st' := []) lk_M143 lk_s143_151_3 rfl ?_
    exact H.forget (lk_le_s (lk_le_s (lk_le_s (lk_le_s (lk_le_d (lk_le_s (lk_le_s lk_le_n)))))))
/-! LonelyDotsModel.nth(III)I -/
theorem lk_M144 : lk_mt[144]? = some (yX12_nth, cX12_nth, 6, ((some FieldType.int))) := rfl
theorem lk_s144_0_1 : lk_seg 144 [(.iload_n 1, 1, (0, [], .null))] 0 = some 1 := by decide +kernel
theorem lk_i144_1 : lk_ins 144 1 = some (.invokestatic 100, 3, (0, [(0, 120)], .ref 89)) := lk_eqE_eq (by decide +kernel)
theorem lk_i144_4 : lk_ins 144 4 = some (.ifCond .eq 15, 3, (19, [], .null)) := lk_eqE_eq (by decide +kernel)
theorem lk_s144_19_1 : lk_seg 144 [(.ldc 70, 2, (0, [], .int (-1000001)))] 19 = some 21 := by decide +kernel
theorem lk_i144_21 : lk_ins 144 21 = some (.ireturn, 1, (0, [], .null)) := lk_eqE_eq (by decide +kernel)
theorem lk_s144_7_4 : lk_seg 144 [(.iload_n 2, 1, (0, [], .null)), (.i2l, 1, (0, [], .null)), (.lconst 1, 1, (0, [], .long 1)), (.ldc2_w 58, 3, (0, [], .long (7)))] 7 = some 13 := by decide +kernel
theorem lk_i144_13 : lk_ins 144 13 = some (.invokestatic 60, 3, (0, [(0, 112)], .ref 80)) := lk_eqE_eq (by decide +kernel)
theorem lk_i144_16 : lk_ins 144 16 = some (.ifCond .ne 6, 3, (22, [], .null)) := lk_eqE_eq (by decide +kernel)
theorem lk_s144_22_4 : lk_seg 144 [(.iload_n 3, 1, (0, [], .null)), (.istore 4, 2, (0, [], .null)), (.aload_n 0, 1, (0, [], .null)), (.iload_n 2, 1, (0, [], .null))] 22 = some 27 := by decide +kernel
theorem lk_i144_27 : lk_ins 144 27 = some (.invokevirtual 144, 3, (1, [(11, 142)], .ref 99)) := lk_eqE_eq (by decide +kernel)
theorem lk_s144_30_1 : lk_seg 144 [(.iload_n 3, 1, (0, [], .null))] 30 = some 31 := by decide +kernel
theorem lk_i144_31 : lk_ins 144 31 = some (.ifCond .lt 7, 3, (38, [], .null)) := lk_eqE_eq (by decide +kernel)
theorem lk_s144_38_2 : lk_seg 144 [(.iconst 0, 1, (0, [], .int (0))), (.istore 5, 2, (0, [], .null))] 38 = some 41 := by decide +kernel
theorem lk_s144_34_2 : lk_seg 144 [(.iconst 1, 1, (0, [], .int (1))), (.goto 4, 3, (39, [], .null))] 34 = some 39 := by decide +kernel
theorem lk_s144_39_1 : lk_seg 144 [(.istore 5, 2, (0, [], .null))] 39 = some 41 := by decide +kernel
theorem lk_s144_41_1 : lk_seg 144 [(.iload 5, 2, (0, [], .null))] 41 = some 43 := by decide +kernel
theorem lk_i144_43 : lk_ins 144 43 = some (.ifCond .eq 37, 3, (80, [], .null)) := lk_eqE_eq (by decide +kernel)
theorem lk_s144_80_2 : lk_seg 144 [(.aload_n 0, 1, (0, [], .null)), (.ldc 88, 2, (0, [], .int (-1000000)))] 80 = some 83 := by decide +kernel
theorem lk_i144_83 : lk_ins 144 83 = some (.invokevirtual 75, 3, (1, [(11, 114)], .ref 83)) := lk_eqE_eq (by decide +kernel)
theorem lk_i144_86 : lk_ins 144 86 = some (.ireturn, 1, (0, [], .null)) := lk_eqE_eq (by decide +kernel)
theorem lk_s144_46_3 : lk_seg 144 [(.aload_n 0, 1, (0, [], .null)), (.bipush 10, 2, (0, [], .int (10))), (.iconst 1, 1, (0, [], .int (1)))] 46 = some 50 := by decide +kernel
theorem lk_i144_50 : lk_ins 144 50 = some (.invokevirtual 89, 3, (1, [(11, 124)], .ref 86)) := lk_eqE_eq (by decide +kernel)
theorem lk_i144_53 : lk_ins 144 53 = some (.ifCond .ne 18, 3, (71, [], .null)) := lk_eqE_eq (by decide +kernel)
theorem lk_s144_71_1 : lk_seg 144 [(.aload_n 0, 1, (0, [], .null))] 71 = some 72 := by decide +kernel
theorem lk_i144_72 : lk_ins 144 72 = some (.invokevirtual 148, 3, (1, [(11, 143)], .ref 100)) := lk_eqE_eq (by decide +kernel)
theorem lk_s144_75_2 : lk_seg 144 [(.istore 5, 2, (0, [], .null)), (.goto (-36), 3, (41, [], .null))] 75 = some 41 := by decide +kernel
theorem lk_s144_56_1 : lk_seg 144 [(.iload 4, 2, (0, [], .null))] 56 = some 58 := by decide +kernel
theorem lk_i144_58 : lk_ins 144 58 = some (.ifCond .ne 10, 3, (68, [], .null)) := lk_eqE_eq (by decide +kernel)
theorem lk_s144_68_2 : lk_seg 144 [(.iinc 4 (-1), 3, (0, [], .int (-1))), (.aload_n 0, 1, (0, [], .null))] 68 = some 72 := by decide +kernel
theorem lk_s144_61_3 : lk_seg 144 [(.aload_n 0, 1, (0, [], .null)), (.iload_n 1, 1, (0, [], .null)), (.iconst 1, 1, (0, [], .int (1)))] 61 = some 64 := by decide +kernel
theorem lk_i144_64 : lk_ins 144 64 = some (.invokevirtual 108, 3, (1, [(11, 127)], .ref 91)) := lk_eqE_eq (by decide +kernel)
theorem lk_i144_67 : lk_ins 144 67 = some (.ireturn, 1, (0, [], .null)) := lk_eqE_eq (by decide +kernel)
set_option maxRecDepth 20000 in
theorem E_m_nth {X : lk_X} {d : Nat} {x1 x2 x3 : Int32} {a0 : Nat} {h : lk_H} {Q : Option Value → lk_H → Prop} (H : lk_wxi X d 120 [.int x1] h (fun r2 h1 => (r2 = 0 → Q (some (.int ((-1000001)))) h1) ∧ (¬ r2 = 0 → lk_wxi X d 112 [.long (x2.toInt64), .long 1, .long 7] h1 (fun r4 h3 => (¬ r4 = 0 → lk_vc h3 a0 [(11, 142)] (fun k6 => lk_wxv X d k6 [.ref a0, .int x2] h3 (fun h5 => (x3 < 0 → lk_wp X (d + 1) 144 41 [.ref a0, .int x1, .retAddr 0, .retAddr 0, .int x3, .int 0] [] h5 Q) ∧ (¬ x3 < 0 → lk_wp X (d + 1) 144 41 [.ref a0, .int x1, .retAddr 0, .retAddr 0, .int x3, .int 1] [] h5 Q)))) ∧ (r4 = 0 → Q (some (.int ((-1000001)))) h3))))) : lk_wx X (d + 1) 144 [.ref a0, .int x1, .int x2, .int x3] h Q := by
  refine lk_enter (lo := [.ref a0, .int x1, .int x2, .int x3, .retAddr 0, .retAddr 0]) lk_M144 rfl (Nat.le_of_ble_eq_true rfl) ?_
  refine lk_wp_seg (lo' := [.ref a0, .int x1, .int x2, .int x3, .retAddr 0, .retAddr 0]) (st' := [.int x1]) lk_M144 lk_s144_0_1 rfl ?_
  refine lk_wp_cs (as := [.int x1]) (r := []) lk_i144_1 lk_M144 rfl rfl rfl rfl (Nat.le_of_ble_eq_true rfl) (lk_gi H (fun r2 h1 H => ?_))
  refine lk_wp_if_eq lk_i144_4 lk_M144 H (fun H => ?_) (fun H => ?_)
  · refine lk_wp_seg (lo' := [.ref a0, .int x1, .int x2, .int x3, .retAddr 0, .retAddr 0]) (st' := [.int ((-1000001))]) lk_M144 lk_s144_19_1 rfl ?_
    exact lk_wp_ret lk_i144_21 lk_M144 rfl H
  · refine lk_wp_seg (lo' := [.ref a0, .int x1, .int x2, .int x3, .retAddr 0, .retAddr 0]) (st' := [.long 7, .long 1, .long (x2.toInt64)]) lk_M144 lk_s144_7_4 rfl ?_
    refine lk_wp_cs (as := [.long (x2.toInt64), .long 1, .long 7]) (r := []) lk_i144_13 lk_M144 rfl rfl rfl rfl (Nat.le_of_ble_eq_true rfl) (lk_gi H (fun r4 h3 H => ?_))
    refine lk_wp_if_ne lk_i144_16 lk_M144 H (fun H => ?_) (fun H => ?_)
    · refine lk_wp_seg (lo' := [.ref a0, .int x1, .int x2, .int x3, .int x3, .retAddr 0]) (st' := [.int x2, .ref a0]) lk_M144 lk_s144_22_4 rfl ?_
      refine lk_wp_cv (as := [.int x2]) (r := []) (a := a0) lk_i144_27 lk_M144 rfl rfl rfl (Nat.le_of_ble_eq_true rfl) H (fun k6 H => lk_gv H (fun h5 H => ?_))
      refine lk_wp_seg (lo' := [.ref a0, .int x1, .int x2, .int x3, .int x3, .retAddr 0]) (st' := [.int x3]) lk_M144 lk_s144_30_1 rfl ?_
      refine lk_wp_if_lt lk_i144_31 lk_M144 H (fun H => ?_) (fun H => ?_)
      · refine lk_wp_seg (lo' := [.ref a0, .int x1, .int x2, .int x3, .int x3, .int 0]) (st' := []) lk_M144 lk_s144_38_2 rfl ?_
        exact H.forget (lk_le_s (lk_le_s (lk_le_d (lk_le_d (lk_le_s (lk_le_s lk_le_n))))))
      · refine lk_wp_seg (lo' := [.ref a0, .int x1, .int x2, .int x3, .int x3, .retAddr 0]) (st' := [.int 1]) lk_M144 lk_s144_34_2 rfl ?_
        refine lk_wp_seg (lo' := [.ref a0, .int x1, .int x2, .int x3, .int x3, .int 1]) (st' := []) lk_M144 lk_s144_39_1 rfl ?_
        exact H.forget (lk_le_s (lk_le_s (lk_le_d (lk_le_d (lk_le_s (lk_le_s lk_le_n))))))
    · refine lk_wp_seg (lo' := [.ref a0, .int x1, .int x2, .int x3, .retAddr 0, .retAddr 0]) (st' := [.int ((-1000001))]) lk_M144 lk_s144_19_1 rfl ?_
      exact lk_wp_ret lk_i144_21 lk_M144 rfl H
set_option maxRecDepth 20000 in
theorem F_m_nth_41 {X : lk_X} {d : Nat} {x1 x4 x5 : Int32} {a0 : Nat} {h : lk_H} {Q : Option Value → lk_H → Prop} (H : (x5 = 0 → lk_vc h a0 [(11, 114)] (fun k3 => lk_wxi X d k3 [.ref a0, .int ((-1000000))] h (fun r2 h1 => Q (some (.int r2)) h1))) ∧ (¬ x5 = 0 → lk_vc h a0 [(11, 124)] (fun k15 => lk_wxi X d k15 [.ref a0, .int 10, .int 1] h (fun r5 h4 => (¬ r5 = 0 → lk_vc h4 a0 [(11, 143)] (fun k8 => lk_wxi X d k8 [.ref a0] h4 (fun r7 h6 => lk_wp X (d + 1) 144 41 [.ref a0, .int x1, .retAddr 0, .retAddr 0, .int x4, .int r7] [] h6 Q))) ∧ (r5 = 0 → (¬ x4 = 0 → lk_vc h4 a0 [(11, 143)] (fun k11 => lk_wxi X d k11 [.ref a0] h4 (fun r10 h9 => lk_wp X (d + 1) 144 41 [.ref a0, .int x1, .retAddr 0, .retAddr 0, .int (x4 + (-1)), .int r10] [] h9 Q))) ∧ (x4 = 0 → lk_vc h4 a0 [(11, 127)] (fun k14 => lk_wxi X d k14 [.ref a0, .int x1, .int 1] h4 (fun r13 h12 => Q (some (.int r13)) h12)))))))) : lk_wp X (d + 1) 144 41 [.ref a0, .int x1, .retAddr 0, .retAddr 0, .int x4, .int x5] [] h Q := by
  refine lk_wp_seg (lo' := [.ref a0, .int x1, .retAddr 0, .retAddr 0, .int x4, .int x5]) (st' := [.int x5]) lk_M144 lk_s144_41_1 rfl ?_
  refine lk_wp_if_eq lk_i144_43 lk_M144 H (fun H => ?_) (fun H => ?_)
  · refine lk_wp_seg (lo' := [.ref a0, .int x1, .retAddr 0, .retAddr 0, .int x4, .int x5]) (st' := [.int ((-1000000)), .ref a0]) lk_M144 lk_s144_80_2 rfl ?_
    refine lk_wp_cv (as := [.int ((-1000000))]) (r := []) (a := a0) lk_i144_83 lk_M144 rfl rfl rfl (Nat.le_of_ble_eq_true rfl) H (fun k3 H => lk_gi H (fun r2 h1 H => ?_))
    exact lk_wp_ret lk_i144_86 lk_M144 rfl H
  · refine lk_wp_seg (lo' := [.ref a0, .int x1, .retAddr 0, .retAddr 0, .int x4, .int x5]) (st' := [.int 1, .int 10, .ref a0]) lk_M144 lk_s144_46_3 rfl ?_
    refine lk_wp_cv (as := [.int 10, .int 1]) (r := []) (a := a0) lk_i144_50 lk_M144 rfl rfl rfl (Nat.le_of_ble_eq_true rfl) H (fun k15 H => lk_gi H (fun r5 h4 H => ?_))
    refine lk_wp_if_ne lk_i144_53 lk_M144 H (fun H => ?_) (fun H => ?_)
    · refine lk_wp_seg (lo' := [.ref a0, .int x1, .retAddr 0, .retAddr 0, .int x4, .int x5]) (st' := [.ref a0]) lk_M144 lk_s144_71_1 rfl ?_
      refine lk_wp_cv (as := []) (r := []) (a := a0) lk_i144_72 lk_M144 rfl rfl rfl (Nat.le_of_ble_eq_true rfl) H (fun k8 H => lk_gi H (fun r7 h6 H => ?_))
      refine lk_wp_seg (lo' := [.ref a0, .int x1, .retAddr 0, .retAddr 0, .int x4, .int r7]) (st' := []) lk_M144 lk_s144_75_2 rfl ?_
      exact H
    · refine lk_wp_seg (lo' := [.ref a0, .int x1, .retAddr 0, .retAddr 0, .int x4, .int x5]) (st' := [.int x4]) lk_M144 lk_s144_56_1 rfl ?_
      refine lk_wp_if_ne lk_i144_58 lk_M144 H (fun H => ?_) (fun H => ?_)
      · refine lk_wp_seg (lo' := [.ref a0, .int x1, .retAddr 0, .retAddr 0, .int (x4 + (-1)), .int x5]) (st' := [.ref a0]) lk_M144 lk_s144_68_2 rfl ?_
        refine lk_wp_cv (as := []) (r := []) (a := a0) lk_i144_72 lk_M144 rfl rfl rfl (Nat.le_of_ble_eq_true rfl) H (fun k11 H => lk_gi H (fun r10 h9 H => ?_))
        refine lk_wp_seg (lo' := [.ref a0, .int x1, .retAddr 0, .retAddr 0, .int (x4 + (-1)), .int r10]) (st' := []) lk_M144 lk_s144_75_2 rfl ?_
        exact H
      · refine lk_wp_seg (lo' := [.ref a0, .int x1, .retAddr 0, .retAddr 0, .int x4, .int x5]) (st' := [.int 1, .int x1, .ref a0]) lk_M144 lk_s144_61_3 rfl ?_
        refine lk_wp_cv (as := [.int x1, .int 1]) (r := []) (a := a0) lk_i144_64 lk_M144 rfl rfl rfl (Nat.le_of_ble_eq_true rfl) H (fun k14 H => lk_gi H (fun r13 h12 H => ?_))
        exact lk_wp_ret lk_i144_67 lk_M144 rfl H
/-! LonelyDotsModel.clear(I)I -/
theorem lk_M145 : lk_mt[145]? = some (yX12_clear, cX12_clear, 3, ((some FieldType.int))) := rfl
theorem lk_s145_0_1 : lk_seg 145 [(.iload_n 1, 1, (0, [], .null))] 0 = some 1 := by decide +kernel
theorem lk_i145_1 : lk_ins 145 1 = some (.invokestatic 100, 3, (0, [(0, 120)], .ref 89)) := lk_eqE_eq (by decide +kernel)
theorem lk_i145_4 : lk_ins 145 4 = some (.ifCond .ne 6, 3, (10, [], .null)) := lk_eqE_eq (by decide +kernel)
theorem lk_s145_10_1 : lk_seg 145 [(.aload_n 0, 1, (0, [], .null))] 10 = some 11 := by decide +kernel
theorem lk_i145_11 : lk_ins 145 11 = some (.getfield 22, 3, (4, [(11, 0)], .null)) := lk_eqE_eq (by decide +kernel)
theorem lk_s145_14_1 : lk_seg 145 [(.iload_n 1, 1, (0, [], .null))] 14 = some 15 := by decide +kernel
theorem lk_i145_15 : lk_ins 145 15 = some (.iaload, 1, (0, [], .null)) := lk_eqE_eq (by decide +kernel)
theorem lk_i145_16 : lk_ins 145 16 = some (.ifCond .le 7, 3, (23, [], .null)) := lk_eqE_eq (by decide +kernel)
theorem lk_s145_23_3 : lk_seg 145 [(.iconst 0, 1, (0, [], .int (0))), (.istore_n 2, 1, (0, [], .null)), (.aload_n 0, 1, (0, [], .null))] 23 = some 26 := by decide +kernel
theorem lk_i145_26 : lk_ins 145 26 = some (.getfield 22, 3, (4, [(11, 0)], .null)) := lk_eqE_eq (by decide +kernel)
theorem lk_s145_29_2 : lk_seg 145 [(.iload_n 1, 1, (0, [], .null)), (.iconst 0, 1, (0, [], .int (0)))] 29 = some 31 := by decide +kernel
theorem lk_i145_31 : lk_ins 145 31 = some (.iastore, 1, (0, [], .null)) := lk_eqE_eq (by decide +kernel)
theorem lk_s145_32_1 : lk_seg 145 [(.iload_n 2, 1, (0, [], .null))] 32 = some 33 := by decide +kernel
theorem lk_i145_33 : lk_ins 145 33 = some (.ireturn, 1, (0, [], .null)) := lk_eqE_eq (by decide +kernel)
theorem lk_s145_19_2 : lk_seg 145 [(.iconst 1, 1, (0, [], .int (1))), (.goto 4, 3, (24, [], .null))] 19 = some 24 := by decide +kernel
theorem lk_s145_24_2 : lk_seg 145 [(.istore_n 2, 1, (0, [], .null)), (.aload_n 0, 1, (0, [], .null))] 24 = some 26 := by decide +kernel
theorem lk_s145_7_1 : lk_seg 145 [(.ldc 70, 2, (0, [], .int (-1000001)))] 7 = some 9 := by decide +kernel
theorem lk_i145_9 : lk_ins 145 9 = some (.ireturn, 1, (0, [], .null)) := lk_eqE_eq (by decide +kernel)
set_option maxRecDepth 20000 in
theorem E_m_clear {X : lk_X} {d : Nat} {x1 : Int32} {a0 : Nat} {h : lk_H} {Q : Option Value → lk_H → Prop} (H : lk_wxi X d 120 [.int x1] h (fun r2 h1 => (¬ r2 = 0 → lk_fR h1 a0 4 [(11, 0)] (fun r3 => lk_ai h1 r3 x1 (fun r4 => (r4 ≤ 0 → lk_fR h1 a0 4 [(11, 0)] (fun r5 => lk_as h1 r5 x1 0 (fun h6 => Q (some (.int 0)) h6))) ∧ (¬ r4 ≤ 0 → lk_fR h1 a0 4 [(11, 0)] (fun r7 => lk_as h1 r7 x1 0 (fun h8 => Q (some (.int 1)) h8)))))) ∧ (r2 = 0 → Q (some (.int ((-1000001)))) h1))) : lk_wx X (d + 1) 145 [.ref a0, .int x1] h Q := by
  refine lk_enter (lo := [.ref a0, .int x1, .retAddr 0]) lk_M145 rfl (Nat.le_of_ble_eq_true rfl) ?_
  refine lk_wp_seg (lo' := [.ref a0, .int x1, .retAddr 0]) (st' := [.int x1]) lk_M145 lk_s145_0_1 rfl ?_
  refine lk_wp_cs (as := [.int x1]) (r := []) lk_i145_1 lk_M145 rfl rfl rfl rfl (Nat.le_of_ble_eq_true rfl) (lk_gi H (fun r2 h1 H => ?_))
  refine lk_wp_if_ne lk_i145_4 lk_M145 H (fun H => ?_) (fun H => ?_)
  · refine lk_wp_seg (lo' := [.ref a0, .int x1, .retAddr 0]) (st' := [.ref a0]) lk_M145 lk_s145_10_1 rfl ?_
    refine lk_wp_fR lk_i145_11 lk_M145 H (fun r3 H => ?_)
    refine lk_wp_seg (lo' := [.ref a0, .int x1, .retAddr 0]) (st' := [.int x1, .ref r3]) lk_M145 lk_s145_14_1 rfl ?_
    refine lk_wp_ai lk_i145_15 lk_M145 H (fun r4 H => ?_)
    refine lk_wp_if_le lk_i145_16 lk_M145 H (fun H => ?_) (fun H => ?_)
    · refine lk_wp_seg (lo' := [.ref a0, .int x1, .int 0]) (st' := [.ref a0]) lk_M145 lk_s145_23_3 rfl ?_
      refine lk_wp_fR lk_i145_26 lk_M145 H (fun r5 H => ?_)
      refine lk_wp_seg (lo' := [.ref a0, .int x1, .int 0]) (st' := [.int 0, .int x1, .ref r5]) lk_M145 lk_s145_29_2 rfl ?_
      refine lk_wp_as lk_i145_31 lk_M145 H (fun h6 H => ?_)
      refine lk_wp_seg (lo' := [.ref a0, .int x1, .int 0]) (st' := [.int 0]) lk_M145 lk_s145_32_1 rfl ?_
      exact lk_wp_ret lk_i145_33 lk_M145 rfl H
    · refine lk_wp_seg (lo' := [.ref a0, .int x1, .retAddr 0]) (st' := [.int 1]) lk_M145 lk_s145_19_2 rfl ?_
      refine lk_wp_seg (lo' := [.ref a0, .int x1, .int 1]) (st' := [.ref a0]) lk_M145 lk_s145_24_2 rfl ?_
      refine lk_wp_fR lk_i145_26 lk_M145 H (fun r7 H => ?_)
      refine lk_wp_seg (lo' := [.ref a0, .int x1, .int 1]) (st' := [.int 0, .int x1, .ref r7]) lk_M145 lk_s145_29_2 rfl ?_
      refine lk_wp_as lk_i145_31 lk_M145 H (fun h8 H => ?_)
      refine lk_wp_seg (lo' := [.ref a0, .int x1, .int 1]) (st' := [.int 1]) lk_M145 lk_s145_32_1 rfl ?_
      exact lk_wp_ret lk_i145_33 lk_M145 rfl H
  · refine lk_wp_seg (lo' := [.ref a0, .int x1, .retAddr 0]) (st' := [.int ((-1000001))]) lk_M145 lk_s145_7_1 rfl ?_
    exact lk_wp_ret lk_i145_9 lk_M145 rfl H
/-! LonelyDotsModel.kind(I)I -/
theorem lk_M146 : lk_mt[146]? = some (yX12_kind, cX12_kind, 2, ((some FieldType.int))) := rfl
theorem lk_s146_0_1 : lk_seg 146 [(.iload_n 1, 1, (0, [], .null))] 0 = some 1 := by decide +kernel
theorem lk_i146_1 : lk_ins 146 1 = some (.invokestatic 100, 3, (0, [(0, 120)], .ref 89)) := lk_eqE_eq (by decide +kernel)
theorem lk_i146_4 : lk_ins 146 4 = some (.ifCond .ne 6, 3, (10, [], .null)) := lk_eqE_eq (by decide +kernel)
theorem lk_s146_10_1 : lk_seg 146 [(.aload_n 0, 1, (0, [], .null))] 10 = some 11 := by decide +kernel
theorem lk_i146_11 : lk_ins 146 11 = some (.getfield 22, 3, (4, [(11, 0)], .null)) := lk_eqE_eq (by decide +kernel)
theorem lk_s146_14_1 : lk_seg 146 [(.iload_n 1, 1, (0, [], .null))] 14 = some 15 := by decide +kernel
theorem lk_i146_15 : lk_ins 146 15 = some (.iaload, 1, (0, [], .null)) := lk_eqE_eq (by decide +kernel)
theorem lk_i146_16 : lk_ins 146 16 = some (.ifCond .ne 11, 3, (27, [], .null)) := lk_eqE_eq (by decide +kernel)
theorem lk_s146_27_2 : lk_seg 146 [(.aload_n 0, 1, (0, [], .null)), (.aload_n 0, 1, (0, [], .null))] 27 = some 29 := by decide +kernel
theorem lk_i146_29 : lk_ins 146 29 = some (.getfield 22, 3, (4, [(11, 0)], .null)) := lk_eqE_eq (by decide +kernel)
theorem lk_s146_32_1 : lk_seg 146 [(.iload_n 1, 1, (0, [], .null))] 32 = some 33 := by decide +kernel
theorem lk_i146_33 : lk_ins 146 33 = some (.iaload, 1, (0, [], .null)) := lk_eqE_eq (by decide +kernel)
theorem lk_i146_34 : lk_ins 146 34 = some (.invokevirtual 75, 3, (1, [(11, 114)], .ref 83)) := lk_eqE_eq (by decide +kernel)
theorem lk_i146_37 : lk_ins 146 37 = some (.ireturn, 1, (0, [], .null)) := lk_eqE_eq (by decide +kernel)
theorem lk_s146_19_2 : lk_seg 146 [(.aload_n 0, 1, (0, [], .null)), (.iconst 1, 1, (0, [], .int (1)))] 19 = some 21 := by decide +kernel
theorem lk_i146_21 : lk_ins 146 21 = some (.invokevirtual 71, 3, (1, [(11, 113)], .ref 82)) := lk_eqE_eq (by decide +kernel)
theorem lk_s146_24_1 : lk_seg 146 [(.goto 13, 3, (37, [], .null))] 24 = some 37 := by decide +kernel
theorem lk_s146_7_1 : lk_seg 146 [(.ldc 70, 2, (0, [], .int (-1000001)))] 7 = some 9 := by decide +kernel
theorem lk_i146_9 : lk_ins 146 9 = some (.ireturn, 1, (0, [], .null)) := lk_eqE_eq (by decide +kernel)
set_option maxRecDepth 20000 in
theorem E_m_kind {X : lk_X} {d : Nat} {x1 : Int32} {a0 : Nat} {h : lk_H} {Q : Option Value → lk_H → Prop} (H : lk_wxi X d 120 [.int x1] h (fun r2 h1 => (¬ r2 = 0 → lk_fR h1 a0 4 [(11, 0)] (fun r3 => lk_ai h1 r3 x1 (fun r4 => (¬ r4 = 0 → lk_fR h1 a0 4 [(11, 0)] (fun r5 => lk_ai h1 r5 x1 (fun r6 => lk_vc h1 a0 [(11, 114)] (fun k9 => lk_wxi X d k9 [.ref a0, .int r6] h1 (fun r8 h7 => Q (some (.int r8)) h7))))) ∧ (r4 = 0 → lk_vc h1 a0 [(11, 113)] (fun k12 => lk_wxi X d k12 [.ref a0, .int 1] h1 (fun r11 h10 => Q (some (.int r11)) h10)))))) ∧ (r2 = 0 → Q (some (.int ((-1000001)))) h1))) : lk_wx X (d + 1) 146 [.ref a0, .int x1] h Q := by
  refine lk_enter (lo := [.ref a0, .int x1]) lk_M146 rfl (Nat.le_of_ble_eq_true rfl) ?_
  refine lk_wp_seg (lo' := [.ref a0, .int x1]) (st' := [.int x1]) lk_M146 lk_s146_0_1 rfl ?_
  refine lk_wp_cs (as := [.int x1]) (r := []) lk_i146_1 lk_M146 rfl rfl rfl rfl (Nat.le_of_ble_eq_true rfl) (lk_gi H (fun r2 h1 H => ?_))
  refine lk_wp_if_ne lk_i146_4 lk_M146 H (fun H => ?_) (fun H => ?_)
  · refine lk_wp_seg (lo' := [.ref a0, .int x1]) (st' := [.ref a0]) lk_M146 lk_s146_10_1 rfl ?_
    refine lk_wp_fR lk_i146_11 lk_M146 H (fun r3 H => ?_)
    refine lk_wp_seg (lo' := [.ref a0, .int x1]) (st' := [.int x1, .ref r3]) lk_M146 lk_s146_14_1 rfl ?_
    refine lk_wp_ai lk_i146_15 lk_M146 H (fun r4 H => ?_)
    refine lk_wp_if_ne lk_i146_16 lk_M146 H (fun H => ?_) (fun H => ?_)
    · refine lk_wp_seg (lo' := [.ref a0, .int x1]) (st' := [.ref a0, .ref a0]) lk_M146 lk_s146_27_2 rfl ?_
      refine lk_wp_fR lk_i146_29 lk_M146 H (fun r5 H => ?_)
      refine lk_wp_seg (lo' := [.ref a0, .int x1]) (st' := [.int x1, .ref r5, .ref a0]) lk_M146 lk_s146_32_1 rfl ?_
      refine lk_wp_ai lk_i146_33 lk_M146 H (fun r6 H => ?_)
      refine lk_wp_cv (as := [.int r6]) (r := []) (a := a0) lk_i146_34 lk_M146 rfl rfl rfl (Nat.le_of_ble_eq_true rfl) H (fun k9 H => lk_gi H (fun r8 h7 H => ?_))
      exact lk_wp_ret lk_i146_37 lk_M146 rfl H
    · refine lk_wp_seg (lo' := [.ref a0, .int x1]) (st' := [.int 1, .ref a0]) lk_M146 lk_s146_19_2 rfl ?_
      refine lk_wp_cv (as := [.int 1]) (r := []) (a := a0) lk_i146_21 lk_M146 rfl rfl rfl (Nat.le_of_ble_eq_true rfl) H (fun k12 H => lk_gi H (fun r11 h10 H => ?_))
      refine lk_wp_seg (lo' := [.ref a0, .int x1]) (st' := [.int r11]) lk_M146 lk_s146_24_1 rfl ?_
      exact lk_wp_ret lk_i146_37 lk_M146 rfl H
  · refine lk_wp_seg (lo' := [.ref a0, .int x1]) (st' := [.int ((-1000001))]) lk_M146 lk_s146_7_1 rfl ?_
    exact lk_wp_ret lk_i146_9 lk_M146 rfl H
/-! LonelyDotsModel.is(II)I -/
theorem lk_M147 : lk_mt[147]? = some (yX12_is, cX12_is, 3, ((some FieldType.int))) := rfl
theorem lk_s147_0_1 : lk_seg 147 [(.iload_n 1, 1, (0, [], .null))] 0 = some 1 := by decide +kernel
theorem lk_i147_1 : lk_ins 147 1 = some (.invokestatic 100, 3, (0, [(0, 120)], .ref 89)) := lk_eqE_eq (by decide +kernel)
theorem lk_i147_4 : lk_ins 147 4 = some (.ifCond .eq 15, 3, (19, [], .null)) := lk_eqE_eq (by decide +kernel)
theorem lk_s147_19_1 : lk_seg 147 [(.ldc 70, 2, (0, [], .int (-1000001)))] 19 = some 21 := by decide +kernel
theorem lk_i147_21 : lk_ins 147 21 = some (.ireturn, 1, (0, [], .null)) := lk_eqE_eq (by decide +kernel)
theorem lk_s147_7_4 : lk_seg 147 [(.iload_n 2, 1, (0, [], .null)), (.i2l, 1, (0, [], .null)), (.lconst 0, 1, (0, [], .long 0)), (.ldc2_w 152, 3, (0, [], .long (5)))] 7 = some 13 := by decide +kernel
theorem lk_i147_13 : lk_ins 147 13 = some (.invokestatic 60, 3, (0, [(0, 112)], .ref 80)) := lk_eqE_eq (by decide +kernel)
theorem lk_i147_16 : lk_ins 147 16 = some (.ifCond .ne 6, 3, (22, [], .null)) := lk_eqE_eq (by decide +kernel)
theorem lk_s147_22_1 : lk_seg 147 [(.aload_n 0, 1, (0, [], .null))] 22 = some 23 := by decide +kernel
theorem lk_i147_23 : lk_ins 147 23 = some (.getfield 22, 3, (4, [(11, 0)], .null)) := lk_eqE_eq (by decide +kernel)
theorem lk_s147_26_1 : lk_seg 147 [(.iload_n 1, 1, (0, [], .null))] 26 = some 27 := by decide +kernel
theorem lk_i147_27 : lk_ins 147 27 = some (.iaload, 1, (0, [], .null)) := lk_eqE_eq (by decide +kernel)
theorem lk_i147_28 : lk_ins 147 28 = some (.ifCond .le 20, 3, (48, [], .null)) := lk_eqE_eq (by decide +kernel)
theorem lk_s147_48_1 : lk_seg 147 [(.iconst 0, 1, (0, [], .int (0)))] 48 = some 49 := by decide +kernel
theorem lk_i147_49 : lk_ins 147 49 = some (.ireturn, 1, (0, [], .null)) := lk_eqE_eq (by decide +kernel)
theorem lk_s147_31_1 : lk_seg 147 [(.aload_n 0, 1, (0, [], .null))] 31 = some 32 := by decide +kernel
theorem lk_i147_32 : lk_ins 147 32 = some (.getfield 22, 3, (4, [(11, 0)], .null)) := lk_eqE_eq (by decide +kernel)
theorem lk_s147_35_1 : lk_seg 147 [(.iload_n 1, 1, (0, [], .null))] 35 = some 36 := by decide +kernel
theorem lk_i147_36 : lk_ins 147 36 = some (.iaload, 1, (0, [], .null)) := lk_eqE_eq (by decide +kernel)
theorem lk_s147_37_1 : lk_seg 147 [(.iload_n 2, 1, (0, [], .null))] 37 = some 38 := by decide +kernel
theorem lk_i147_38 : lk_ins 147 38 = some (.invokestatic 129, 3, (0, [(0, 121)], .ref 95)) := lk_eqE_eq (by decide +kernel)
theorem lk_i147_41 : lk_ins 147 41 = some (.ifCond .eq 7, 3, (48, [], .null)) := lk_eqE_eq (by decide +kernel)
theorem lk_s147_44_2 : lk_seg 147 [(.iconst 1, 1, (0, [], .int (1))), (.goto 4, 3, (49, [], .null))] 44 = some 49 := by decide +kernel
set_option maxRecDepth 20000 in
theorem E_m_is {X : lk_X} {d : Nat} {x1 x2 : Int32} {a0 : Nat} {h : lk_H} {Q : Option Value → lk_H → Prop} (H : lk_wxi X d 120 [.int x1] h (fun r2 h1 => (r2 = 0 → Q (some (.int ((-1000001)))) h1) ∧ (¬ r2 = 0 → lk_wxi X d 112 [.long (x2.toInt64), .long 0, .long 5] h1 (fun r4 h3 => (¬ r4 = 0 → lk_fR h3 a0 4 [(11, 0)] (fun r5 => lk_ai h3 r5 x1 (fun r6 => (r6 ≤ 0 → Q (some (.int 0)) h3) ∧ (¬ r6 ≤ 0 → lk_fR h3 a0 4 [(11, 0)] (fun r7 => lk_ai h3 r7 x1 (fun r8 => lk_wxi X d 121 [.int r8, .int x2] h3 (fun r10 h9 => (r10 = 0 → Q (some (.int 0)) h9) ∧ (¬ r10 = 0 → Q (some (.int 1)) h9)))))))) ∧ (r4 = 0 → Q (some (.int ((-1000001)))) h3))))) : lk_wx X (d + 1) 147 [.ref a0, .int x1, .int x2] h Q := by
  refine lk_enter (lo := [.ref a0, .int x1, .int x2]) lk_M147 rfl (Nat.le_of_ble_eq_true rfl) ?_
  refine lk_wp_seg (lo' := [.ref a0, .int x1, .int x2]) (st' := [.int x1]) lk_M147 lk_s147_0_1 rfl ?_
  refine lk_wp_cs (as := [.int x1]) (r := []) lk_i147_1 lk_M147 rfl rfl rfl rfl (Nat.le_of_ble_eq_true rfl) (lk_gi H (fun r2 h1 H => ?_))
  refine lk_wp_if_eq lk_i147_4 lk_M147 H (fun H => ?_) (fun H => ?_)
  · refine lk_wp_seg (lo' := [.ref a0, .int x1, .int x2]) (st' := [.int ((-1000001))]) lk_M147 lk_s147_19_1 rfl ?_
    exact lk_wp_ret lk_i147_21 lk_M147 rfl H
  · refine lk_wp_seg (lo' := [.ref a0, .int x1, .int x2]) (st' := [.long 5, .long 0, .long (x2.toInt64)]) lk_M147 lk_s147_7_4 rfl ?_
    refine lk_wp_cs (as := [.long (x2.toInt64), .long 0, .long 5]) (r := []) lk_i147_13 lk_M147 rfl rfl rfl rfl (Nat.le_of_ble_eq_true rfl) (lk_gi H (fun r4 h3 H => ?_))
    refine lk_wp_if_ne lk_i147_16 lk_M147 H (fun H => ?_) (fun H => ?_)
    · refine lk_wp_seg (lo' := [.ref a0, .int x1, .int x2]) (st' := [.ref a0]) lk_M147 lk_s147_22_1 rfl ?_
      refine lk_wp_fR lk_i147_23 lk_M147 H (fun r5 H => ?_)
      refine lk_wp_seg (lo' := [.ref a0, .int x1, .int x2]) (st' := [.int x1, .ref r5]) lk_M147 lk_s147_26_1 rfl ?_
      refine lk_wp_ai lk_i147_27 lk_M147 H (fun r6 H => ?_)
      refine lk_wp_if_le lk_i147_28 lk_M147 H (fun H => ?_) (fun H => ?_)
      · refine lk_wp_seg (lo' := [.ref a0, .int x1, .int x2]) (st' := [.int 0]) lk_M147 lk_s147_48_1 rfl ?_
        exact lk_wp_ret lk_i147_49 lk_M147 rfl H
      · refine lk_wp_seg (lo' := [.ref a0, .int x1, .int x2]) (st' := [.ref a0]) lk_M147 lk_s147_31_1 rfl ?_
        refine lk_wp_fR lk_i147_32 lk_M147 H (fun r7 H => ?_)
        refine lk_wp_seg (lo' := [.ref a0, .int x1, .int x2]) (st' := [.int x1, .ref r7]) lk_M147 lk_s147_35_1 rfl ?_
        refine lk_wp_ai lk_i147_36 lk_M147 H (fun r8 H => ?_)
        refine lk_wp_seg (lo' := [.ref a0, .int x1, .int x2]) (st' := [.int x2, .int r8]) lk_M147 lk_s147_37_1 rfl ?_
        refine lk_wp_cs (as := [.int r8, .int x2]) (r := []) lk_i147_38 lk_M147 rfl rfl rfl rfl (Nat.le_of_ble_eq_true rfl) (lk_gi H (fun r10 h9 H => ?_))
        refine lk_wp_if_eq lk_i147_41 lk_M147 H (fun H => ?_) (fun H => ?_)
        · refine lk_wp_seg (lo' := [.ref a0, .int x1, .int x2]) (st' := [.int 0]) lk_M147 lk_s147_48_1 rfl ?_
          exact lk_wp_ret lk_i147_49 lk_M147 rfl H
        · refine lk_wp_seg (lo' := [.ref a0, .int x1, .int x2]) (st' := [.int 1]) lk_M147 lk_s147_44_2 rfl ?_
          exact lk_wp_ret lk_i147_49 lk_M147 rfl H
    · refine lk_wp_seg (lo' := [.ref a0, .int x1, .int x2]) (st' := [.int ((-1000001))]) lk_M147 lk_s147_19_1 rfl ?_
      exact lk_wp_ret lk_i147_21 lk_M147 rfl H
/-! LonelyDotsModel.as(II)I -/
theorem lk_M148 : lk_mt[148]? = some (yX12_as, cX12_as, 4, ((some FieldType.int))) := rfl
theorem lk_s148_0_1 : lk_seg 148 [(.iload_n 1, 1, (0, [], .null))] 0 = some 1 := by decide +kernel
theorem lk_i148_1 : lk_ins 148 1 = some (.invokestatic 100, 3, (0, [(0, 120)], .ref 89)) := lk_eqE_eq (by decide +kernel)
theorem lk_i148_4 : lk_ins 148 4 = some (.ifCond .eq 15, 3, (19, [], .null)) := lk_eqE_eq (by decide +kernel)
theorem lk_s148_19_1 : lk_seg 148 [(.ldc 70, 2, (0, [], .int (-1000001)))] 19 = some 21 := by decide +kernel
theorem lk_i148_21 : lk_ins 148 21 = some (.ireturn, 1, (0, [], .null)) := lk_eqE_eq (by decide +kernel)
theorem lk_s148_7_4 : lk_seg 148 [(.iload_n 2, 1, (0, [], .null)), (.i2l, 1, (0, [], .null)), (.lconst 0, 1, (0, [], .long 0)), (.ldc2_w 152, 3, (0, [], .long (5)))] 7 = some 13 := by decide +kernel
theorem lk_i148_13 : lk_ins 148 13 = some (.invokestatic 60, 3, (0, [(0, 112)], .ref 80)) := lk_eqE_eq (by decide +kernel)
theorem lk_i148_16 : lk_ins 148 16 = some (.ifCond .ne 6, 3, (22, [], .null)) := lk_eqE_eq (by decide +kernel)
theorem lk_s148_22_3 : lk_seg 148 [(.aload_n 0, 1, (0, [], .null)), (.iload_n 1, 1, (0, [], .null)), (.iload_n 2, 1, (0, [], .null))] 22 = some 25 := by decide +kernel
theorem lk_i148_25 : lk_ins 148 25 = some (.invokevirtual 134, 3, (1, [(11, 136)], .ref 96)) := lk_eqE_eq (by decide +kernel)
theorem lk_s148_28_2 : lk_seg 148 [(.istore_n 3, 1, (0, [], .null)), (.iload_n 3, 1, (0, [], .null))] 28 = some 30 := by decide +kernel
theorem lk_i148_30 : lk_ins 148 30 = some (.ifCond .eq 7, 3, (37, [], .null)) := lk_eqE_eq (by decide +kernel)
theorem lk_s148_37_2 : lk_seg 148 [(.aload_n 0, 1, (0, [], .null)), (.aload_n 0, 1, (0, [], .null))] 37 = some 39 := by decide +kernel
theorem lk_i148_39 : lk_ins 148 39 = some (.getfield 25, 3, (5, [(11, 0)], .null)) := lk_eqE_eq (by decide +kernel)
theorem lk_s148_42_1 : lk_seg 148 [(.iload_n 1, 1, (0, [], .null))] 42 = some 43 := by decide +kernel
theorem lk_i148_43 : lk_ins 148 43 = some (.iaload, 1, (0, [], .null)) := lk_eqE_eq (by decide +kernel)
theorem lk_i148_44 : lk_ins 148 44 = some (.invokevirtual 75, 3, (1, [(11, 114)], .ref 83)) := lk_eqE_eq (by decide +kernel)
theorem lk_i148_47 : lk_ins 148 47 = some (.ireturn, 1, (0, [], .null)) := lk_eqE_eq (by decide +kernel)
theorem lk_s148_33_2 : lk_seg 148 [(.iload_n 3, 1, (0, [], .null)), (.goto 13, 3, (47, [], .null))] 33 = some 47 := by decide +kernel
set_option maxRecDepth 20000 in
theorem E_m_as {X : lk_X} {d : Nat} {x1 x2 : Int32} {a0 : Nat} {h : lk_H} {Q : Option Value → lk_H → Prop} (H : lk_wxi X d 120 [.int x1] h (fun r2 h1 => (r2 = 0 → Q (some (.int ((-1000001)))) h1) ∧ (¬ r2 = 0 → lk_wxi X d 112 [.long (x2.toInt64), .long 0, .long 5] h1 (fun r4 h3 => (¬ r4 = 0 → lk_vc h3 a0 [(11, 136)] (fun k12 => lk_wxi X d k12 [.ref a0, .int x1, .int x2] h3 (fun r6 h5 => (r6 = 0 → lk_fR h5 a0 5 [(11, 0)] (fun r7 => lk_ai h5 r7 x1 (fun r8 => lk_vc h5 a0 [(11, 114)] (fun k11 => lk_wxi X d k11 [.ref a0, .int r8] h5 (fun r10 h9 => Q (some (.int r10)) h9))))) ∧ (¬ r6 = 0 → Q (some (.int r6)) h5)))) ∧ (r4 = 0 → Q (some (.int ((-1000001)))) h3))))) : lk_wx X (d + 1) 148 [.ref a0, .int x1, .int x2] h Q := by
  refine lk_enter (lo := [.ref a0, .int x1, .int x2, .retAddr 0]) lk_M148 rfl (Nat.le_of_ble_eq_true rfl) ?_
  refine lk_wp_seg (lo' := [.ref a0, .int x1, .int x2, .retAddr 0]) (st' := [.int x1]) lk_M148 lk_s148_0_1 rfl ?_
  refine lk_wp_cs (as := [.int x1]) (r := []) lk_i148_1 lk_M148 rfl rfl rfl rfl (Nat.le_of_ble_eq_true rfl) (lk_gi H (fun r2 h1 H => ?_))
  refine lk_wp_if_eq lk_i148_4 lk_M148 H (fun H => ?_) (fun H => ?_)
  · refine lk_wp_seg (lo' := [.ref a0, .int x1, .int x2, .retAddr 0]) (st' := [.int ((-1000001))]) lk_M148 lk_s148_19_1 rfl ?_
    exact lk_wp_ret lk_i148_21 lk_M148 rfl H
  · refine lk_wp_seg (lo' := [.ref a0, .int x1, .int x2, .retAddr 0]) (st' := [.long 5, .long 0, .long (x2.toInt64)]) lk_M148 lk_s148_7_4 rfl ?_
    refine lk_wp_cs (as := [.long (x2.toInt64), .long 0, .long 5]) (r := []) lk_i148_13 lk_M148 rfl rfl rfl rfl (Nat.le_of_ble_eq_true rfl) (lk_gi H (fun r4 h3 H => ?_))
    refine lk_wp_if_ne lk_i148_16 lk_M148 H (fun H => ?_) (fun H => ?_)
    · refine lk_wp_seg (lo' := [.ref a0, .int x1, .int x2, .retAddr 0]) (st' := [.int x2, .int x1, .ref a0]) lk_M148 lk_s148_22_3 rfl ?_
      refine lk_wp_cv (as := [.int x1, .int x2]) (r := []) (a := a0) lk_i148_25 lk_M148 rfl rfl rfl (Nat.le_of_ble_eq_true rfl) H (fun k12 H => lk_gi H (fun r6 h5 H => ?_))
      refine lk_wp_seg (lo' := [.ref a0, .int x1, .int x2, .int r6]) (st' := [.int r6]) lk_M148 lk_s148_28_2 rfl ?_
      refine lk_wp_if_eq lk_i148_30 lk_M148 H (fun H => ?_) (fun H => ?_)
      · refine lk_wp_seg (lo' := [.ref a0, .int x1, .int x2, .int r6]) (st' := [.ref a0, .ref a0]) lk_M148 lk_s148_37_2 rfl ?_
        refine lk_wp_fR lk_i148_39 lk_M148 H (fun r7 H => ?_)
        refine lk_wp_seg (lo' := [.ref a0, .int x1, .int x2, .int r6]) (st' := [.int x1, .ref r7, .ref a0]) lk_M148 lk_s148_42_1 rfl ?_
        refine lk_wp_ai lk_i148_43 lk_M148 H (fun r8 H => ?_)
        refine lk_wp_cv (as := [.int r8]) (r := []) (a := a0) lk_i148_44 lk_M148 rfl rfl rfl (Nat.le_of_ble_eq_true rfl) H (fun k11 H => lk_gi H (fun r10 h9 H => ?_))
        exact lk_wp_ret lk_i148_47 lk_M148 rfl H
      · refine lk_wp_seg (lo' := [.ref a0, .int x1, .int x2, .int r6]) (st' := [.int r6]) lk_M148 lk_s148_33_2 rfl ?_
        exact lk_wp_ret lk_i148_47 lk_M148 rfl H
    · refine lk_wp_seg (lo' := [.ref a0, .int x1, .int x2, .retAddr 0]) (st' := [.int ((-1000001))]) lk_M148 lk_s148_19_1 rfl ?_
      exact lk_wp_ret lk_i148_21 lk_M148 rfl H
/-! LonelyDotsModel.begins(I)V -/
theorem lk_M149 : lk_mt[149]? = some (yX12_begins, cX12_begins, 2, ((none))) := rfl
theorem lk_s149_0_1 : lk_seg 149 [(.aload_n 0, 1, (0, [], .null))] 0 = some 1 := by decide +kernel
theorem lk_i149_1 : lk_ins 149 1 = some (.getfield 154, 3, (9, [(11, 0)], .null)) := lk_eqE_eq (by decide +kernel)
theorem lk_s149_4_1 : lk_seg 149 [(.bipush 16, 2, (0, [], .int (16)))] 4 = some 6 := by decide +kernel
theorem lk_i149_6 : lk_ins 149 6 = some (.if_icmp .ge 23, 3, (29, [], .null)) := lk_eqE_eq (by decide +kernel)
theorem lk_i149_29 : lk_ins 149 29 = some (.return_, 1, (0, [], .null)) := lk_eqE_eq (by decide +kernel)
theorem lk_s149_9_1 : lk_seg 149 [(.aload_n 0, 1, (0, [], .null))] 9 = some 10 := by decide +kernel
theorem lk_i149_10 : lk_ins 149 10 = some (.getfield 31, 3, (8, [(11, 0)], .null)) := lk_eqE_eq (by decide +kernel)
theorem lk_s149_13_1 : lk_seg 149 [(.aload_n 0, 1, (0, [], .null))] 13 = some 14 := by decide +kernel
theorem lk_i149_14 : lk_ins 149 14 = some (.getfield 154, 3, (9, [(11, 0)], .null)) := lk_eqE_eq (by decide +kernel)
theorem lk_s149_17_1 : lk_seg 149 [(.iload_n 1, 1, (0, [], .null))] 17 = some 18 := by decide +kernel
theorem lk_i149_18 : lk_ins 149 18 = some (.iastore, 1, (0, [], .null)) := lk_eqE_eq (by decide +kernel)
theorem lk_s149_19_2 : lk_seg 149 [(.aload_n 0, 1, (0, [], .null)), (.dup, 1, (0, [], .null))] 19 = some 21 := by decide +kernel
theorem lk_i149_21 : lk_ins 149 21 = some (.getfield 154, 3, (9, [(11, 0)], .null)) := lk_eqE_eq (by decide +kernel)
theorem lk_s149_24_2 : lk_seg 149 [(.iconst 1, 1, (0, [], .int (1))), (.iadd, 1, (0, [], .null))] 24 = some 26 := by decide +kernel
theorem lk_i149_26 : lk_ins 149 26 = some (.putfield 154, 3, (9, [(11, 0)], .null)) := lk_eqE_eq (by decide +kernel)
set_option maxRecDepth 20000 in
theorem E_m_begins {X : lk_X} {d : Nat} {x1 : Int32} {a0 : Nat} {h : lk_H} {Q : Option Value → lk_H → Prop} (H : lk_fI h a0 9 [(11, 0)] (fun r1 => (16 ≤ r1 → Q none h) ∧ (¬ 16 ≤ r1 → lk_fR h a0 8 [(11, 0)] (fun r2 => lk_fI h a0 9 [(11, 0)] (fun r3 => lk_as h r2 r3 x1 (fun h4 => lk_fI h4 a0 9 [(11, 0)] (fun r5 => lk_pf h4 a0 9 [(11, 0)] (.int (r5 + 1)) (fun h6 => Q none h6)))))))) : lk_wx X (d + 1) 149 [.ref a0, .int x1] h Q := by
  refine lk_enter (lo := [.ref a0, .int x1]) lk_M149 rfl (Nat.le_of_ble_eq_true rfl) ?_
  refine lk_wp_seg (lo' := [.ref a0, .int x1]) (st' := [.ref a0]) lk_M149 lk_s149_0_1 rfl ?_
  refine lk_wp_fI lk_i149_1 lk_M149 H (fun r1 H => ?_)
  refine lk_wp_seg (lo' := [.ref a0, .int x1]) (st' := [.int 16, .int r1]) lk_M149 lk_s149_4_1 rfl ?_
  refine lk_wp_ic_ge lk_i149_6 lk_M149 H (fun H => ?_) (fun H => ?_)
  · exact lk_wp_ret lk_i149_29 lk_M149 rfl H
  · refine lk_wp_seg (lo' := [.ref a0, .int x1]) (st' := [.ref a0]) lk_M149 lk_s149_9_1 rfl ?_
    refine lk_wp_fR lk_i149_10 lk_M149 H (fun r2 H => ?_)
    refine lk_wp_seg (lo' := [.ref a0, .int x1]) (st' := [.ref a0, .ref r2]) lk_M149 lk_s149_13_1 rfl ?_
    refine lk_wp_fI lk_i149_14 lk_M149 H (fun r3 H => ?_)
    refine lk_wp_seg (lo' := [.ref a0, .int x1]) (st' := [.int x1, .int r3, .ref r2]) lk_M149 lk_s149_17_1 rfl ?_
    refine lk_wp_as lk_i149_18 lk_M149 H (fun h4 H => ?_)
    refine lk_wp_seg (lo' := [.ref a0, .int x1]) (st' := [.ref a0, .ref a0]) lk_M149 lk_s149_19_2 rfl ?_
    refine lk_wp_fI lk_i149_21 lk_M149 H (fun r5 H => ?_)
    refine lk_wp_seg (lo' := [.ref a0, .int x1]) (st' := [.int (r5 + 1), .ref a0]) lk_M149 lk_s149_24_2 rfl ?_
    refine lk_wp_pf lk_i149_26 lk_M149 H (fun h6 H => ?_)
    exact lk_wp_ret lk_i149_29 lk_M149 rfl H
/-! LonelyDotsModel.countMarks(I)I -/
theorem lk_M150 : lk_mt[150]? = some (yX12_countMarks, cX12_countMarks, 2, ((some FieldType.int))) := rfl
theorem lk_s150_0_2 : lk_seg 150 [(.aload_n 0, 1, (0, [], .null)), (.bipush 22, 2, (0, [], .int (22)))] 0 = some 3 := by decide +kernel
theorem lk_i150_3 : lk_ins 150 3 = some (.invokevirtual 157, 3, (1, [(11, 149)], .ref 101)) := lk_eqE_eq (by decide +kernel)
theorem lk_s150_6_1 : lk_seg 150 [(.aload_n 0, 1, (0, [], .null))] 6 = some 7 := by decide +kernel
theorem lk_i150_7 : lk_ins 150 7 = some (.getfield 25, 3, (5, [(11, 0)], .null)) := lk_eqE_eq (by decide +kernel)
theorem lk_s150_10_1 : lk_seg 150 [(.iload_n 1, 1, (0, [], .null))] 10 = some 11 := by decide +kernel
theorem lk_i150_11 : lk_ins 150 11 = some (.iaload, 1, (0, [], .null)) := lk_eqE_eq (by decide +kernel)
theorem lk_i150_12 : lk_ins 150 12 = some (.ireturn, 1, (0, [], .null)) := lk_eqE_eq (by decide +kernel)
set_option maxRecDepth 20000 in
theorem E_m_countMarks {X : lk_X} {d : Nat} {x1 : Int32} {a0 : Nat} {h : lk_H} {Q : Option Value → lk_H → Prop} (H : lk_vc h a0 [(11, 149)] (fun k4 => lk_wxv X d k4 [.ref a0, .int 22] h (fun h1 => lk_fR h1 a0 5 [(11, 0)] (fun r2 => lk_ai h1 r2 x1 (fun r3 => Q (some (.int r3)) h1))))) : lk_wx X (d + 1) 150 [.ref a0, .int x1] h Q := by
  refine lk_enter (lo := [.ref a0, .int x1]) lk_M150 rfl (Nat.le_of_ble_eq_true rfl) ?_
  refine lk_wp_seg (lo' := [.ref a0, .int x1]) (st' := [.int 22, .ref a0]) lk_M150 lk_s150_0_2 rfl ?_
  refine lk_wp_cv (as := [.int 22]) (r := []) (a := a0) lk_i150_3 lk_M150 rfl rfl rfl (Nat.le_of_ble_eq_true rfl) H (fun k4 H => lk_gv H (fun h1 H => ?_))
  refine lk_wp_seg (lo' := [.ref a0, .int x1]) (st' := [.ref a0]) lk_M150 lk_s150_6_1 rfl ?_
  refine lk_wp_fR lk_i150_7 lk_M150 H (fun r2 H => ?_)
  refine lk_wp_seg (lo' := [.ref a0, .int x1]) (st' := [.int x1, .ref r2]) lk_M150 lk_s150_10_1 rfl ?_
  refine lk_wp_ai lk_i150_11 lk_M150 H (fun r3 H => ?_)
  exact lk_wp_ret lk_i150_12 lk_M150 rfl H
/-! LonelyDotsModel.sizeOf(I)I -/
theorem lk_M151 : lk_mt[151]? = some (yX12_sizeOf, cX12_sizeOf, 4, ((some FieldType.int))) := rfl
theorem lk_s151_0_1 : lk_seg 151 [(.aload_n 0, 1, (0, [], .null))] 0 = some 1 := by decide +kernel
theorem lk_i151_1 : lk_ins 151 1 = some (.getfield 22, 3, (4, [(11, 0)], .null)) := lk_eqE_eq (by decide +kernel)
theorem lk_s151_4_1 : lk_seg 151 [(.iload_n 1, 1, (0, [], .null))] 4 = some 5 := by decide +kernel
theorem lk_i151_5 : lk_ins 151 5 = some (.iaload, 1, (0, [], .null)) := lk_eqE_eq (by decide +kernel)
theorem lk_s151_6_3 : lk_seg 151 [(.istore_n 2, 1, (0, [], .null)), (.iload_n 2, 1, (0, [], .null)), (.iconst 3, 1, (0, [], .int (3)))] 6 = some 9 := by decide +kernel
theorem lk_i151_9 : lk_ins 151 9 = some (.if_icmp .ge 16, 3, (25, [], .null)) := lk_eqE_eq (by decide +kernel)
theorem lk_s151_25_2 : lk_seg 151 [(.iload_n 2, 1, (0, [], .null)), (.iconst 5, 1, (0, [], .int (5)))] 25 = some 27 := by decide +kernel
theorem lk_i151_27 : lk_ins 151 27 = some (.if_icmp .ne 9, 3, (36, [], .null)) := lk_eqE_eq (by decide +kernel)
theorem lk_s151_36_2 : lk_seg 151 [(.iload_n 2, 1, (0, [], .null)), (.iconst 3, 1, (0, [], .int (3)))] 36 = some 38 := by decide +kernel
theorem lk_i151_38 : lk_ins 151 38 = some (.if_icmp .le 9, 3, (47, [], .null)) := lk_eqE_eq (by decide +kernel)
theorem lk_s151_47_2 : lk_seg 151 [(.aload_n 0, 1, (0, [], .null)), (.bipush 12, 2, (0, [], .int (12)))] 47 = some 50 := by decide +kernel
theorem lk_i151_50 : lk_ins 151 50 = some (.invokevirtual 157, 3, (1, [(11, 149)], .ref 101)) := lk_eqE_eq (by decide +kernel)
theorem lk_s151_53_2 : lk_seg 151 [(.aload_n 0, 1, (0, [], .null)), (.bipush 10, 2, (0, [], .int (10)))] 53 = some 56 := by decide +kernel
theorem lk_i151_56 : lk_ins 151 56 = some (.invokevirtual 157, 3, (1, [(11, 149)], .ref 101)) := lk_eqE_eq (by decide +kernel)
theorem lk_s151_59_4 : lk_seg 151 [(.iconst 1, 1, (0, [], .int (1))), (.aload_n 0, 1, (0, [], .null)), (.iload_n 1, 1, (0, [], .null)), (.aload_n 0, 1, (0, [], .null))] 59 = some 63 := by decide +kernel
theorem lk_i151_63 : lk_ins 151 63 = some (.getfield 25, 3, (5, [(11, 0)], .null)) := lk_eqE_eq (by decide +kernel)
theorem lk_s151_66_1 : lk_seg 151 [(.iload_n 1, 1, (0, [], .null))] 66 = some 67 := by decide +kernel
theorem lk_i151_67 : lk_ins 151 67 = some (.iaload, 1, (0, [], .null)) := lk_eqE_eq (by decide +kernel)
theorem lk_s151_68_2 : lk_seg 151 [(.iconst 1, 1, (0, [], .int (1))), (.isub, 1, (0, [], .null))] 68 = some 70 := by decide +kernel
theorem lk_i151_70 : lk_ins 151 70 = some (.invokevirtual 80, 3, (1, [(11, 122)], .ref 84)) := lk_eqE_eq (by decide +kernel)
theorem lk_s151_73_4 : lk_seg 151 [(.iadd, 1, (0, [], .null)), (.istore_n 3, 1, (0, [], .null)), (.iload_n 2, 1, (0, [], .null)), (.iconst 3, 1, (0, [], .int (3)))] 73 = some 77 := by decide +kernel
theorem lk_i151_77 : lk_ins 151 77 = some (.if_icmp .le 9, 3, (86, [], .null)) := lk_eqE_eq (by decide +kernel)
theorem lk_s151_86_4 : lk_seg 151 [(.iload_n 3, 1, (0, [], .null)), (.istore_n 3, 1, (0, [], .null)), (.iload_n 2, 1, (0, [], .null)), (.iconst 5, 1, (0, [], .int (5)))] 86 = some 90 := by decide +kernel
theorem lk_i151_90 : lk_ins 151 90 = some (.if_icmp .ne 13, 3, (103, [], .null)) := lk_eqE_eq (by decide +kernel)
theorem lk_s151_103_1 : lk_seg 151 [(.iload_n 3, 1, (0, [], .null))] 103 = some 104 := by decide +kernel
theorem lk_i151_104 : lk_ins 151 104 = some (.ireturn, 1, (0, [], .null)) := lk_eqE_eq (by decide +kernel)
theorem lk_s151_93_3 : lk_seg 151 [(.iload_n 3, 1, (0, [], .null)), (.aload_n 0, 1, (0, [], .null)), (.iload_n 1, 1, (0, [], .null))] 93 = some 96 := by decide +kernel
theorem lk_i151_96 : lk_ins 151 96 = some (.invokevirtual 160, 3, (1, [(11, 150)], .ref 102)) := lk_eqE_eq (by decide +kernel)
theorem lk_s151_99_2 : lk_seg 151 [(.iadd, 1, (0, [], .null)), (.goto 4, 3, (104, [], .null))] 99 = some 104 := by decide +kernel
theorem lk_s151_80_4 : lk_seg 151 [(.iconst 2, 1, (0, [], .int (2))), (.iload_n 3, 1, (0, [], .null)), (.imul, 1, (0, [], .null)), (.goto 4, 3, (87, [], .null))] 80 = some 87 := by decide +kernel
theorem lk_s151_87_3 : lk_seg 151 [(.istore_n 3, 1, (0, [], .null)), (.iload_n 2, 1, (0, [], .null)), (.iconst 5, 1, (0, [], .int (5)))] 87 = some 90 := by decide +kernel
theorem lk_s151_41_2 : lk_seg 151 [(.aload_n 0, 1, (0, [], .null)), (.bipush 13, 2, (0, [], .int (13)))] 41 = some 44 := by decide +kernel
theorem lk_i151_44 : lk_ins 151 44 = some (.invokevirtual 157, 3, (1, [(11, 149)], .ref 101)) := lk_eqE_eq (by decide +kernel)
theorem lk_s151_30_2 : lk_seg 151 [(.aload_n 0, 1, (0, [], .null)), (.bipush 14, 2, (0, [], .int (14)))] 30 = some 33 := by decide +kernel
theorem lk_i151_33 : lk_ins 151 33 = some (.invokevirtual 157, 3, (1, [(11, 149)], .ref 101)) := lk_eqE_eq (by decide +kernel)
theorem lk_s151_12_2 : lk_seg 151 [(.aload_n 0, 1, (0, [], .null)), (.bipush 11, 2, (0, [], .int (11)))] 12 = some 15 := by decide +kernel
theorem lk_i151_15 : lk_ins 151 15 = some (.invokevirtual 157, 3, (1, [(11, 149)], .ref 101)) := lk_eqE_eq (by decide +kernel)
theorem lk_s151_18_1 : lk_seg 151 [(.aload_n 0, 1, (0, [], .null))] 18 = some 19 := by decide +kernel
theorem lk_i151_19 : lk_ins 151 19 = some (.getfield 25, 3, (5, [(11, 0)], .null)) := lk_eqE_eq (by decide +kernel)
theorem lk_s151_22_1 : lk_seg 151 [(.iload_n 1, 1, (0, [], .null))] 22 = some 23 := by decide +kernel
theorem lk_i151_23 : lk_ins 151 23 = some (.iaload, 1, (0, [], .null)) := lk_eqE_eq (by decide +kernel)
theorem lk_i151_24 : lk_ins 151 24 = some (.ireturn, 1, (0, [], .null)) := lk_eqE_eq (by decide +kernel)
set_option maxRecDepth 20000 in
theorem E_m_sizeOf {X : lk_X} {d : Nat} {x1 : Int32} {a0 : Nat} {h : lk_H} {Q : Option Value → lk_H → Prop} (H : lk_fR h a0 4 [(11, 0)] (fun r1 => lk_ai h r1 x1 (fun r2 => (3 ≤ r2 → (¬ r2 = 5 → (r2 ≤ 3 → lk_vc h a0 [(11, 149)] (fun k17 => lk_wxv X d k17 [.ref a0, .int 12] h (fun h3 => lk_vc h3 a0 [(11, 149)] (fun k16 => lk_wxv X d k16 [.ref a0, .int 10] h3 (fun h4 => lk_fR h4 a0 5 [(11, 0)] (fun r5 => lk_ai h4 r5 x1 (fun r6 => lk_vc h4 a0 [(11, 122)] (fun k15 => lk_wxi X d k15 [.ref a0, .int x1, .int (r6 - 1)] h4 (fun r8 h7 => (r2 ≤ 3 → (¬ r2 = 5 → Q (some (.int (1 + r8))) h7) ∧ (r2 = 5 → lk_vc h7 a0 [(11, 150)] (fun k11 => lk_wxi X d k11 [.ref a0, .int x1] h7 (fun r10 h9 => Q (some (.int ((1 + r8) + r10))) h9)))) ∧ (¬ r2 ≤ 3 → (¬ r2 = 5 → Q (some (.int (2 * (1 + r8)))) h7) ∧ (r2 = 5 → lk_vc h7 a0 [(11, 150)] (fun k14 => lk_wxi X d k14 [.ref a0, .int x1] h7 (fun r13 h12 => Q (some (.int ((2 * (1 + r8)) + r13))) h12))))))))))))) ∧ (¬ r2 ≤ 3 → lk_vc h a0 [(11, 149)] (fun k34 => lk_wxv X d k34 [.ref a0, .int 13] h (fun h18 => lk_vc h18 a0 [(11, 149)] (fun k33 => lk_wxv X d k33 [.ref a0, .int 12] h18 (fun h19 => lk_vc h19 a0 [(11, 149)] (fun k32 => lk_wxv X d k32 [.ref a0, .int 10] h19 (fun h20 => lk_fR h20 a0 5 [(11, 0)] (fun r21 => lk_ai h20 r21 x1 (fun r22 => lk_vc h20 a0 [(11, 122)] (fun k31 => lk_wxi X d k31 [.ref a0, .int x1, .int (r22 - 1)] h20 (fun r24 h23 => (r2 ≤ 3 → (¬ r2 = 5 → Q (some (.int (1 + r24))) h23) ∧ (r2 = 5 → lk_vc h23 a0 [(11, 150)] (fun k27 => lk_wxi X d k27 [.ref a0, .int x1] h23 (fun r26 h25 => Q (some (.int ((1 + r24) + r26))) h25)))) ∧ (¬ r2 ≤ 3 → (¬ r2 = 5 → Q (some (.int (2 * (1 + r24)))) h23) ∧ (r2 = 5 → lk_vc h23 a0 [(11, 150)] (fun k30 => lk_wxi X d k30 [.ref a0, .int x1] h23 (fun r29 h28 => Q (some (.int ((2 * (1 + r24)) + r29))) h28)))))))))))))))) ∧ (r2 = 5 → lk_vc h a0 [(11, 149)] (fun k68 => lk_wxv X d k68 [.ref a0, .int 14] h (fun h35 => (r2 ≤ 3 → lk_vc h35 a0 [(11, 149)] (fun k50 => lk_wxv X d k50 [.ref a0, .int 12] h35 (fun h36 => lk_vc h36 a0 [(11, 149)] (fun k49 => lk_wxv X d k49 [.ref a0, .int 10] h36 (fun h37 => lk_fR h37 a0 5 [(11, 0)] (fun r38 => lk_ai h37 r38 x1 (fun r39 => lk_vc h37 a0 [(11, 122)] (fun k48 => lk_wxi X d k48 [.ref a0, .int x1, .int (r39 - 1)] h37 (fun r41 h40 => (r2 ≤ 3 → (¬ r2 = 5 → Q (some (.int (1 + r41))) h40) ∧ (r2 = 5 → lk_vc h40 a0 [(11, 150)] (fun k44 => lk_wxi X d k44 [.ref a0, .int x1] h40 (fun r43 h42 => Q (some (.int ((1 + r41) + r43))) h42)))) ∧ (¬ r2 ≤ 3 → (¬ r2 = 5 → Q (some (.int (2 * (1 + r41)))) h40) ∧ (r2 = 5 → lk_vc h40 a0 [(11, 150)] (fun k47 => lk_wxi X d k47 [.ref a0, .int x1] h40 (fun r46 h45 => Q (some (.int ((2 * (1 + r41)) + r46))) h45))))))))))))) ∧ (¬ r2 ≤ 3 → lk_vc h35 a0 [(11, 149)] (fun k67 => lk_wxv X d k67 [.ref a0, .int 13] h35 (fun h51 => lk_vc h51 a0 [(11, 149)] (fun k66 => lk_wxv X d k66 [.ref a0, .int 12] h51 (fun h52 => lk_vc h52 a0 [(11, 149)] (fun k65 => lk_wxv X d k65 [.ref a0, .int 10] h52 (fun h53 => lk_fR h53 a0 5 [(11, 0)] (fun r54 => lk_ai h53 r54 x1 (fun r55 => lk_vc h53 a0 [(11, 122)] (fun k64 => lk_wxi X d k64 [.ref a0, .int x1, .int (r55 - 1)] h53 (fun r57 h56 => (r2 ≤ 3 → (¬ r2 = 5 → Q (some (.int (1 + r57))) h56) ∧ (r2 = 5 → lk_vc h56 a0 [(11, 150)] (fun k60 => lk_wxi X d k60 [.ref a0, .int x1] h56 (fun r59 h58 => Q (some (.int ((1 + r57) + r59))) h58)))) ∧ (¬ r2 ≤ 3 → (¬ r2 = 5 → Q (some (.int (2 * (1 + r57)))) h56) ∧ (r2 = 5 → lk_vc h56 a0 [(11, 150)] (fun k63 => lk_wxi X d k63 [.ref a0, .int x1] h56 (fun r62 h61 => Q (some (.int ((2 * (1 + r57)) + r62))) h61))))))))))))))))))) ∧ (¬ 3 ≤ r2 → lk_vc h a0 [(11, 149)] (fun k72 => lk_wxv X d k72 [.ref a0, .int 11] h (fun h69 => lk_fR h69 a0 5 [(11, 0)] (fun r70 => lk_ai h69 r70 x1 (fun r71 => Q (some (.int r71)) h69)))))))) : lk_wx X (d + 1) 151 [.ref a0, .int x1] h Q := by
  refine lk_enter (lo := [.ref a0, .int x1, .retAddr 0, .retAddr 0]) lk_M151 rfl (Nat.le_of_ble_eq_true rfl) ?_
  refine lk_wp_seg (lo' := [.ref a0, .int x1, .retAddr 0, .retAddr 0]) (st' := [.ref a0]) lk_M151 lk_s151_0_1 rfl ?_
  refine lk_wp_fR lk_i151_1 lk_M151 H (fun r1 H => ?_)
  refine lk_wp_seg (lo' := [.ref a0, .int x1, .retAddr 0, .retAddr 0]) (st' := [.int x1, .ref r1]) lk_M151 lk_s151_4_1 rfl ?_
  refine lk_wp_ai lk_i151_5 lk_M151 H (fun r2 H => ?_)
  refine lk_wp_seg (lo' := [.ref a0, .int x1, .int r2, .retAddr 0]) (st' := [.int 3, .int r2]) lk_M151 lk_s151_6_3 rfl ?_
  refine lk_wp_ic_ge lk_i151_9 lk_M151 H (fun H => ?_) (fun H => ?_)
  · refine lk_wp_seg (lo' := [.ref a0, .int x1, .int r2, .retAddr 0]) (st' := [.int 5, .int r2]) lk_M151 lk_s151_25_2 rfl ?_
    refine lk_wp_ic_ne lk_i151_27 lk_M151 H (fun H => ?_) (fun H => ?_)
    · refine lk_wp_seg (lo' := [.ref a0, .int x1, .int r2, .retAddr 0]) (st' := [.int 3, .int r2]) lk_M151 lk_s151_36_2 rfl ?_
      refine lk_wp_ic_le lk_i151_38 lk_M151 H (fun H => ?_) (fun H => ?_)
      · refine lk_wp_seg (lo' := [.ref a0, .int x1, .int r2, .retAddr 0]) (st' := [.int 12, .ref a0]) lk_M151 lk_s151_47_2 rfl ?_
        refine lk_wp_cv (as := [.int 12]) (r := []) (a := a0) lk_i151_50 lk_M151 rfl rfl rfl (Nat.le_of_ble_eq_true rfl) H (fun k17 H => lk_gv H (fun h3 H => ?_))
        refine lk_wp_seg (lo' := [.ref a0, .int x1, .int r2, .retAddr 0]) (st' := [.int 10, .ref a0]) lk_M151 lk_s151_53_2 rfl ?_
        refine lk_wp_cv (as := [.int 10]) (r := []) (a := a0) lk_i151_56 lk_M151 rfl rfl rfl (Nat.le_of_ble_eq_true rfl) H (fun k16 H => lk_gv H (fun h4 H => ?_))
        refine lk_wp_seg (lo' := [.ref a0, .int x1, .int r2, .retAddr 0]) (st' := [.ref a0, .int x1, .ref a0, .int 1]) lk_M151 lk_s151_59_4 rfl ?_
        refine lk_wp_fR lk_i151_63 lk_M151 H (fun r5 H => ?_)
        refine lk_wp_seg (lo' := [.ref a0, .int x1, .int r2, .retAddr 0]) (st' := [.int x1, .ref r5, .int x1, .ref a0, .int 1]) lk_M151 lk_s151_66_1 rfl ?_
        refine lk_wp_ai lk_i151_67 lk_M151 H (fun r6 H => ?_)
        refine lk_wp_seg (lo' := [.ref a0, .int x1, .int r2, .retAddr 0]) (st' := [.int (r6 - 1), .int x1, .ref a0, .int 1]) lk_M151 lk_s151_68_2 rfl ?_
        refine lk_wp_cv (as := [.int x1, .int (r6 - 1)]) (r := [.int 1]) (a := a0) lk_i151_70 lk_M151 rfl rfl rfl (Nat.le_of_ble_eq_true rfl) H (fun k15 H => lk_gi H (fun r8 h7 H => ?_))
        refine lk_wp_seg (lo' := [.ref a0, .int x1, .int r2, .int (1 + r8)]) (st' := [.int 3, .int r2]) lk_M151 lk_s151_73_4 rfl ?_
        refine lk_wp_ic_le lk_i151_77 lk_M151 H (fun H => ?_) (fun H => ?_)
        · refine lk_wp_seg (lo' := [.ref a0, .int x1, .int r2, .int (1 + r8)]) (st' := [.int 5, .int r2]) lk_M151 lk_s151_86_4 rfl ?_
          refine lk_wp_ic_ne lk_i151_90 lk_M151 H (fun H => ?_) (fun H => ?_)
          · refine lk_wp_seg (lo' := [.ref a0, .int x1, .int r2, .int (1 + r8)]) (st' := [.int (1 + r8)]) lk_M151 lk_s151_103_1 rfl ?_
            exact lk_wp_ret lk_i151_104 lk_M151 rfl H
          · refine lk_wp_seg (lo' := [.ref a0, .int x1, .int r2, .int (1 + r8)]) (st' := [.int x1, .ref a0, .int (1 + r8)]) lk_M151 lk_s151_93_3 rfl ?_
            refine lk_wp_cv (as := [.int x1]) (r := [.int (1 + r8)]) (a := a0) lk_i151_96 lk_M151 rfl rfl rfl (Nat.le_of_ble_eq_true rfl) H (fun k11 H => lk_gi H (fun r10 h9 H => ?_))
            refine lk_wp_seg (lo' := [.ref a0, .int x1, .int r2, .int (1 + r8)]) (st' := [.int ((1 + r8) + r10)]) lk_M151 lk_s151_99_2 rfl ?_
            exact lk_wp_ret lk_i151_104 lk_M151 rfl H
        · refine lk_wp_seg (lo' := [.ref a0, .int x1, .int r2, .int (1 + r8)]) (st' := [.int (2 * (1 + r8))]) lk_M151 lk_s151_80_4 rfl ?_
          refine lk_wp_seg (lo' := [.ref a0, .int x1, .int r2, .int (2 * (1 + r8))]) (st' := [.int 5, .int r2]) lk_M151 lk_s151_87_3 rfl ?_
          refine lk_wp_ic_ne lk_i151_90 lk_M151 H (fun H => ?_) (fun H => ?_)
          · refine lk_wp_seg (lo' := [.ref a0, .int x1, .int r2, .int (2 * (1 + r8))]) (st' := [.int (2 * (1 + r8))]) lk_M151 lk_s151_103_1 rfl ?_
            exact lk_wp_ret lk_i151_104 lk_M151 rfl H
          · refine lk_wp_seg (lo' := [.ref a0, .int x1, .int r2, .int (2 * (1 + r8))]) (st' := [.int x1, .ref a0, .int (2 * (1 + r8))]) lk_M151 lk_s151_93_3 rfl ?_
            refine lk_wp_cv (as := [.int x1]) (r := [.int (2 * (1 + r8))]) (a := a0) lk_i151_96 lk_M151 rfl rfl rfl (Nat.le_of_ble_eq_true rfl) H (fun k14 H => lk_gi H (fun r13 h12 H => ?_))
            refine lk_wp_seg (lo' := [.ref a0, .int x1, .int r2, .int (2 * (1 + r8))]) (st' := [.int ((2 * (1 + r8)) + r13)]) lk_M151 lk_s151_99_2 rfl ?_
            exact lk_wp_ret lk_i151_104 lk_M151 rfl H
      · refine lk_wp_seg (lo' := [.ref a0, .int x1, .int r2, .retAddr 0]) (st' := [.int 13, .ref a0]) lk_M151 lk_s151_41_2 rfl ?_
        refine lk_wp_cv (as := [.int 13]) (r := []) (a := a0) lk_i151_44 lk_M151 rfl rfl rfl (Nat.le_of_ble_eq_true rfl) H (fun k34 H => lk_gv H (fun h18 H => ?_))
        refine lk_wp_seg (lo' := [.ref a0, .int x1, .int r2, .retAddr 0]) (st' := [.int 12, .ref a0]) lk_M151 lk_s151_47_2 rfl ?_
        refine lk_wp_cv (as := [.int 12]) (r := []) (a := a0) lk_i151_50 lk_M151 rfl rfl rfl (Nat.le_of_ble_eq_true rfl) H (fun k33 H => lk_gv H (fun h19 H => ?_))
        refine lk_wp_seg (lo' := [.ref a0, .int x1, .int r2, .retAddr 0]) (st' := [.int 10, .ref a0]) lk_M151 lk_s151_53_2 rfl ?_
        refine lk_wp_cv (as := [.int 10]) (r := []) (a := a0) lk_i151_56 lk_M151 rfl rfl rfl (Nat.le_of_ble_eq_true rfl) H (fun k32 H => lk_gv H (fun h20 H => ?_))
        refine lk_wp_seg (lo' := [.ref a0, .int x1, .int r2, .retAddr 0]) (st' := [.ref a0, .int x1, .ref a0, .int 1]) lk_M151 lk_s151_59_4 rfl ?_
        refine lk_wp_fR lk_i151_63 lk_M151 H (fun r21 H => ?_)
        refine lk_wp_seg (lo' := [.ref a0, .int x1, .int r2, .retAddr 0]) (st' := [.int x1, .ref r21, .int x1, .ref a0, .int 1]) lk_M151 lk_s151_66_1 rfl ?_
        refine lk_wp_ai lk_i151_67 lk_M151 H (fun r22 H => ?_)
        refine lk_wp_seg (lo' := [.ref a0, .int x1, .int r2, .retAddr 0]) (st' := [.int (r22 - 1), .int x1, .ref a0, .int 1]) lk_M151 lk_s151_68_2 rfl ?_
        refine lk_wp_cv (as := [.int x1, .int (r22 - 1)]) (r := [.int 1]) (a := a0) lk_i151_70 lk_M151 rfl rfl rfl (Nat.le_of_ble_eq_true rfl) H (fun k31 H => lk_gi H (fun r24 h23 H => ?_))
        refine lk_wp_seg (lo' := [.ref a0, .int x1, .int r2, .int (1 + r24)]) (st' := [.int 3, .int r2]) lk_M151 lk_s151_73_4 rfl ?_
        refine lk_wp_ic_le lk_i151_77 lk_M151 H (fun H => ?_) (fun H => ?_)
        · refine lk_wp_seg (lo' := [.ref a0, .int x1, .int r2, .int (1 + r24)]) (st' := [.int 5, .int r2]) lk_M151 lk_s151_86_4 rfl ?_
          refine lk_wp_ic_ne lk_i151_90 lk_M151 H (fun H => ?_) (fun H => ?_)
          · refine lk_wp_seg (lo' := [.ref a0, .int x1, .int r2, .int (1 + r24)]) (st' := [.int (1 + r24)]) lk_M151 lk_s151_103_1 rfl ?_
            exact lk_wp_ret lk_i151_104 lk_M151 rfl H
          · refine lk_wp_seg (lo' := [.ref a0, .int x1, .int r2, .int (1 + r24)]) (st' := [.int x1, .ref a0, .int (1 + r24)]) lk_M151 lk_s151_93_3 rfl ?_
            refine lk_wp_cv (as := [.int x1]) (r := [.int (1 + r24)]) (a := a0) lk_i151_96 lk_M151 rfl rfl rfl (Nat.le_of_ble_eq_true rfl) H (fun k27 H => lk_gi H (fun r26 h25 H => ?_))
            refine lk_wp_seg (lo' := [.ref a0, .int x1, .int r2, .int (1 + r24)]) (st' := [.int ((1 + r24) + r26)]) lk_M151 lk_s151_99_2 rfl ?_
            exact lk_wp_ret lk_i151_104 lk_M151 rfl H
        · refine lk_wp_seg (lo' := [.ref a0, .int x1, .int r2, .int (1 + r24)]) (st' := [.int (2 * (1 + r24))]) lk_M151 lk_s151_80_4 rfl ?_
          refine lk_wp_seg (lo' := [.ref a0, .int x1, .int r2, .int (2 * (1 + r24))]) (st' := [.int 5, .int r2]) lk_M151 lk_s151_87_3 rfl ?_
          refine lk_wp_ic_ne lk_i151_90 lk_M151 H (fun H => ?_) (fun H => ?_)
          · refine lk_wp_seg (lo' := [.ref a0, .int x1, .int r2, .int (2 * (1 + r24))]) (st' := [.int (2 * (1 + r24))]) lk_M151 lk_s151_103_1 rfl ?_
            exact lk_wp_ret lk_i151_104 lk_M151 rfl H
          · refine lk_wp_seg (lo' := [.ref a0, .int x1, .int r2, .int (2 * (1 + r24))]) (st' := [.int x1, .ref a0, .int (2 * (1 + r24))]) lk_M151 lk_s151_93_3 rfl ?_
            refine lk_wp_cv (as := [.int x1]) (r := [.int (2 * (1 + r24))]) (a := a0) lk_i151_96 lk_M151 rfl rfl rfl (Nat.le_of_ble_eq_true rfl) H (fun k30 H => lk_gi H (fun r29 h28 H => ?_))
            refine lk_wp_seg (lo' := [.ref a0, .int x1, .int r2, .int (2 * (1 + r24))]) (st' := [.int ((2 * (1 + r24)) + r29)]) lk_M151 lk_s151_99_2 rfl ?_
            exact lk_wp_ret lk_i151_104 lk_M151 rfl H
    · refine lk_wp_seg (lo' := [.ref a0, .int x1, .int r2, .retAddr 0]) (st' := [.int 14, .ref a0]) lk_M151 lk_s151_30_2 rfl ?_
      refine lk_wp_cv (as := [.int 14]) (r := []) (a := a0) lk_i151_33 lk_M151 rfl rfl rfl (Nat.le_of_ble_eq_true rfl) H (fun k68 H => lk_gv H (fun h35 H => ?_))
      refine lk_wp_seg (lo' := [.ref a0, .int x1, .int r2, .retAddr 0]) (st' := [.int 3, .int r2]) lk_M151 lk_s151_36_2 rfl ?_
      refine lk_wp_ic_le lk_i151_38 lk_M151 H (fun H => ?_) (fun H => ?_)
      · refine lk_wp_seg (lo' := [.ref a0, .int x1, .int r2, .retAddr 0]) (st' := [.int 12, .ref a0]) lk_M151 lk_s151_47_2 rfl ?_
        refine lk_wp_cv (as := [.int 12]) (r := []) (a := a0) lk_i151_50 lk_M151 rfl rfl rfl (Nat.le_of_ble_eq_true rfl) H (fun k50 H => lk_gv H (fun h36 H => ?_))
        refine lk_wp_seg (lo' := [.ref a0, .int x1, .int r2, .retAddr 0]) (st' := [.int 10, .ref a0]) lk_M151 lk_s151_53_2 rfl ?_
        refine lk_wp_cv (as := [.int 10]) (r := []) (a := a0) lk_i151_56 lk_M151 rfl rfl rfl (Nat.le_of_ble_eq_true rfl) H (fun k49 H => lk_gv H (fun h37 H => ?_))
        refine lk_wp_seg (lo' := [.ref a0, .int x1, .int r2, .retAddr 0]) (st' := [.ref a0, .int x1, .ref a0, .int 1]) lk_M151 lk_s151_59_4 rfl ?_
        refine lk_wp_fR lk_i151_63 lk_M151 H (fun r38 H => ?_)
        refine lk_wp_seg (lo' := [.ref a0, .int x1, .int r2, .retAddr 0]) (st' := [.int x1, .ref r38, .int x1, .ref a0, .int 1]) lk_M151 lk_s151_66_1 rfl ?_
        refine lk_wp_ai lk_i151_67 lk_M151 H (fun r39 H => ?_)
        refine lk_wp_seg (lo' := [.ref a0, .int x1, .int r2, .retAddr 0]) (st' := [.int (r39 - 1), .int x1, .ref a0, .int 1]) lk_M151 lk_s151_68_2 rfl ?_
        refine lk_wp_cv (as := [.int x1, .int (r39 - 1)]) (r := [.int 1]) (a := a0) lk_i151_70 lk_M151 rfl rfl rfl (Nat.le_of_ble_eq_true rfl) H (fun k48 H => lk_gi H (fun r41 h40 H => ?_))
        refine lk_wp_seg (lo' := [.ref a0, .int x1, .int r2, .int (1 + r41)]) (st' := [.int 3, .int r2]) lk_M151 lk_s151_73_4 rfl ?_
        refine lk_wp_ic_le lk_i151_77 lk_M151 H (fun H => ?_) (fun H => ?_)
        · refine lk_wp_seg (lo' := [.ref a0, .int x1, .int r2, .int (1 + r41)]) (st' := [.int 5, .int r2]) lk_M151 lk_s151_86_4 rfl ?_
          refine lk_wp_ic_ne lk_i151_90 lk_M151 H (fun H => ?_) (fun H => ?_)
          · refine lk_wp_seg (lo' := [.ref a0, .int x1, .int r2, .int (1 + r41)]) (st' := [.int (1 + r41)]) lk_M151 lk_s151_103_1 rfl ?_
            exact lk_wp_ret lk_i151_104 lk_M151 rfl H
          · refine lk_wp_seg (lo' := [.ref a0, .int x1, .int r2, .int (1 + r41)]) (st' := [.int x1, .ref a0, .int (1 + r41)]) lk_M151 lk_s151_93_3 rfl ?_
            refine lk_wp_cv (as := [.int x1]) (r := [.int (1 + r41)]) (a := a0) lk_i151_96 lk_M151 rfl rfl rfl (Nat.le_of_ble_eq_true rfl) H (fun k44 H => lk_gi H (fun r43 h42 H => ?_))
            refine lk_wp_seg (lo' := [.ref a0, .int x1, .int r2, .int (1 + r41)]) (st' := [.int ((1 + r41) + r43)]) lk_M151 lk_s151_99_2 rfl ?_
            exact lk_wp_ret lk_i151_104 lk_M151 rfl H
        · refine lk_wp_seg (lo' := [.ref a0, .int x1, .int r2, .int (1 + r41)]) (st' := [.int (2 * (1 + r41))]) lk_M151 lk_s151_80_4 rfl ?_
          refine lk_wp_seg (lo' := [.ref a0, .int x1, .int r2, .int (2 * (1 + r41))]) (st' := [.int 5, .int r2]) lk_M151 lk_s151_87_3 rfl ?_
          refine lk_wp_ic_ne lk_i151_90 lk_M151 H (fun H => ?_) (fun H => ?_)
          · refine lk_wp_seg (lo' := [.ref a0, .int x1, .int r2, .int (2 * (1 + r41))]) (st' := [.int (2 * (1 + r41))]) lk_M151 lk_s151_103_1 rfl ?_
            exact lk_wp_ret lk_i151_104 lk_M151 rfl H
          · refine lk_wp_seg (lo' := [.ref a0, .int x1, .int r2, .int (2 * (1 + r41))]) (st' := [.int x1, .ref a0, .int (2 * (1 + r41))]) lk_M151 lk_s151_93_3 rfl ?_
            refine lk_wp_cv (as := [.int x1]) (r := [.int (2 * (1 + r41))]) (a := a0) lk_i151_96 lk_M151 rfl rfl rfl (Nat.le_of_ble_eq_true rfl) H (fun k47 H => lk_gi H (fun r46 h45 H => ?_))
            refine lk_wp_seg (lo' := [.ref a0, .int x1, .int r2, .int (2 * (1 + r41))]) (st' := [.int ((2 * (1 + r41)) + r46)]) lk_M151 lk_s151_99_2 rfl ?_
            exact lk_wp_ret lk_i151_104 lk_M151 rfl H
      · refine lk_wp_seg (lo' := [.ref a0, .int x1, .int r2, .retAddr 0]) (st' := [.int 13, .ref a0]) lk_M151 lk_s151_41_2 rfl ?_
        refine lk_wp_cv (as := [.int 13]) (r := []) (a := a0) lk_i151_44 lk_M151 rfl rfl rfl (Nat.le_of_ble_eq_true rfl) H (fun k67 H => lk_gv H (fun h51 H => ?_))
        refine lk_wp_seg (lo' := [.ref a0, .int x1, .int r2, .retAddr 0]) (st' := [.int 12, .ref a0]) lk_M151 lk_s151_47_2 rfl ?_
        refine lk_wp_cv (as := [.int 12]) (r := []) (a := a0) lk_i151_50 lk_M151 rfl rfl rfl (Nat.le_of_ble_eq_true rfl) H (fun k66 H => lk_gv H (fun h52 H => ?_))
        refine lk_wp_seg (lo' := [.ref a0, .int x1, .int r2, .retAddr 0]) (st' := [.int 10, .ref a0]) lk_M151 lk_s151_53_2 rfl ?_
        refine lk_wp_cv (as := [.int 10]) (r := []) (a := a0) lk_i151_56 lk_M151 rfl rfl rfl (Nat.le_of_ble_eq_true rfl) H (fun k65 H => lk_gv H (fun h53 H => ?_))
        refine lk_wp_seg (lo' := [.ref a0, .int x1, .int r2, .retAddr 0]) (st' := [.ref a0, .int x1, .ref a0, .int 1]) lk_M151 lk_s151_59_4 rfl ?_
        refine lk_wp_fR lk_i151_63 lk_M151 H (fun r54 H => ?_)
        refine lk_wp_seg (lo' := [.ref a0, .int x1, .int r2, .retAddr 0]) (st' := [.int x1, .ref r54, .int x1, .ref a0, .int 1]) lk_M151 lk_s151_66_1 rfl ?_
        refine lk_wp_ai lk_i151_67 lk_M151 H (fun r55 H => ?_)
        refine lk_wp_seg (lo' := [.ref a0, .int x1, .int r2, .retAddr 0]) (st' := [.int (r55 - 1), .int x1, .ref a0, .int 1]) lk_M151 lk_s151_68_2 rfl ?_
        refine lk_wp_cv (as := [.int x1, .int (r55 - 1)]) (r := [.int 1]) (a := a0) lk_i151_70 lk_M151 rfl rfl rfl (Nat.le_of_ble_eq_true rfl) H (fun k64 H => lk_gi H (fun r57 h56 H => ?_))
        refine lk_wp_seg (lo' := [.ref a0, .int x1, .int r2, .int (1 + r57)]) (st' := [.int 3, .int r2]) lk_M151 lk_s151_73_4 rfl ?_
        refine lk_wp_ic_le lk_i151_77 lk_M151 H (fun H => ?_) (fun H => ?_)
        · refine lk_wp_seg (lo' := [.ref a0, .int x1, .int r2, .int (1 + r57)]) (st' := [.int 5, .int r2]) lk_M151 lk_s151_86_4 rfl ?_
          refine lk_wp_ic_ne lk_i151_90 lk_M151 H (fun H => ?_) (fun H => ?_)
          · refine lk_wp_seg (lo' := [.ref a0, .int x1, .int r2, .int (1 + r57)]) (st' := [.int (1 + r57)]) lk_M151 lk_s151_103_1 rfl ?_
            exact lk_wp_ret lk_i151_104 lk_M151 rfl H
          · refine lk_wp_seg (lo' := [.ref a0, .int x1, .int r2, .int (1 + r57)]) (st' := [.int x1, .ref a0, .int (1 + r57)]) lk_M151 lk_s151_93_3 rfl ?_
            refine lk_wp_cv (as := [.int x1]) (r := [.int (1 + r57)]) (a := a0) lk_i151_96 lk_M151 rfl rfl rfl (Nat.le_of_ble_eq_true rfl) H (fun k60 H => lk_gi H (fun r59 h58 H => ?_))
            refine lk_wp_seg (lo' := [.ref a0, .int x1, .int r2, .int (1 + r57)]) (st' := [.int ((1 + r57) + r59)]) lk_M151 lk_s151_99_2 rfl ?_
            exact lk_wp_ret lk_i151_104 lk_M151 rfl H
        · refine lk_wp_seg (lo' := [.ref a0, .int x1, .int r2, .int (1 + r57)]) (st' := [.int (2 * (1 + r57))]) lk_M151 lk_s151_80_4 rfl ?_
          refine lk_wp_seg (lo' := [.ref a0, .int x1, .int r2, .int (2 * (1 + r57))]) (st' := [.int 5, .int r2]) lk_M151 lk_s151_87_3 rfl ?_
          refine lk_wp_ic_ne lk_i151_90 lk_M151 H (fun H => ?_) (fun H => ?_)
          · refine lk_wp_seg (lo' := [.ref a0, .int x1, .int r2, .int (2 * (1 + r57))]) (st' := [.int (2 * (1 + r57))]) lk_M151 lk_s151_103_1 rfl ?_
            exact lk_wp_ret lk_i151_104 lk_M151 rfl H
          · refine lk_wp_seg (lo' := [.ref a0, .int x1, .int r2, .int (2 * (1 + r57))]) (st' := [.int x1, .ref a0, .int (2 * (1 + r57))]) lk_M151 lk_s151_93_3 rfl ?_
            refine lk_wp_cv (as := [.int x1]) (r := [.int (2 * (1 + r57))]) (a := a0) lk_i151_96 lk_M151 rfl rfl rfl (Nat.le_of_ble_eq_true rfl) H (fun k63 H => lk_gi H (fun r62 h61 H => ?_))
            refine lk_wp_seg (lo' := [.ref a0, .int x1, .int r2, .int (2 * (1 + r57))]) (st' := [.int ((2 * (1 + r57)) + r62)]) lk_M151 lk_s151_99_2 rfl ?_
            exact lk_wp_ret lk_i151_104 lk_M151 rfl H
  · refine lk_wp_seg (lo' := [.ref a0, .int x1, .int r2, .retAddr 0]) (st' := [.int 11, .ref a0]) lk_M151 lk_s151_12_2 rfl ?_
    refine lk_wp_cv (as := [.int 11]) (r := []) (a := a0) lk_i151_15 lk_M151 rfl rfl rfl (Nat.le_of_ble_eq_true rfl) H (fun k72 H => lk_gv H (fun h69 H => ?_))
    refine lk_wp_seg (lo' := [.ref a0, .int x1, .int r2, .retAddr 0]) (st' := [.ref a0]) lk_M151 lk_s151_18_1 rfl ?_
    refine lk_wp_fR lk_i151_19 lk_M151 H (fun r70 H => ?_)
    refine lk_wp_seg (lo' := [.ref a0, .int x1, .int r2, .retAddr 0]) (st' := [.int x1, .ref r70]) lk_M151 lk_s151_22_1 rfl ?_
    refine lk_wp_ai lk_i151_23 lk_M151 H (fun r71 H => ?_)
    exact lk_wp_ret lk_i151_24 lk_M151 rfl H
/-! LonelyDotsModel.mark(I)I -/
theorem lk_M152 : lk_mt[152]? = some (yX12_mark, cX12_mark, 4, ((some FieldType.int))) := rfl
theorem lk_s152_0_1 : lk_seg 152 [(.aload_n 0, 1, (0, [], .null))] 0 = some 1 := by decide +kernel
theorem lk_i152_1 : lk_ins 152 1 = some (.getfield 22, 3, (4, [(11, 0)], .null)) := lk_eqE_eq (by decide +kernel)
theorem lk_s152_4_1 : lk_seg 152 [(.iload_n 1, 1, (0, [], .null))] 4 = some 5 := by decide +kernel
theorem lk_i152_5 : lk_ins 152 5 = some (.iaload, 1, (0, [], .null)) := lk_eqE_eq (by decide +kernel)
theorem lk_s152_6_3 : lk_seg 152 [(.istore_n 2, 1, (0, [], .null)), (.iload_n 2, 1, (0, [], .null)), (.iconst 2, 1, (0, [], .int (2)))] 6 = some 9 := by decide +kernel
theorem lk_i152_9 : lk_ins 152 9 = some (.if_icmp .le 9, 3, (18, [], .null)) := lk_eqE_eq (by decide +kernel)
theorem lk_s152_18_2 : lk_seg 152 [(.iload_n 2, 1, (0, [], .null)), (.iconst 2, 1, (0, [], .int (2)))] 18 = some 20 := by decide +kernel
theorem lk_i152_20 : lk_ins 152 20 = some (.if_icmp .ne 9, 3, (29, [], .null)) := lk_eqE_eq (by decide +kernel)
theorem lk_s152_29_2 : lk_seg 152 [(.aload_n 0, 1, (0, [], .null)), (.bipush 20, 2, (0, [], .int (20)))] 29 = some 32 := by decide +kernel
theorem lk_i152_32 : lk_ins 152 32 = some (.invokevirtual 157, 3, (1, [(11, 149)], .ref 101)) := lk_eqE_eq (by decide +kernel)
theorem lk_s152_35_2 : lk_seg 152 [(.aload_n 0, 1, (0, [], .null)), (.iload_n 1, 1, (0, [], .null))] 35 = some 37 := by decide +kernel
theorem lk_i152_37 : lk_ins 152 37 = some (.invokevirtual 163, 3, (1, [(11, 151)], .ref 103)) := lk_eqE_eq (by decide +kernel)
theorem lk_s152_40_5 : lk_seg 152 [(.iconst 4, 1, (0, [], .int (4))), (.iadd, 1, (0, [], .null)), (.istore_n 3, 1, (0, [], .null)), (.iload_n 2, 1, (0, [], .null)), (.iconst 2, 1, (0, [], .int (2)))] 40 = some 45 := by decide +kernel
theorem lk_i152_45 : lk_ins 152 45 = some (.if_icmp .ne 9, 3, (54, [], .null)) := lk_eqE_eq (by decide +kernel)
theorem lk_s152_54_1 : lk_seg 152 [(.iload_n 3, 1, (0, [], .null))] 54 = some 55 := by decide +kernel
theorem lk_i152_55 : lk_ins 152 55 = some (.ireturn, 1, (0, [], .null)) := lk_eqE_eq (by decide +kernel)
theorem lk_s152_48_4 : lk_seg 152 [(.iconst 2, 1, (0, [], .int (2))), (.iload_n 3, 1, (0, [], .null)), (.imul, 1, (0, [], .null)), (.goto 4, 3, (55, [], .null))] 48 = some 55 := by decide +kernel
theorem lk_s152_23_2 : lk_seg 152 [(.aload_n 0, 1, (0, [], .null)), (.bipush 21, 2, (0, [], .int (21)))] 23 = some 26 := by decide +kernel
theorem lk_i152_26 : lk_ins 152 26 = some (.invokevirtual 157, 3, (1, [(11, 149)], .ref 101)) := lk_eqE_eq (by decide +kernel)
theorem lk_s152_12_2 : lk_seg 152 [(.aload_n 0, 1, (0, [], .null)), (.iload_n 1, 1, (0, [], .null))] 12 = some 14 := by decide +kernel
theorem lk_i152_14 : lk_ins 152 14 = some (.invokevirtual 160, 3, (1, [(11, 150)], .ref 102)) := lk_eqE_eq (by decide +kernel)
theorem lk_i152_17 : lk_ins 152 17 = some (.ireturn, 1, (0, [], .null)) := lk_eqE_eq (by decide +kernel)
set_option maxRecDepth 20000 in
theorem E_m_mark {X : lk_X} {d : Nat} {x1 : Int32} {a0 : Nat} {h : lk_H} {Q : Option Value → lk_H → Prop} (H : lk_fR h a0 4 [(11, 0)] (fun r1 => lk_ai h r1 x1 (fun r2 => (r2 ≤ 2 → (¬ r2 = 2 → lk_vc h a0 [(11, 149)] (fun k7 => lk_wxv X d k7 [.ref a0, .int 20] h (fun h3 => lk_vc h3 a0 [(11, 151)] (fun k6 => lk_wxi X d k6 [.ref a0, .int x1] h3 (fun r5 h4 => (¬ r2 = 2 → Q (some (.int (r5 + 4))) h4) ∧ (r2 = 2 → Q (some (.int (2 * (r5 + 4)))) h4)))))) ∧ (r2 = 2 → lk_vc h a0 [(11, 149)] (fun k14 => lk_wxv X d k14 [.ref a0, .int 21] h (fun h8 => lk_vc h8 a0 [(11, 149)] (fun k13 => lk_wxv X d k13 [.ref a0, .int 20] h8 (fun h9 => lk_vc h9 a0 [(11, 151)] (fun k12 => lk_wxi X d k12 [.ref a0, .int x1] h9 (fun r11 h10 => (¬ r2 = 2 → Q (some (.int (r11 + 4))) h10) ∧ (r2 = 2 → Q (some (.int (2 * (r11 + 4)))) h10))))))))) ∧ (¬ r2 ≤ 2 → lk_vc h a0 [(11, 150)] (fun k17 => lk_wxi X d k17 [.ref a0, .int x1] h (fun r16 h15 => Q (some (.int r16)) h15)))))) : lk_wx X (d + 1) 152 [.ref a0, .int x1] h Q := by
  refine lk_enter (lo := [.ref a0, .int x1, .retAddr 0, .retAddr 0]) lk_M152 rfl (Nat.le_of_ble_eq_true rfl) ?_
  refine lk_wp_seg (lo' := [.ref a0, .int x1, .retAddr 0, .retAddr 0]) (st' := [.ref a0]) lk_M152 lk_s152_0_1 rfl ?_
  refine lk_wp_fR lk_i152_1 lk_M152 H (fun r1 H => ?_)
  refine lk_wp_seg (lo' := [.ref a0, .int x1, .retAddr 0, .retAddr 0]) (st' := [.int x1, .ref r1]) lk_M152 lk_s152_4_1 rfl ?_
  refine lk_wp_ai lk_i152_5 lk_M152 H (fun r2 H => ?_)
  refine lk_wp_seg (lo' := [.ref a0, .int x1, .int r2, .retAddr 0]) (st' := [.int 2, .int r2]) lk_M152 lk_s152_6_3 rfl ?_
  refine lk_wp_ic_le lk_i152_9 lk_M152 H (fun H => ?_) (fun H => ?_)
  · refine lk_wp_seg (lo' := [.ref a0, .int x1, .int r2, .retAddr 0]) (st' := [.int 2, .int r2]) lk_M152 lk_s152_18_2 rfl ?_
    refine lk_wp_ic_ne lk_i152_20 lk_M152 H (fun H => ?_) (fun H => ?_)
    · refine lk_wp_seg (lo' := [.ref a0, .int x1, .int r2, .retAddr 0]) (st' := [.int 20, .ref a0]) lk_M152 lk_s152_29_2 rfl ?_
      refine lk_wp_cv (as := [.int 20]) (r := []) (a := a0) lk_i152_32 lk_M152 rfl rfl rfl (Nat.le_of_ble_eq_true rfl) H (fun k7 H => lk_gv H (fun h3 H => ?_))
      refine lk_wp_seg (lo' := [.ref a0, .int x1, .int r2, .retAddr 0]) (st' := [.int x1, .ref a0]) lk_M152 lk_s152_35_2 rfl ?_
      refine lk_wp_cv (as := [.int x1]) (r := []) (a := a0) lk_i152_37 lk_M152 rfl rfl rfl (Nat.le_of_ble_eq_true rfl) H (fun k6 H => lk_gi H (fun r5 h4 H => ?_))
      refine lk_wp_seg (lo' := [.ref a0, .int x1, .int r2, .int (r5 + 4)]) (st' := [.int 2, .int r2]) lk_M152 lk_s152_40_5 rfl ?_
      refine lk_wp_ic_ne lk_i152_45 lk_M152 H (fun H => ?_) (fun H => ?_)
      · refine lk_wp_seg (lo' := [.ref a0, .int x1, .int r2, .int (r5 + 4)]) (st' := [.int (r5 + 4)]) lk_M152 lk_s152_54_1 rfl ?_
        exact lk_wp_ret lk_i152_55 lk_M152 rfl H
      · refine lk_wp_seg (lo' := [.ref a0, .int x1, .int r2, .int (r5 + 4)]) (st' := [.int (2 * (r5 + 4))]) lk_M152 lk_s152_48_4 rfl ?_
        exact lk_wp_ret lk_i152_55 lk_M152 rfl H
    · refine lk_wp_seg (lo' := [.ref a0, .int x1, .int r2, .retAddr 0]) (st' := [.int 21, .ref a0]) lk_M152 lk_s152_23_2 rfl ?_
      refine lk_wp_cv (as := [.int 21]) (r := []) (a := a0) lk_i152_26 lk_M152 rfl rfl rfl (Nat.le_of_ble_eq_true rfl) H (fun k14 H => lk_gv H (fun h8 H => ?_))
      refine lk_wp_seg (lo' := [.ref a0, .int x1, .int r2, .retAddr 0]) (st' := [.int 20, .ref a0]) lk_M152 lk_s152_29_2 rfl ?_
      refine lk_wp_cv (as := [.int 20]) (r := []) (a := a0) lk_i152_32 lk_M152 rfl rfl rfl (Nat.le_of_ble_eq_true rfl) H (fun k13 H => lk_gv H (fun h9 H => ?_))
      refine lk_wp_seg (lo' := [.ref a0, .int x1, .int r2, .retAddr 0]) (st' := [.int x1, .ref a0]) lk_M152 lk_s152_35_2 rfl ?_
      refine lk_wp_cv (as := [.int x1]) (r := []) (a := a0) lk_i152_37 lk_M152 rfl rfl rfl (Nat.le_of_ble_eq_true rfl) H (fun k12 H => lk_gi H (fun r11 h10 H => ?_))
      refine lk_wp_seg (lo' := [.ref a0, .int x1, .int r2, .int (r11 + 4)]) (st' := [.int 2, .int r2]) lk_M152 lk_s152_40_5 rfl ?_
      refine lk_wp_ic_ne lk_i152_45 lk_M152 H (fun H => ?_) (fun H => ?_)
      · refine lk_wp_seg (lo' := [.ref a0, .int x1, .int r2, .int (r11 + 4)]) (st' := [.int (r11 + 4)]) lk_M152 lk_s152_54_1 rfl ?_
        exact lk_wp_ret lk_i152_55 lk_M152 rfl H
      · refine lk_wp_seg (lo' := [.ref a0, .int x1, .int r2, .int (r11 + 4)]) (st' := [.int (2 * (r11 + 4))]) lk_M152 lk_s152_48_4 rfl ?_
        exact lk_wp_ret lk_i152_55 lk_M152 rfl H
  · refine lk_wp_seg (lo' := [.ref a0, .int x1, .int r2, .retAddr 0]) (st' := [.int x1, .ref a0]) lk_M152 lk_s152_12_2 rfl ?_
    refine lk_wp_cv (as := [.int x1]) (r := []) (a := a0) lk_i152_14 lk_M152 rfl rfl rfl (Nat.le_of_ble_eq_true rfl) H (fun k17 H => lk_gi H (fun r16 h15 H => ?_))
    exact lk_wp_ret lk_i152_17 lk_M152 rfl H
/-! LonelyDotsModel.ask(II)I -/
theorem lk_M153 : lk_mt[153]? = some (yX12_ask, cX12_ask, 3, ((some FieldType.int))) := rfl
theorem lk_s153_0_1 : lk_seg 153 [(.iload_n 1, 1, (0, [], .null))] 0 = some 1 := by decide +kernel
theorem lk_i153_1 : lk_ins 153 1 = some (.invokestatic 100, 3, (0, [(0, 120)], .ref 89)) := lk_eqE_eq (by decide +kernel)
theorem lk_i153_4 : lk_ins 153 4 = some (.ifCond .eq 13, 3, (17, [], .null)) := lk_eqE_eq (by decide +kernel)
theorem lk_s153_17_1 : lk_seg 153 [(.ldc 70, 2, (0, [], .int (-1000001)))] 17 = some 19 := by decide +kernel
theorem lk_i153_19 : lk_ins 153 19 = some (.ireturn, 1, (0, [], .null)) := lk_eqE_eq (by decide +kernel)
theorem lk_s153_7_4 : lk_seg 153 [(.iload_n 2, 1, (0, [], .null)), (.i2l, 1, (0, [], .null)), (.lconst 0, 1, (0, [], .long 0)), (.lconst 1, 1, (0, [], .long 1))] 7 = some 11 := by decide +kernel
theorem lk_i153_11 : lk_ins 153 11 = some (.invokestatic 60, 3, (0, [(0, 112)], .ref 80)) := lk_eqE_eq (by decide +kernel)
theorem lk_i153_14 : lk_ins 153 14 = some (.ifCond .ne 6, 3, (20, [], .null)) := lk_eqE_eq (by decide +kernel)
theorem lk_s153_20_2 : lk_seg 153 [(.aload_n 0, 1, (0, [], .null)), (.iconst 0, 1, (0, [], .int (0)))] 20 = some 22 := by decide +kernel
theorem lk_i153_22 : lk_ins 153 22 = some (.putfield 154, 3, (9, [(11, 0)], .null)) := lk_eqE_eq (by decide +kernel)
theorem lk_s153_25_1 : lk_seg 153 [(.aload_n 0, 1, (0, [], .null))] 25 = some 26 := by decide +kernel
theorem lk_i153_26 : lk_ins 153 26 = some (.getfield 22, 3, (4, [(11, 0)], .null)) := lk_eqE_eq (by decide +kernel)
theorem lk_s153_29_1 : lk_seg 153 [(.iload_n 1, 1, (0, [], .null))] 29 = some 30 := by decide +kernel
theorem lk_i153_30 : lk_ins 153 30 = some (.iaload, 1, (0, [], .null)) := lk_eqE_eq (by decide +kernel)
theorem lk_i153_31 : lk_ins 153 31 = some (.ifCond .ne 9, 3, (40, [], .null)) := lk_eqE_eq (by decide +kernel)
theorem lk_s153_40_2 : lk_seg 153 [(.aload_n 0, 1, (0, [], .null)), (.iload_n 2, 1, (0, [], .null))] 40 = some 42 := by decide +kernel
theorem lk_i153_42 : lk_ins 153 42 = some (.ifCond .ne 11, 3, (53, [], .null)) := lk_eqE_eq (by decide +kernel)
theorem lk_s153_53_2 : lk_seg 153 [(.aload_n 0, 1, (0, [], .null)), (.iload_n 1, 1, (0, [], .null))] 53 = some 55 := by decide +kernel
theorem lk_i153_55 : lk_ins 153 55 = some (.invokevirtual 166, 3, (1, [(11, 152)], .ref 104)) := lk_eqE_eq (by decide +kernel)
theorem lk_i153_58 : lk_ins 153 58 = some (.invokevirtual 75, 3, (1, [(11, 114)], .ref 83)) := lk_eqE_eq (by decide +kernel)
theorem lk_i153_61 : lk_ins 153 61 = some (.ireturn, 1, (0, [], .null)) := lk_eqE_eq (by decide +kernel)
theorem lk_s153_45_2 : lk_seg 153 [(.aload_n 0, 1, (0, [], .null)), (.iload_n 1, 1, (0, [], .null))] 45 = some 47 := by decide +kernel
theorem lk_i153_47 : lk_ins 153 47 = some (.invokevirtual 163, 3, (1, [(11, 151)], .ref 103)) := lk_eqE_eq (by decide +kernel)
theorem lk_s153_50_1 : lk_seg 153 [(.goto 8, 3, (58, [], .null))] 50 = some 58 := by decide +kernel
theorem lk_s153_34_2 : lk_seg 153 [(.aload_n 0, 1, (0, [], .null)), (.iconst 1, 1, (0, [], .int (1)))] 34 = some 36 := by decide +kernel
theorem lk_i153_36 : lk_ins 153 36 = some (.invokevirtual 71, 3, (1, [(11, 113)], .ref 82)) := lk_eqE_eq (by decide +kernel)
theorem lk_i153_39 : lk_ins 153 39 = some (.ireturn, 1, (0, [], .null)) := lk_eqE_eq (by decide +kernel)
set_option maxRecDepth 20000 in
theorem E_m_ask {X : lk_X} {d : Nat} {x1 x2 : Int32} {a0 : Nat} {h : lk_H} {Q : Option Value → lk_H → Prop} (H : lk_wxi X d 120 [.int x1] h (fun r2 h1 => (r2 = 0 → Q (some (.int ((-1000001)))) h1) ∧ (¬ r2 = 0 → lk_wxi X d 112 [.long (x2.toInt64), .long 0, .long 1] h1 (fun r4 h3 => (¬ r4 = 0 → lk_pf h3 a0 9 [(11, 0)] (.int 0) (fun h5 => lk_fR h5 a0 4 [(11, 0)] (fun r6 => lk_ai h5 r6 x1 (fun r7 => (¬ r7 = 0 → (¬ x2 = 0 → lk_vc h5 a0 [(11, 152)] (fun k13 => lk_wxi X d k13 [.ref a0, .int x1] h5 (fun r9 h8 => lk_vc h8 a0 [(11, 114)] (fun k12 => lk_wxi X d k12 [.ref a0, .int r9] h8 (fun r11 h10 => Q (some (.int r11)) h10))))) ∧ (x2 = 0 → lk_vc h5 a0 [(11, 151)] (fun k19 => lk_wxi X d k19 [.ref a0, .int x1] h5 (fun r15 h14 => lk_vc h14 a0 [(11, 114)] (fun k18 => lk_wxi X d k18 [.ref a0, .int r15] h14 (fun r17 h16 => Q (some (.int r17)) h16)))))) ∧ (r7 = 0 → lk_vc h5 a0 [(11, 113)] (fun k22 => lk_wxi X d k22 [.ref a0, .int 1] h5 (fun r21 h20 => Q (some (.int r21)) h20))))))) ∧ (r4 = 0 → Q (some (.int ((-1000001)))) h3))))) : lk_wx X (d + 1) 153 [.ref a0, .int x1, .int x2] h Q := by
  refine lk_enter (lo := [.ref a0, .int x1, .int x2]) lk_M153 rfl (Nat.le_of_ble_eq_true rfl) ?_
  refine lk_wp_seg (lo' := [.ref a0, .int x1, .int x2]) (st' := [.int x1]) lk_M153 lk_s153_0_1 rfl ?_
  refine lk_wp_cs (as := [.int x1]) (r := []) lk_i153_1 lk_M153 rfl rfl rfl rfl (Nat.le_of_ble_eq_true rfl) (lk_gi H (fun r2 h1 H => ?_))
  refine lk_wp_if_eq lk_i153_4 lk_M153 H (fun H => ?_) (fun H => ?_)
  · refine lk_wp_seg (lo' := [.ref a0, .int x1, .int x2]) (st' := [.int ((-1000001))]) lk_M153 lk_s153_17_1 rfl ?_
    exact lk_wp_ret lk_i153_19 lk_M153 rfl H
  · refine lk_wp_seg (lo' := [.ref a0, .int x1, .int x2]) (st' := [.long 1, .long 0, .long (x2.toInt64)]) lk_M153 lk_s153_7_4 rfl ?_
    refine lk_wp_cs (as := [.long (x2.toInt64), .long 0, .long 1]) (r := []) lk_i153_11 lk_M153 rfl rfl rfl rfl (Nat.le_of_ble_eq_true rfl) (lk_gi H (fun r4 h3 H => ?_))
    refine lk_wp_if_ne lk_i153_14 lk_M153 H (fun H => ?_) (fun H => ?_)
    · refine lk_wp_seg (lo' := [.ref a0, .int x1, .int x2]) (st' := [.int 0, .ref a0]) lk_M153 lk_s153_20_2 rfl ?_
      refine lk_wp_pf lk_i153_22 lk_M153 H (fun h5 H => ?_)
      refine lk_wp_seg (lo' := [.ref a0, .int x1, .int x2]) (st' := [.ref a0]) lk_M153 lk_s153_25_1 rfl ?_
      refine lk_wp_fR lk_i153_26 lk_M153 H (fun r6 H => ?_)
      refine lk_wp_seg (lo' := [.ref a0, .int x1, .int x2]) (st' := [.int x1, .ref r6]) lk_M153 lk_s153_29_1 rfl ?_
      refine lk_wp_ai lk_i153_30 lk_M153 H (fun r7 H => ?_)
      refine lk_wp_if_ne lk_i153_31 lk_M153 H (fun H => ?_) (fun H => ?_)
      · refine lk_wp_seg (lo' := [.ref a0, .int x1, .int x2]) (st' := [.int x2, .ref a0]) lk_M153 lk_s153_40_2 rfl ?_
        refine lk_wp_if_ne lk_i153_42 lk_M153 H (fun H => ?_) (fun H => ?_)
        · refine lk_wp_seg (lo' := [.ref a0, .int x1, .int x2]) (st' := [.int x1, .ref a0, .ref a0]) lk_M153 lk_s153_53_2 rfl ?_
          refine lk_wp_cv (as := [.int x1]) (r := [.ref a0]) (a := a0) lk_i153_55 lk_M153 rfl rfl rfl (Nat.le_of_ble_eq_true rfl) H (fun k13 H => lk_gi H (fun r9 h8 H => ?_))
          refine lk_wp_cv (as := [.int r9]) (r := []) (a := a0) lk_i153_58 lk_M153 rfl rfl rfl (Nat.le_of_ble_eq_true rfl) H (fun k12 H => lk_gi H (fun r11 h10 H => ?_))
          exact lk_wp_ret lk_i153_61 lk_M153 rfl H
        · refine lk_wp_seg (lo' := [.ref a0, .int x1, .int x2]) (st' := [.int x1, .ref a0, .ref a0]) lk_M153 lk_s153_45_2 rfl ?_
          refine lk_wp_cv (as := [.int x1]) (r := [.ref a0]) (a := a0) lk_i153_47 lk_M153 rfl rfl rfl (Nat.le_of_ble_eq_true rfl) H (fun k19 H => lk_gi H (fun r15 h14 H => ?_))
          refine lk_wp_seg (lo' := [.ref a0, .int x1, .int x2]) (st' := [.int r15, .ref a0]) lk_M153 lk_s153_50_1 rfl ?_
          refine lk_wp_cv (as := [.int r15]) (r := []) (a := a0) lk_i153_58 lk_M153 rfl rfl rfl (Nat.le_of_ble_eq_true rfl) H (fun k18 H => lk_gi H (fun r17 h16 H => ?_))
          exact lk_wp_ret lk_i153_61 lk_M153 rfl H
      · refine lk_wp_seg (lo' := [.ref a0, .int x1, .int x2]) (st' := [.int 1, .ref a0]) lk_M153 lk_s153_34_2 rfl ?_
        refine lk_wp_cv (as := [.int 1]) (r := []) (a := a0) lk_i153_36 lk_M153 rfl rfl rfl (Nat.le_of_ble_eq_true rfl) H (fun k22 H => lk_gi H (fun r21 h20 H => ?_))
        exact lk_wp_ret lk_i153_39 lk_M153 rfl H
    · refine lk_wp_seg (lo' := [.ref a0, .int x1, .int x2]) (st' := [.int ((-1000001))]) lk_M153 lk_s153_17_1 rfl ?_
      exact lk_wp_ret lk_i153_19 lk_M153 rfl H
/-! LonelyDotsModel.trace(I)I -/
theorem lk_M154 : lk_mt[154]? = some (yX12_trace, cX12_trace, 2, ((some FieldType.int))) := rfl
theorem lk_s154_0_4 : lk_seg 154 [(.iload_n 1, 1, (0, [], .null)), (.i2l, 1, (0, [], .null)), (.lconst 0, 1, (0, [], .long 0)), (.aload_n 0, 1, (0, [], .null))] 0 = some 4 := by decide +kernel
theorem lk_i154_4 : lk_ins 154 4 = some (.getfield 154, 3, (9, [(11, 0)], .null)) := lk_eqE_eq (by decide +kernel)
theorem lk_s154_7_3 : lk_seg 154 [(.iconst 1, 1, (0, [], .int (1))), (.isub, 1, (0, [], .null)), (.i2l, 1, (0, [], .null))] 7 = some 10 := by decide +kernel
theorem lk_i154_10 : lk_ins 154 10 = some (.invokestatic 60, 3, (0, [(0, 112)], .ref 80)) := lk_eqE_eq (by decide +kernel)
theorem lk_i154_13 : lk_ins 154 13 = some (.ifCond .eq 12, 3, (25, [], .null)) := lk_eqE_eq (by decide +kernel)
theorem lk_s154_25_1 : lk_seg 154 [(.ldc 88, 2, (0, [], .int (-1000000)))] 25 = some 27 := by decide +kernel
theorem lk_i154_27 : lk_ins 154 27 = some (.ireturn, 1, (0, [], .null)) := lk_eqE_eq (by decide +kernel)
theorem lk_s154_16_1 : lk_seg 154 [(.aload_n 0, 1, (0, [], .null))] 16 = some 17 := by decide +kernel
theorem lk_i154_17 : lk_ins 154 17 = some (.getfield 31, 3, (8, [(11, 0)], .null)) := lk_eqE_eq (by decide +kernel)
theorem lk_s154_20_1 : lk_seg 154 [(.iload_n 1, 1, (0, [], .null))] 20 = some 21 := by decide +kernel
theorem lk_i154_21 : lk_ins 154 21 = some (.iaload, 1, (0, [], .null)) := lk_eqE_eq (by decide +kernel)
theorem lk_s154_22_1 : lk_seg 154 [(.goto 5, 3, (27, [], .null))] 22 = some 27 := by decide +kernel
set_option maxRecDepth 20000 in
theorem E_m_trace {X : lk_X} {d : Nat} {x1 : Int32} {a0 : Nat} {h : lk_H} {Q : Option Value → lk_H → Prop} (H : lk_fI h a0 9 [(11, 0)] (fun r1 => lk_wxi X d 112 [.long (x1.toInt64), .long 0, .long ((r1 - 1).toInt64)] h (fun r3 h2 => (r3 = 0 → Q (some (.int ((-1000000)))) h2) ∧ (¬ r3 = 0 → lk_fR h2 a0 8 [(11, 0)] (fun r4 => lk_ai h2 r4 x1 (fun r5 => Q (some (.int r5)) h2)))))) : lk_wx X (d + 1) 154 [.ref a0, .int x1] h Q := by
  refine lk_enter (lo := [.ref a0, .int x1]) lk_M154 rfl (Nat.le_of_ble_eq_true rfl) ?_
  refine lk_wp_seg (lo' := [.ref a0, .int x1]) (st' := [.ref a0, .long 0, .long (x1.toInt64)]) lk_M154 lk_s154_0_4 rfl ?_
  refine lk_wp_fI lk_i154_4 lk_M154 H (fun r1 H => ?_)
  refine lk_wp_seg (lo' := [.ref a0, .int x1]) (st' := [.long ((r1 - 1).toInt64), .long 0, .long (x1.toInt64)]) lk_M154 lk_s154_7_3 rfl ?_
  refine lk_wp_cs (as := [.long (x1.toInt64), .long 0, .long ((r1 - 1).toInt64)]) (r := []) lk_i154_10 lk_M154 rfl rfl rfl rfl (Nat.le_of_ble_eq_true rfl) (lk_gi H (fun r3 h2 H => ?_))
  refine lk_wp_if_eq lk_i154_13 lk_M154 H (fun H => ?_) (fun H => ?_)
  · refine lk_wp_seg (lo' := [.ref a0, .int x1]) (st' := [.int ((-1000000))]) lk_M154 lk_s154_25_1 rfl ?_
    exact lk_wp_ret lk_i154_27 lk_M154 rfl H
  · refine lk_wp_seg (lo' := [.ref a0, .int x1]) (st' := [.ref a0]) lk_M154 lk_s154_16_1 rfl ?_
    refine lk_wp_fR lk_i154_17 lk_M154 H (fun r4 H => ?_)
    refine lk_wp_seg (lo' := [.ref a0, .int x1]) (st' := [.int x1, .ref r4]) lk_M154 lk_s154_20_1 rfl ?_
    refine lk_wp_ai lk_i154_21 lk_M154 H (fun r5 H => ?_)
    refine lk_wp_seg (lo' := [.ref a0, .int x1]) (st' := [.int r5]) lk_M154 lk_s154_22_1 rfl ?_
    exact lk_wp_ret lk_i154_27 lk_M154 rfl H
/-! LonelyDotsModel.at(II)I -/
theorem lk_M155 : lk_mt[155]? = some (yX12_at, cX12_at, 3, ((some FieldType.int))) := rfl
theorem lk_s155_0_1 : lk_seg 155 [(.iload_n 1, 1, (0, [], .null))] 0 = some 1 := by decide +kernel
theorem lk_i155_1 : lk_ins 155 1 = some (.invokestatic 100, 3, (0, [(0, 120)], .ref 89)) := lk_eqE_eq (by decide +kernel)
theorem lk_i155_4 : lk_ins 155 4 = some (.ifCond .ne 6, 3, (10, [], .null)) := lk_eqE_eq (by decide +kernel)
theorem lk_s155_10_1 : lk_seg 155 [(.aload_n 0, 1, (0, [], .null))] 10 = some 11 := by decide +kernel
theorem lk_i155_11 : lk_ins 155 11 = some (.getfield 22, 3, (4, [(11, 0)], .null)) := lk_eqE_eq (by decide +kernel)
theorem lk_s155_14_1 : lk_seg 155 [(.iload_n 1, 1, (0, [], .null))] 14 = some 15 := by decide +kernel
theorem lk_i155_15 : lk_ins 155 15 = some (.iaload, 1, (0, [], .null)) := lk_eqE_eq (by decide +kernel)
theorem lk_i155_16 : lk_ins 155 16 = some (.ifCond .ne 9, 3, (25, [], .null)) := lk_eqE_eq (by decide +kernel)
theorem lk_s155_25_4 : lk_seg 155 [(.iload_n 2, 1, (0, [], .null)), (.i2l, 1, (0, [], .null)), (.lconst 0, 1, (0, [], .long 0)), (.aload_n 0, 1, (0, [], .null))] 25 = some 29 := by decide +kernel
theorem lk_i155_29 : lk_ins 155 29 = some (.getfield 25, 3, (5, [(11, 0)], .null)) := lk_eqE_eq (by decide +kernel)
theorem lk_s155_32_1 : lk_seg 155 [(.iload_n 1, 1, (0, [], .null))] 32 = some 33 := by decide +kernel
theorem lk_i155_33 : lk_ins 155 33 = some (.iaload, 1, (0, [], .null)) := lk_eqE_eq (by decide +kernel)
theorem lk_s155_34_3 : lk_seg 155 [(.iconst 1, 1, (0, [], .int (1))), (.isub, 1, (0, [], .null)), (.i2l, 1, (0, [], .null))] 34 = some 37 := by decide +kernel
theorem lk_i155_37 : lk_ins 155 37 = some (.invokestatic 60, 3, (0, [(0, 112)], .ref 80)) := lk_eqE_eq (by decide +kernel)
theorem lk_i155_40 : lk_ins 155 40 = some (.ifCond .eq 16, 3, (56, [], .null)) := lk_eqE_eq (by decide +kernel)
theorem lk_s155_56_1 : lk_seg 155 [(.ldc 70, 2, (0, [], .int (-1000001)))] 56 = some 58 := by decide +kernel
theorem lk_i155_58 : lk_ins 155 58 = some (.ireturn, 1, (0, [], .null)) := lk_eqE_eq (by decide +kernel)
theorem lk_s155_43_4 : lk_seg 155 [(.aload_n 0, 1, (0, [], .null)), (.aload_n 0, 1, (0, [], .null)), (.iload_n 1, 1, (0, [], .null)), (.iload_n 2, 1, (0, [], .null))] 43 = some 47 := by decide +kernel
theorem lk_i155_47 : lk_ins 155 47 = some (.invokevirtual 80, 3, (1, [(11, 122)], .ref 84)) := lk_eqE_eq (by decide +kernel)
theorem lk_i155_50 : lk_ins 155 50 = some (.invokevirtual 75, 3, (1, [(11, 114)], .ref 83)) := lk_eqE_eq (by decide +kernel)
theorem lk_s155_53_1 : lk_seg 155 [(.goto 5, 3, (58, [], .null))] 53 = some 58 := by decide +kernel
theorem lk_s155_19_2 : lk_seg 155 [(.aload_n 0, 1, (0, [], .null)), (.iconst 1, 1, (0, [], .int (1)))] 19 = some 21 := by decide +kernel
theorem lk_i155_21 : lk_ins 155 21 = some (.invokevirtual 71, 3, (1, [(11, 113)], .ref 82)) := lk_eqE_eq (by decide +kernel)
theorem lk_i155_24 : lk_ins 155 24 = some (.ireturn, 1, (0, [], .null)) := lk_eqE_eq (by decide +kernel)
theorem lk_s155_7_1 : lk_seg 155 [(.ldc 70, 2, (0, [], .int (-1000001)))] 7 = some 9 := by decide +kernel
theorem lk_i155_9 : lk_ins 155 9 = some (.ireturn, 1, (0, [], .null)) := lk_eqE_eq (by decide +kernel)
set_option maxRecDepth 20000 in
theorem E_m_at {X : lk_X} {d : Nat} {x1 x2 : Int32} {a0 : Nat} {h : lk_H} {Q : Option Value → lk_H → Prop} (H : lk_wxi X d 120 [.int x1] h (fun r2 h1 => (¬ r2 = 0 → lk_fR h1 a0 4 [(11, 0)] (fun r3 => lk_ai h1 r3 x1 (fun r4 => (¬ r4 = 0 → lk_fR h1 a0 5 [(11, 0)] (fun r5 => lk_ai h1 r5 x1 (fun r6 => lk_wxi X d 112 [.long (x2.toInt64), .long 0, .long ((r6 - 1).toInt64)] h1 (fun r8 h7 => (r8 = 0 → Q (some (.int ((-1000001)))) h7) ∧ (¬ r8 = 0 → lk_vc h7 a0 [(11, 122)] (fun k14 => lk_wxi X d k14 [.ref a0, .int x1, .int x2] h7 (fun r10 h9 => lk_vc h9 a0 [(11, 114)] (fun k13 => lk_wxi X d k13 [.ref a0, .int r10] h9 (fun r12 h11 => Q (some (.int r12)) h11))))))))) ∧ (r4 = 0 → lk_vc h1 a0 [(11, 113)] (fun k17 => lk_wxi X d k17 [.ref a0, .int 1] h1 (fun r16 h15 => Q (some (.int r16)) h15)))))) ∧ (r2 = 0 → Q (some (.int ((-1000001)))) h1))) : lk_wx X (d + 1) 155 [.ref a0, .int x1, .int x2] h Q := by
  refine lk_enter (lo := [.ref a0, .int x1, .int x2]) lk_M155 rfl (Nat.le_of_ble_eq_true rfl) ?_
  refine lk_wp_seg (lo' := [.ref a0, .int x1, .int x2]) (st' := [.int x1]) lk_M155 lk_s155_0_1 rfl ?_
  refine lk_wp_cs (as := [.int x1]) (r := []) lk_i155_1 lk_M155 rfl rfl rfl rfl (Nat.le_of_ble_eq_true rfl) (lk_gi H (fun r2 h1 H => ?_))
  refine lk_wp_if_ne lk_i155_4 lk_M155 H (fun H => ?_) (fun H => ?_)
  · refine lk_wp_seg (lo' := [.ref a0, .int x1, .int x2]) (st' := [.ref a0]) lk_M155 lk_s155_10_1 rfl ?_
    refine lk_wp_fR lk_i155_11 lk_M155 H (fun r3 H => ?_)
    refine lk_wp_seg (lo' := [.ref a0, .int x1, .int x2]) (st' := [.int x1, .ref r3]) lk_M155 lk_s155_14_1 rfl ?_
    refine lk_wp_ai lk_i155_15 lk_M155 H (fun r4 H => ?_)
    refine lk_wp_if_ne lk_i155_16 lk_M155 H (fun H => ?_) (fun H => ?_)
    · refine lk_wp_seg (lo' := [.ref a0, .int x1, .int x2]) (st' := [.ref a0, .long 0, .long (x2.toInt64)]) lk_M155 lk_s155_25_4 rfl ?_
      refine lk_wp_fR lk_i155_29 lk_M155 H (fun r5 H => ?_)
      refine lk_wp_seg (lo' := [.ref a0, .int x1, .int x2]) (st' := [.int x1, .ref r5, .long 0, .long (x2.toInt64)]) lk_M155 lk_s155_32_1 rfl ?_
      refine lk_wp_ai lk_i155_33 lk_M155 H (fun r6 H => ?_)
      refine lk_wp_seg (lo' := [.ref a0, .int x1, .int x2]) (st' := [.long ((r6 - 1).toInt64), .long 0, .long (x2.toInt64)]) lk_M155 lk_s155_34_3 rfl ?_
      refine lk_wp_cs (as := [.long (x2.toInt64), .long 0, .long ((r6 - 1).toInt64)]) (r := []) lk_i155_37 lk_M155 rfl rfl rfl rfl (Nat.le_of_ble_eq_true rfl) (lk_gi H (fun r8 h7 H => ?_))
      refine lk_wp_if_eq lk_i155_40 lk_M155 H (fun H => ?_) (fun H => ?_)
      · refine lk_wp_seg (lo' := [.ref a0, .int x1, .int x2]) (st' := [.int ((-1000001))]) lk_M155 lk_s155_56_1 rfl ?_
        exact lk_wp_ret lk_i155_58 lk_M155 rfl H
      · refine lk_wp_seg (lo' := [.ref a0, .int x1, .int x2]) (st' := [.int x2, .int x1, .ref a0, .ref a0]) lk_M155 lk_s155_43_4 rfl ?_
        refine lk_wp_cv (as := [.int x1, .int x2]) (r := [.ref a0]) (a := a0) lk_i155_47 lk_M155 rfl rfl rfl (Nat.le_of_ble_eq_true rfl) H (fun k14 H => lk_gi H (fun r10 h9 H => ?_))
        refine lk_wp_cv (as := [.int r10]) (r := []) (a := a0) lk_i155_50 lk_M155 rfl rfl rfl (Nat.le_of_ble_eq_true rfl) H (fun k13 H => lk_gi H (fun r12 h11 H => ?_))
        refine lk_wp_seg (lo' := [.ref a0, .int x1, .int x2]) (st' := [.int r12]) lk_M155 lk_s155_53_1 rfl ?_
        exact lk_wp_ret lk_i155_58 lk_M155 rfl H
    · refine lk_wp_seg (lo' := [.ref a0, .int x1, .int x2]) (st' := [.int 1, .ref a0]) lk_M155 lk_s155_19_2 rfl ?_
      refine lk_wp_cv (as := [.int 1]) (r := []) (a := a0) lk_i155_21 lk_M155 rfl rfl rfl (Nat.le_of_ble_eq_true rfl) H (fun k17 H => lk_gi H (fun r16 h15 H => ?_))
      exact lk_wp_ret lk_i155_24 lk_M155 rfl H
  · refine lk_wp_seg (lo' := [.ref a0, .int x1, .int x2]) (st' := [.int ((-1000001))]) lk_M155 lk_s155_7_1 rfl ?_
    exact lk_wp_ret lk_i155_9 lk_M155 rfl H
/-! LonelyDotsModel.alike(II)I -/
theorem lk_M156 : lk_mt[156]? = some (yX12_alike, cX12_alike, 4, ((some FieldType.int))) := rfl
theorem lk_s156_0_1 : lk_seg 156 [(.iload_n 1, 1, (0, [], .null))] 0 = some 1 := by decide +kernel
theorem lk_i156_1 : lk_ins 156 1 = some (.invokestatic 100, 3, (0, [(0, 120)], .ref 89)) := lk_eqE_eq (by decide +kernel)
theorem lk_i156_4 : lk_ins 156 4 = some (.ifCond .eq 15, 3, (19, [], .null)) := lk_eqE_eq (by decide +kernel)
theorem lk_s156_19_1 : lk_seg 156 [(.ldc 70, 2, (0, [], .int (-1000001)))] 19 = some 21 := by decide +kernel
theorem lk_i156_21 : lk_ins 156 21 = some (.ireturn, 1, (0, [], .null)) := lk_eqE_eq (by decide +kernel)
theorem lk_s156_7_4 : lk_seg 156 [(.iload_n 2, 1, (0, [], .null)), (.i2l, 1, (0, [], .null)), (.lconst 0, 1, (0, [], .long 0)), (.ldc2_w 132, 3, (0, [], .long (3)))] 7 = some 13 := by decide +kernel
theorem lk_i156_13 : lk_ins 156 13 = some (.invokestatic 60, 3, (0, [(0, 112)], .ref 80)) := lk_eqE_eq (by decide +kernel)
theorem lk_i156_16 : lk_ins 156 16 = some (.ifCond .ne 6, 3, (22, [], .null)) := lk_eqE_eq (by decide +kernel)
theorem lk_s156_22_1 : lk_seg 156 [(.aload_n 0, 1, (0, [], .null))] 22 = some 23 := by decide +kernel
theorem lk_i156_23 : lk_ins 156 23 = some (.getfield 22, 3, (4, [(11, 0)], .null)) := lk_eqE_eq (by decide +kernel)
theorem lk_s156_26_1 : lk_seg 156 [(.iload_n 1, 1, (0, [], .null))] 26 = some 27 := by decide +kernel
theorem lk_i156_27 : lk_ins 156 27 = some (.iaload, 1, (0, [], .null)) := lk_eqE_eq (by decide +kernel)
theorem lk_i156_28 : lk_ins 156 28 = some (.ifCond .ne 9, 3, (37, [], .null)) := lk_eqE_eq (by decide +kernel)
theorem lk_s156_37_3 : lk_seg 156 [(.aload_n 0, 1, (0, [], .null)), (.iload_n 1, 1, (0, [], .null)), (.aload_n 0, 1, (0, [], .null))] 37 = some 40 := by decide +kernel
theorem lk_i156_40 : lk_ins 156 40 = some (.getfield 22, 3, (4, [(11, 0)], .null)) := lk_eqE_eq (by decide +kernel)
theorem lk_s156_43_1 : lk_seg 156 [(.iload_n 1, 1, (0, [], .null))] 43 = some 44 := by decide +kernel
theorem lk_i156_44 : lk_ins 156 44 = some (.iaload, 1, (0, [], .null)) := lk_eqE_eq (by decide +kernel)
theorem lk_s156_45_1 : lk_seg 156 [(.iconst 3, 1, (0, [], .int (3)))] 45 = some 46 := by decide +kernel
theorem lk_i156_46 : lk_ins 156 46 = some (.if_icmp .ge 7, 3, (53, [], .null)) := lk_eqE_eq (by decide +kernel)
theorem lk_s156_53_1 : lk_seg 156 [(.iconst 0, 1, (0, [], .int (0)))] 53 = some 54 := by decide +kernel
theorem lk_i156_54 : lk_ins 156 54 = some (.invokevirtual 89, 3, (1, [(11, 124)], .ref 86)) := lk_eqE_eq (by decide +kernel)
theorem lk_s156_57_3 : lk_seg 156 [(.istore_n 3, 1, (0, [], .null)), (.aload_n 0, 1, (0, [], .null)), (.aload_n 0, 1, (0, [], .null))] 57 = some 60 := by decide +kernel
theorem lk_i156_60 : lk_ins 156 60 = some (.getfield 34, 3, (10, [(11, 0)], .null)) := lk_eqE_eq (by decide +kernel)
theorem lk_s156_63_1 : lk_seg 156 [(.iload_n 2, 1, (0, [], .null))] 63 = some 64 := by decide +kernel
theorem lk_i156_64 : lk_ins 156 64 = some (.iaload, 1, (0, [], .null)) := lk_eqE_eq (by decide +kernel)
theorem lk_i156_65 : lk_ins 156 65 = some (.invokevirtual 75, 3, (1, [(11, 114)], .ref 83)) := lk_eqE_eq (by decide +kernel)
theorem lk_i156_68 : lk_ins 156 68 = some (.ireturn, 1, (0, [], .null)) := lk_eqE_eq (by decide +kernel)
theorem lk_s156_49_2 : lk_seg 156 [(.iconst 1, 1, (0, [], .int (1))), (.goto 4, 3, (54, [], .null))] 49 = some 54 := by decide +kernel
theorem lk_s156_31_2 : lk_seg 156 [(.aload_n 0, 1, (0, [], .null)), (.iconst 1, 1, (0, [], .int (1)))] 31 = some 33 := by decide +kernel
theorem lk_i156_33 : lk_ins 156 33 = some (.invokevirtual 71, 3, (1, [(11, 113)], .ref 82)) := lk_eqE_eq (by decide +kernel)
theorem lk_i156_36 : lk_ins 156 36 = some (.ireturn, 1, (0, [], .null)) := lk_eqE_eq (by decide +kernel)
set_option maxRecDepth 20000 in
theorem E_m_alike {X : lk_X} {d : Nat} {x1 x2 : Int32} {a0 : Nat} {h : lk_H} {Q : Option Value → lk_H → Prop} (H : lk_wxi X d 120 [.int x1] h (fun r2 h1 => (r2 = 0 → Q (some (.int ((-1000001)))) h1) ∧ (¬ r2 = 0 → lk_wxi X d 112 [.long (x2.toInt64), .long 0, .long 3] h1 (fun r4 h3 => (¬ r4 = 0 → lk_fR h3 a0 4 [(11, 0)] (fun r5 => lk_ai h3 r5 x1 (fun r6 => (¬ r6 = 0 → lk_fR h3 a0 4 [(11, 0)] (fun r7 => lk_ai h3 r7 x1 (fun r8 => (3 ≤ r8 → lk_vc h3 a0 [(11, 124)] (fun k16 => lk_wxi X d k16 [.ref a0, .int x1, .int 0] h3 (fun r10 h9 => lk_fR h9 a0 10 [(11, 0)] (fun r11 => lk_ai h9 r11 x2 (fun r12 => lk_vc h9 a0 [(11, 114)] (fun k15 => lk_wxi X d k15 [.ref a0, .int r12] h9 (fun r14 h13 => Q (some (.int r14)) h13))))))) ∧ (¬ 3 ≤ r8 → lk_vc h3 a0 [(11, 124)] (fun k24 => lk_wxi X d k24 [.ref a0, .int x1, .int 1] h3 (fun r18 h17 => lk_fR h17 a0 10 [(11, 0)] (fun r19 => lk_ai h17 r19 x2 (fun r20 => lk_vc h17 a0 [(11, 114)] (fun k23 => lk_wxi X d k23 [.ref a0, .int r20] h17 (fun r22 h21 => Q (some (.int r22)) h21)))))))))) ∧ (r6 = 0 → lk_vc h3 a0 [(11, 113)] (fun k27 => lk_wxi X d k27 [.ref a0, .int 1] h3 (fun r26 h25 => Q (some (.int r26)) h25)))))) ∧ (r4 = 0 → Q (some (.int ((-1000001)))) h3))))) : lk_wx X (d + 1) 156 [.ref a0, .int x1, .int x2] h Q := by
  refine lk_enter (lo := [.ref a0, .int x1, .int x2, .retAddr 0]) lk_M156 rfl (Nat.le_of_ble_eq_true rfl) ?_
  refine lk_wp_seg (lo' := [.ref a0, .int x1, .int x2, .retAddr 0]) (st' := [.int x1]) lk_M156 lk_s156_0_1 rfl ?_
  refine lk_wp_cs (as := [.int x1]) (r := []) lk_i156_1 lk_M156 rfl rfl rfl rfl (Nat.le_of_ble_eq_true rfl) (lk_gi H (fun r2 h1 H => ?_))
  refine lk_wp_if_eq lk_i156_4 lk_M156 H (fun H => ?_) (fun H => ?_)
  · refine lk_wp_seg (lo' := [.ref a0, .int x1, .int x2, .retAddr 0]) (st' := [.int ((-1000001))]) lk_M156 lk_s156_19_1 rfl ?_
    exact lk_wp_ret lk_i156_21 lk_M156 rfl H
  · refine lk_wp_seg (lo' := [.ref a0, .int x1, .int x2, .retAddr 0]) (st' := [.long 3, .long 0, .long (x2.toInt64)]) lk_M156 lk_s156_7_4 rfl ?_
    refine lk_wp_cs (as := [.long (x2.toInt64), .long 0, .long 3]) (r := []) lk_i156_13 lk_M156 rfl rfl rfl rfl (Nat.le_of_ble_eq_true rfl) (lk_gi H (fun r4 h3 H => ?_))
    refine lk_wp_if_ne lk_i156_16 lk_M156 H (fun H => ?_) (fun H => ?_)
    · refine lk_wp_seg (lo' := [.ref a0, .int x1, .int x2, .retAddr 0]) (st' := [.ref a0]) lk_M156 lk_s156_22_1 rfl ?_
      refine lk_wp_fR lk_i156_23 lk_M156 H (fun r5 H => ?_)
      refine lk_wp_seg (lo' := [.ref a0, .int x1, .int x2, .retAddr 0]) (st' := [.int x1, .ref r5]) lk_M156 lk_s156_26_1 rfl ?_
      refine lk_wp_ai lk_i156_27 lk_M156 H (fun r6 H => ?_)
      refine lk_wp_if_ne lk_i156_28 lk_M156 H (fun H => ?_) (fun H => ?_)
      · refine lk_wp_seg (lo' := [.ref a0, .int x1, .int x2, .retAddr 0]) (st' := [.ref a0, .int x1, .ref a0]) lk_M156 lk_s156_37_3 rfl ?_
        refine lk_wp_fR lk_i156_40 lk_M156 H (fun r7 H => ?_)
        refine lk_wp_seg (lo' := [.ref a0, .int x1, .int x2, .retAddr 0]) (st' := [.int x1, .ref r7, .int x1, .ref a0]) lk_M156 lk_s156_43_1 rfl ?_
        refine lk_wp_ai lk_i156_44 lk_M156 H (fun r8 H => ?_)
        refine lk_wp_seg (lo' := [.ref a0, .int x1, .int x2, .retAddr 0]) (st' := [.int 3, .int r8, .int x1, .ref a0]) lk_M156 lk_s156_45_1 rfl ?_
        refine lk_wp_ic_ge lk_i156_46 lk_M156 H (fun H => ?_) (fun H => ?_)
        · refine lk_wp_seg (lo' := [.ref a0, .int x1, .int x2, .retAddr 0]) (st' := [.int 0, .int x1, .ref a0]) lk_M156 lk_s156_53_1 rfl ?_
          refine lk_wp_cv (as := [.int x1, .int 0]) (r := []) (a := a0) lk_i156_54 lk_M156 rfl rfl rfl (Nat.le_of_ble_eq_true rfl) H (fun k16 H => lk_gi H (fun r10 h9 H => ?_))
          refine lk_wp_seg (lo' := [.ref a0, .int x1, .int x2, .int r10]) (st' := [.ref a0, .ref a0]) lk_M156 lk_s156_57_3 rfl ?_
          refine lk_wp_fR lk_i156_60 lk_M156 H (fun r11 H => ?_)
          refine lk_wp_seg (lo' := [.ref a0, .int x1, .int x2, .int r10]) (st' := [.int x2, .ref r11, .ref a0]) lk_M156 lk_s156_63_1 rfl ?_
          refine lk_wp_ai lk_i156_64 lk_M156 H (fun r12 H => ?_)
          refine lk_wp_cv (as := [.int r12]) (r := []) (a := a0) lk_i156_65 lk_M156 rfl rfl rfl (Nat.le_of_ble_eq_true rfl) H (fun k15 H => lk_gi H (fun r14 h13 H => ?_))
          exact lk_wp_ret lk_i156_68 lk_M156 rfl H
        · refine lk_wp_seg (lo' := [.ref a0, .int x1, .int x2, .retAddr 0]) (st' := [.int 1, .int x1, .ref a0]) lk_M156 lk_s156_49_2 rfl ?_
          refine lk_wp_cv (as := [.int x1, .int 1]) (r := []) (a := a0) lk_i156_54 lk_M156 rfl rfl rfl (Nat.le_of_ble_eq_true rfl) H (fun k24 H => lk_gi H (fun r18 h17 H => ?_))
          refine lk_wp_seg (lo' := [.ref a0, .int x1, .int x2, .int r18]) (st' := [.ref a0, .ref a0]) lk_M156 lk_s156_57_3 rfl ?_
          refine lk_wp_fR lk_i156_60 lk_M156 H (fun r19 H => ?_)
          refine lk_wp_seg (lo' := [.ref a0, .int x1, .int x2, .int r18]) (st' := [.int x2, .ref r19, .ref a0]) lk_M156 lk_s156_63_1 rfl ?_
          refine lk_wp_ai lk_i156_64 lk_M156 H (fun r20 H => ?_)
          refine lk_wp_cv (as := [.int r20]) (r := []) (a := a0) lk_i156_65 lk_M156 rfl rfl rfl (Nat.le_of_ble_eq_true rfl) H (fun k23 H => lk_gi H (fun r22 h21 H => ?_))
          exact lk_wp_ret lk_i156_68 lk_M156 rfl H
      · refine lk_wp_seg (lo' := [.ref a0, .int x1, .int x2, .retAddr 0]) (st' := [.int 1, .ref a0]) lk_M156 lk_s156_31_2 rfl ?_
        refine lk_wp_cv (as := [.int 1]) (r := []) (a := a0) lk_i156_33 lk_M156 rfl rfl rfl (Nat.le_of_ble_eq_true rfl) H (fun k27 H => lk_gi H (fun r26 h25 H => ?_))
        exact lk_wp_ret lk_i156_36 lk_M156 rfl H
    · refine lk_wp_seg (lo' := [.ref a0, .int x1, .int x2, .retAddr 0]) (st' := [.int ((-1000001))]) lk_M156 lk_s156_19_1 rfl ?_
      exact lk_wp_ret lk_i156_21 lk_M156 rfl H
