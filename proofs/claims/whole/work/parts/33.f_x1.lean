/-! LonelyDots.is(II)I -/
theorem lk_M80 : lk_mt[80]? = some (yX11_is, cX11_is, 3, ((some FieldType.int))) := rfl
theorem lk_s80_0_1 : lk_seg 80 [(.iload_n 1, 1, (0, [], .null))] 0 = some 1 := by decide +kernel
theorem lk_i80_1 : lk_ins 80 1 = some (.invokestatic 96, 3, (0, [(0, 95)], .ref 46)) := lk_eqE_eq (by decide +kernel)
theorem lk_i80_4 : lk_ins 80 4 = some (.ifCond .eq 13, 3, (17, [], .null)) := lk_eqE_eq (by decide +kernel)
theorem lk_s80_17_1 : lk_seg 80 [(.ldc 57, 2, (0, [], .int (-1000001)))] 17 = some 19 := by decide +kernel
theorem lk_i80_19 : lk_ins 80 19 = some (.ireturn, 1, (0, [], .null)) := lk_eqE_eq (by decide +kernel)
theorem lk_s80_7_1 : lk_seg 80 [(.iload_n 2, 1, (0, [], .null))] 7 = some 8 := by decide +kernel
theorem lk_i80_8 : lk_ins 80 8 = some (.ifCond .lt 9, 3, (17, [], .null)) := lk_eqE_eq (by decide +kernel)
theorem lk_s80_11_2 : lk_seg 80 [(.iload_n 2, 1, (0, [], .null)), (.bipush 6, 2, (0, [], .int (6)))] 11 = some 14 := by decide +kernel
theorem lk_i80_14 : lk_ins 80 14 = some (.if_icmp .lt 6, 3, (20, [], .null)) := lk_eqE_eq (by decide +kernel)
theorem lk_s80_20_1 : lk_seg 80 [(.aload_n 0, 1, (0, [], .null))] 20 = some 21 := by decide +kernel
theorem lk_i80_21 : lk_ins 80 21 = some (.getfield 17, 3, (1, [(10, 0)], .null)) := lk_eqE_eq (by decide +kernel)
theorem lk_s80_24_1 : lk_seg 80 [(.iload_n 1, 1, (0, [], .null))] 24 = some 25 := by decide +kernel
theorem lk_i80_25 : lk_ins 80 25 = some (.aaload, 1, (0, [], .null)) := lk_eqE_eq (by decide +kernel)
theorem lk_s80_26_1 : lk_seg 80 [(.iload_n 2, 1, (0, [], .null))] 26 = some 27 := by decide +kernel
theorem lk_i80_27 : lk_ins 80 27 = some (.invokestatic 187, 3, (0, [(0, 102)], .ref 66)) := lk_eqE_eq (by decide +kernel)
theorem lk_i80_30 : lk_ins 80 30 = some (.ifCond .eq 7, 3, (37, [], .null)) := lk_eqE_eq (by decide +kernel)
theorem lk_s80_37_1 : lk_seg 80 [(.iconst 0, 1, (0, [], .int (0)))] 37 = some 38 := by decide +kernel
theorem lk_i80_38 : lk_ins 80 38 = some (.ireturn, 1, (0, [], .null)) := lk_eqE_eq (by decide +kernel)
theorem lk_s80_33_2 : lk_seg 80 [(.iconst 1, 1, (0, [], .int (1))), (.goto 4, 3, (38, [], .null))] 33 = some 38 := by decide +kernel
set_option maxRecDepth 20000 in
theorem E_x_is {X : lk_X} {d : Nat} {x1 x2 : Int32} {a0 : Nat} {h : lk_H} {Q : Option Value → lk_H → Prop} (H : lk_wxi X d 95 [.int x1] h (fun r2 h1 => (r2 = 0 → Q (some (.int ((-1000001)))) h1) ∧ (¬ r2 = 0 → (x2 < 0 → Q (some (.int ((-1000001)))) h1) ∧ (¬ x2 < 0 → (x2 < 6 → lk_fR h1 a0 1 [(10, 0)] (fun r3 => lk_ra h1 r3 x1 (lk_wxi X d 102 [.null, .int x2] h1 (fun r6 h5 => (r6 = 0 → Q (some (.int 0)) h5) ∧ (¬ r6 = 0 → Q (some (.int 1)) h5))) (fun r4 => lk_wxi X d 102 [.ref r4, .int x2] h1 (fun r8 h7 => (r8 = 0 → Q (some (.int 0)) h7) ∧ (¬ r8 = 0 → Q (some (.int 1)) h7))))) ∧ (¬ x2 < 6 → Q (some (.int ((-1000001)))) h1))))) : lk_wx X (d + 1) 80 [.ref a0, .int x1, .int x2] h Q := by
  refine lk_enter (lo := [.ref a0, .int x1, .int x2]) lk_M80 rfl (Nat.le_of_ble_eq_true rfl) ?_
  refine lk_wp_seg (lo' := [.ref a0, .int x1, .int x2]) (st' := [.int x1]) lk_M80 lk_s80_0_1 rfl ?_
  refine lk_wp_cs (as := [.int x1]) (r := []) lk_i80_1 lk_M80 rfl rfl rfl rfl (Nat.le_of_ble_eq_true rfl) (lk_gi H (fun r2 h1 H => ?_))
  refine lk_wp_if_eq lk_i80_4 lk_M80 H (fun H => ?_) (fun H => ?_)
  · refine lk_wp_seg (lo' := [.ref a0, .int x1, .int x2]) (st' := [.int ((-1000001))]) lk_M80 lk_s80_17_1 rfl ?_
    exact lk_wp_ret lk_i80_19 lk_M80 rfl H
  · refine lk_wp_seg (lo' := [.ref a0, .int x1, .int x2]) (st' := [.int x2]) lk_M80 lk_s80_7_1 rfl ?_
    refine lk_wp_if_lt lk_i80_8 lk_M80 H (fun H => ?_) (fun H => ?_)
    · refine lk_wp_seg (lo' := [.ref a0, .int x1, .int x2]) (st' := [.int ((-1000001))]) lk_M80 lk_s80_17_1 rfl ?_
      exact lk_wp_ret lk_i80_19 lk_M80 rfl H
    · refine lk_wp_seg (lo' := [.ref a0, .int x1, .int x2]) (st' := [.int 6, .int x2]) lk_M80 lk_s80_11_2 rfl ?_
      refine lk_wp_ic_lt lk_i80_14 lk_M80 H (fun H => ?_) (fun H => ?_)
      · refine lk_wp_seg (lo' := [.ref a0, .int x1, .int x2]) (st' := [.ref a0]) lk_M80 lk_s80_20_1 rfl ?_
        refine lk_wp_fR lk_i80_21 lk_M80 H (fun r3 H => ?_)
        refine lk_wp_seg (lo' := [.ref a0, .int x1, .int x2]) (st' := [.int x1, .ref r3]) lk_M80 lk_s80_24_1 rfl ?_
        refine lk_wp_ra lk_i80_25 lk_M80 H ⟨fun H => ?_, fun r4 H => ?_⟩
        · refine lk_wp_seg (lo' := [.ref a0, .int x1, .int x2]) (st' := [.int x2, .null]) lk_M80 lk_s80_26_1 rfl ?_
          refine lk_wp_cs (as := [.null, .int x2]) (r := []) lk_i80_27 lk_M80 rfl rfl rfl rfl (Nat.le_of_ble_eq_true rfl) (lk_gi H (fun r6 h5 H => ?_))
          refine lk_wp_if_eq lk_i80_30 lk_M80 H (fun H => ?_) (fun H => ?_)
          · refine lk_wp_seg (lo' := [.ref a0, .int x1, .int x2]) (st' := [.int 0]) lk_M80 lk_s80_37_1 rfl ?_
            exact lk_wp_ret lk_i80_38 lk_M80 rfl H
          · refine lk_wp_seg (lo' := [.ref a0, .int x1, .int x2]) (st' := [.int 1]) lk_M80 lk_s80_33_2 rfl ?_
            exact lk_wp_ret lk_i80_38 lk_M80 rfl H
        · refine lk_wp_seg (lo' := [.ref a0, .int x1, .int x2]) (st' := [.int x2, .ref r4]) lk_M80 lk_s80_26_1 rfl ?_
          refine lk_wp_cs (as := [.ref r4, .int x2]) (r := []) lk_i80_27 lk_M80 rfl rfl rfl rfl (Nat.le_of_ble_eq_true rfl) (lk_gi H (fun r8 h7 H => ?_))
          refine lk_wp_if_eq lk_i80_30 lk_M80 H (fun H => ?_) (fun H => ?_)
          · refine lk_wp_seg (lo' := [.ref a0, .int x1, .int x2]) (st' := [.int 0]) lk_M80 lk_s80_37_1 rfl ?_
            exact lk_wp_ret lk_i80_38 lk_M80 rfl H
          · refine lk_wp_seg (lo' := [.ref a0, .int x1, .int x2]) (st' := [.int 1]) lk_M80 lk_s80_33_2 rfl ?_
            exact lk_wp_ret lk_i80_38 lk_M80 rfl H
      · refine lk_wp_seg (lo' := [.ref a0, .int x1, .int x2]) (st' := [.int ((-1000001))]) lk_M80 lk_s80_17_1 rfl ?_
        exact lk_wp_ret lk_i80_19 lk_M80 rfl H
/-! LonelyDots.as(II)I -/
theorem lk_M81 : lk_mt[81]? = some (yX11_as, cX11_as, 4, ((some FieldType.int))) := rfl
theorem lk_s81_0_1 : lk_seg 81 [(.iload_n 1, 1, (0, [], .null))] 0 = some 1 := by decide +kernel
theorem lk_i81_1 : lk_ins 81 1 = some (.invokestatic 96, 3, (0, [(0, 95)], .ref 46)) := lk_eqE_eq (by decide +kernel)
theorem lk_i81_4 : lk_ins 81 4 = some (.ifCond .eq 13, 3, (17, [], .null)) := lk_eqE_eq (by decide +kernel)
theorem lk_s81_17_1 : lk_seg 81 [(.ldc 57, 2, (0, [], .int (-1000001)))] 17 = some 19 := by decide +kernel
theorem lk_i81_19 : lk_ins 81 19 = some (.ireturn, 1, (0, [], .null)) := lk_eqE_eq (by decide +kernel)
theorem lk_s81_7_1 : lk_seg 81 [(.iload_n 2, 1, (0, [], .null))] 7 = some 8 := by decide +kernel
theorem lk_i81_8 : lk_ins 81 8 = some (.ifCond .lt 9, 3, (17, [], .null)) := lk_eqE_eq (by decide +kernel)
theorem lk_s81_11_2 : lk_seg 81 [(.iload_n 2, 1, (0, [], .null)), (.bipush 6, 2, (0, [], .int (6)))] 11 = some 14 := by decide +kernel
theorem lk_i81_14 : lk_ins 81 14 = some (.if_icmp .lt 6, 3, (20, [], .null)) := lk_eqE_eq (by decide +kernel)
theorem lk_s81_20_1 : lk_seg 81 [(.aload_n 0, 1, (0, [], .null))] 20 = some 21 := by decide +kernel
theorem lk_i81_21 : lk_ins 81 21 = some (.getfield 17, 3, (1, [(10, 0)], .null)) := lk_eqE_eq (by decide +kernel)
theorem lk_s81_24_1 : lk_seg 81 [(.iload_n 1, 1, (0, [], .null))] 24 = some 25 := by decide +kernel
theorem lk_i81_25 : lk_ins 81 25 = some (.aaload, 1, (0, [], .null)) := lk_eqE_eq (by decide +kernel)
theorem lk_s81_26_2 : lk_seg 81 [(.astore_n 3, 1, (0, [], .null)), (.aload_n 3, 1, (0, [], .null))] 26 = some 28 := by decide +kernel
theorem lk_i81_28 : lk_ins 81 28 = some (.ifnonnull 9, 3, (37, [], .null)) := lk_eqE_eq (by decide +kernel)
theorem lk_s81_31_2 : lk_seg 81 [(.aload_n 0, 1, (0, [], .null)), (.iconst 1, 1, (0, [], .int (1)))] 31 = some 33 := by decide +kernel
theorem lk_i81_33 : lk_ins 81 33 = some (.invokevirtual 58, 3, (1, [(10, 96)], .ref 41)) := lk_eqE_eq (by decide +kernel)
theorem lk_i81_36 : lk_ins 81 36 = some (.ireturn, 1, (0, [], .null)) := lk_eqE_eq (by decide +kernel)
theorem lk_s81_37_2 : lk_seg 81 [(.aload_n 3, 1, (0, [], .null)), (.iload_n 2, 1, (0, [], .null))] 37 = some 39 := by decide +kernel
theorem lk_i81_39 : lk_ins 81 39 = some (.invokestatic 187, 3, (0, [(0, 102)], .ref 66)) := lk_eqE_eq (by decide +kernel)
theorem lk_i81_42 : lk_ins 81 42 = some (.ifCond .eq 15, 3, (57, [], .null)) := lk_eqE_eq (by decide +kernel)
theorem lk_s81_57_2 : lk_seg 81 [(.aload_n 0, 1, (0, [], .null)), (.iconst 3, 1, (0, [], .int (3)))] 57 = some 59 := by decide +kernel
theorem lk_i81_59 : lk_ins 81 59 = some (.invokevirtual 58, 3, (1, [(10, 96)], .ref 41)) := lk_eqE_eq (by decide +kernel)
theorem lk_i81_62 : lk_ins 81 62 = some (.ireturn, 1, (0, [], .null)) := lk_eqE_eq (by decide +kernel)
theorem lk_s81_45_2 : lk_seg 81 [(.aload_n 0, 1, (0, [], .null)), (.aload_n 3, 1, (0, [], .null))] 45 = some 47 := by decide +kernel
theorem lk_i81_47 : lk_ins 81 47 = some (.getfield 191, 3, (0, [(0, 0), (2, 0), (4, 0), (5, 0), (6, 0)], .null)) := lk_eqE_eq (by decide +kernel)
theorem lk_i81_50 : lk_ins 81 50 = some (.arraylength, 1, (0, [], .null)) := lk_eqE_eq (by decide +kernel)
theorem lk_i81_51 : lk_ins 81 51 = some (.invokevirtual 66, 3, (1, [(10, 97)], .ref 43)) := lk_eqE_eq (by decide +kernel)
theorem lk_s81_54_1 : lk_seg 81 [(.goto 8, 3, (62, [], .null))] 54 = some 62 := by decide +kernel
set_option maxRecDepth 20000 in
theorem E_x_as {X : lk_X} {d : Nat} {x1 x2 : Int32} {a0 : Nat} {h : lk_H} {Q : Option Value → lk_H → Prop} (H : lk_wxi X d 95 [.int x1] h (fun r2 h1 => (r2 = 0 → Q (some (.int ((-1000001)))) h1) ∧ (¬ r2 = 0 → (x2 < 0 → Q (some (.int ((-1000001)))) h1) ∧ (¬ x2 < 0 → (x2 < 6 → lk_fR h1 a0 1 [(10, 0)] (fun r3 => lk_ra h1 r3 x1 (lk_vc h1 a0 [(10, 96)] (fun k7 => lk_wxi X d k7 [.ref a0, .int 1] h1 (fun r6 h5 => Q (some (.int r6)) h5))) (fun r4 => lk_wxi X d 102 [.ref r4, .int x2] h1 (fun r9 h8 => (r9 = 0 → lk_vc h8 a0 [(10, 96)] (fun k12 => lk_wxi X d k12 [.ref a0, .int 3] h8 (fun r11 h10 => Q (some (.int r11)) h10))) ∧ (¬ r9 = 0 → lk_fR h8 r4 0 [(0, 0), (2, 0), (4, 0), (5, 0), (6, 0)] (fun r13 => lk_al2 h8 r13 (fun r14 => lk_vc h8 a0 [(10, 97)] (fun k17 => lk_wxi X d k17 [.ref a0, .int r14] h8 (fun r16 h15 => Q (some (.int r16)) h15))))))))) ∧ (¬ x2 < 6 → Q (some (.int ((-1000001)))) h1))))) : lk_wx X (d + 1) 81 [.ref a0, .int x1, .int x2] h Q := by
  refine lk_enter (lo := [.ref a0, .int x1, .int x2, .retAddr 0]) lk_M81 rfl (Nat.le_of_ble_eq_true rfl) ?_
  refine lk_wp_seg (lo' := [.ref a0, .int x1, .int x2, .retAddr 0]) (st' := [.int x1]) lk_M81 lk_s81_0_1 rfl ?_
  refine lk_wp_cs (as := [.int x1]) (r := []) lk_i81_1 lk_M81 rfl rfl rfl rfl (Nat.le_of_ble_eq_true rfl) (lk_gi H (fun r2 h1 H => ?_))
  refine lk_wp_if_eq lk_i81_4 lk_M81 H (fun H => ?_) (fun H => ?_)
  · refine lk_wp_seg (lo' := [.ref a0, .int x1, .int x2, .retAddr 0]) (st' := [.int ((-1000001))]) lk_M81 lk_s81_17_1 rfl ?_
    exact lk_wp_ret lk_i81_19 lk_M81 rfl H
  · refine lk_wp_seg (lo' := [.ref a0, .int x1, .int x2, .retAddr 0]) (st' := [.int x2]) lk_M81 lk_s81_7_1 rfl ?_
    refine lk_wp_if_lt lk_i81_8 lk_M81 H (fun H => ?_) (fun H => ?_)
    · refine lk_wp_seg (lo' := [.ref a0, .int x1, .int x2, .retAddr 0]) (st' := [.int ((-1000001))]) lk_M81 lk_s81_17_1 rfl ?_
      exact lk_wp_ret lk_i81_19 lk_M81 rfl H
    · refine lk_wp_seg (lo' := [.ref a0, .int x1, .int x2, .retAddr 0]) (st' := [.int 6, .int x2]) lk_M81 lk_s81_11_2 rfl ?_
      refine lk_wp_ic_lt lk_i81_14 lk_M81 H (fun H => ?_) (fun H => ?_)
      · refine lk_wp_seg (lo' := [.ref a0, .int x1, .int x2, .retAddr 0]) (st' := [.ref a0]) lk_M81 lk_s81_20_1 rfl ?_
        refine lk_wp_fR lk_i81_21 lk_M81 H (fun r3 H => ?_)
        refine lk_wp_seg (lo' := [.ref a0, .int x1, .int x2, .retAddr 0]) (st' := [.int x1, .ref r3]) lk_M81 lk_s81_24_1 rfl ?_
        refine lk_wp_ra lk_i81_25 lk_M81 H ⟨fun H => ?_, fun r4 H => ?_⟩
        · refine lk_wp_seg (lo' := [.ref a0, .int x1, .int x2, .null]) (st' := [.null]) lk_M81 lk_s81_26_2 rfl ?_
          refine lk_wp_one lk_i81_28 lk_M81 rfl (lk_cal0 rfl) rfl ?_
          refine lk_wp_seg (lo' := [.ref a0, .int x1, .int x2, .null]) (st' := [.int 1, .ref a0]) lk_M81 lk_s81_31_2 rfl ?_
          refine lk_wp_cv (as := [.int 1]) (r := []) (a := a0) lk_i81_33 lk_M81 rfl rfl rfl (Nat.le_of_ble_eq_true rfl) H (fun k7 H => lk_gi H (fun r6 h5 H => ?_))
          exact lk_wp_ret lk_i81_36 lk_M81 rfl H
        · refine lk_wp_seg (lo' := [.ref a0, .int x1, .int x2, .ref r4]) (st' := [.ref r4]) lk_M81 lk_s81_26_2 rfl ?_
          refine lk_wp_one lk_i81_28 lk_M81 rfl (lk_cal0 rfl) rfl ?_
          refine lk_wp_seg (lo' := [.ref a0, .int x1, .int x2, .ref r4]) (st' := [.int x2, .ref r4]) lk_M81 lk_s81_37_2 rfl ?_
          refine lk_wp_cs (as := [.ref r4, .int x2]) (r := []) lk_i81_39 lk_M81 rfl rfl rfl rfl (Nat.le_of_ble_eq_true rfl) (lk_gi H (fun r9 h8 H => ?_))
          refine lk_wp_if_eq lk_i81_42 lk_M81 H (fun H => ?_) (fun H => ?_)
          · refine lk_wp_seg (lo' := [.ref a0, .int x1, .int x2, .ref r4]) (st' := [.int 3, .ref a0]) lk_M81 lk_s81_57_2 rfl ?_
            refine lk_wp_cv (as := [.int 3]) (r := []) (a := a0) lk_i81_59 lk_M81 rfl rfl rfl (Nat.le_of_ble_eq_true rfl) H (fun k12 H => lk_gi H (fun r11 h10 H => ?_))
            exact lk_wp_ret lk_i81_62 lk_M81 rfl H
          · refine lk_wp_seg (lo' := [.ref a0, .int x1, .int x2, .ref r4]) (st' := [.ref r4, .ref a0]) lk_M81 lk_s81_45_2 rfl ?_
            refine lk_wp_fR lk_i81_47 lk_M81 H (fun r13 H => ?_)
            refine lk_wp_al lk_i81_50 lk_M81 H (fun r14 H => ?_)
            refine lk_wp_cv (as := [.int r14]) (r := []) (a := a0) lk_i81_51 lk_M81 rfl rfl rfl (Nat.le_of_ble_eq_true rfl) H (fun k17 H => lk_gi H (fun r16 h15 H => ?_))
            refine lk_wp_seg (lo' := [.ref a0, .int x1, .int x2, .ref r4]) (st' := [.int r16]) lk_M81 lk_s81_54_1 rfl ?_
            exact lk_wp_ret lk_i81_62 lk_M81 rfl H
      · refine lk_wp_seg (lo' := [.ref a0, .int x1, .int x2, .retAddr 0]) (st' := [.int ((-1000001))]) lk_M81 lk_s81_17_1 rfl ?_
        exact lk_wp_ret lk_i81_19 lk_M81 rfl H
/-! LonelyDots.ask(II)I -/
theorem lk_M82 : lk_mt[82]? = some (yX11_ask, cX11_ask, 4, ((some FieldType.int))) := rfl
theorem lk_s82_0_1 : lk_seg 82 [(.iload_n 1, 1, (0, [], .null))] 0 = some 1 := by decide +kernel
theorem lk_i82_1 : lk_ins 82 1 = some (.invokestatic 96, 3, (0, [(0, 95)], .ref 46)) := lk_eqE_eq (by decide +kernel)
theorem lk_i82_4 : lk_ins 82 4 = some (.ifCond .eq 12, 3, (16, [], .null)) := lk_eqE_eq (by decide +kernel)
theorem lk_s82_16_1 : lk_seg 82 [(.ldc 57, 2, (0, [], .int (-1000001)))] 16 = some 18 := by decide +kernel
theorem lk_i82_18 : lk_ins 82 18 = some (.ireturn, 1, (0, [], .null)) := lk_eqE_eq (by decide +kernel)
theorem lk_s82_7_1 : lk_seg 82 [(.iload_n 2, 1, (0, [], .null))] 7 = some 8 := by decide +kernel
theorem lk_i82_8 : lk_ins 82 8 = some (.ifCond .lt 8, 3, (16, [], .null)) := lk_eqE_eq (by decide +kernel)
theorem lk_s82_11_2 : lk_seg 82 [(.iload_n 2, 1, (0, [], .null)), (.iconst 1, 1, (0, [], .int (1)))] 11 = some 13 := by decide +kernel
theorem lk_i82_13 : lk_ins 82 13 = some (.if_icmp .le 6, 3, (19, [], .null)) := lk_eqE_eq (by decide +kernel)
theorem lk_s82_19_1 : lk_seg 82 [(.aload_n 0, 1, (0, [], .null))] 19 = some 20 := by decide +kernel
theorem lk_i82_20 : lk_ins 82 20 = some (.getfield 24, 3, (2, [(10, 0)], .null)) := lk_eqE_eq (by decide +kernel)
theorem lk_i82_23 : lk_ins 82 23 = some (.invokevirtual 192, 3, (1, [(9, 62)], .ref 67)) := lk_eqE_eq (by decide +kernel)
theorem lk_s82_26_1 : lk_seg 82 [(.aload_n 0, 1, (0, [], .null))] 26 = some 27 := by decide +kernel
theorem lk_i82_27 : lk_ins 82 27 = some (.getfield 17, 3, (1, [(10, 0)], .null)) := lk_eqE_eq (by decide +kernel)
theorem lk_s82_30_1 : lk_seg 82 [(.iload_n 1, 1, (0, [], .null))] 30 = some 31 := by decide +kernel
theorem lk_i82_31 : lk_ins 82 31 = some (.aaload, 1, (0, [], .null)) := lk_eqE_eq (by decide +kernel)
theorem lk_s82_32_2 : lk_seg 82 [(.astore_n 3, 1, (0, [], .null)), (.aload_n 3, 1, (0, [], .null))] 32 = some 34 := by decide +kernel
theorem lk_i82_34 : lk_ins 82 34 = some (.ifnonnull 9, 3, (43, [], .null)) := lk_eqE_eq (by decide +kernel)
theorem lk_s82_37_2 : lk_seg 82 [(.aload_n 0, 1, (0, [], .null)), (.iconst 1, 1, (0, [], .int (1)))] 37 = some 39 := by decide +kernel
theorem lk_i82_39 : lk_ins 82 39 = some (.invokevirtual 58, 3, (1, [(10, 96)], .ref 41)) := lk_eqE_eq (by decide +kernel)
theorem lk_i82_42 : lk_ins 82 42 = some (.ireturn, 1, (0, [], .null)) := lk_eqE_eq (by decide +kernel)
theorem lk_s82_43_2 : lk_seg 82 [(.aload_n 0, 1, (0, [], .null)), (.iload_n 2, 1, (0, [], .null))] 43 = some 45 := by decide +kernel
theorem lk_i82_45 : lk_ins 82 45 = some (.ifCond .ne 14, 3, (59, [], .null)) := lk_eqE_eq (by decide +kernel)
theorem lk_s82_59_2 : lk_seg 82 [(.aload_n 3, 1, (0, [], .null)), (.aload_n 0, 1, (0, [], .null))] 59 = some 61 := by decide +kernel
theorem lk_i82_61 : lk_ins 82 61 = some (.getfield 24, 3, (2, [(10, 0)], .null)) := lk_eqE_eq (by decide +kernel)
theorem lk_i82_64 : lk_ins 82 64 = some (.invokevirtual 199, 3, (2, [(0, 2), (2, 18), (4, 57), (5, 18), (6, 18)], .ref 68)) := lk_eqE_eq (by decide +kernel)
theorem lk_i82_67 : lk_ins 82 67 = some (.invokevirtual 66, 3, (1, [(10, 97)], .ref 43)) := lk_eqE_eq (by decide +kernel)
theorem lk_i82_70 : lk_ins 82 70 = some (.ireturn, 1, (0, [], .null)) := lk_eqE_eq (by decide +kernel)
theorem lk_s82_48_2 : lk_seg 82 [(.aload_n 3, 1, (0, [], .null)), (.aload_n 0, 1, (0, [], .null))] 48 = some 50 := by decide +kernel
theorem lk_i82_50 : lk_ins 82 50 = some (.getfield 24, 3, (2, [(10, 0)], .null)) := lk_eqE_eq (by decide +kernel)
theorem lk_i82_53 : lk_ins 82 53 = some (.invokevirtual 195, 3, (2, [(0, 33), (2, 17), (4, 33), (5, 41), (6, 44)], .ref 32)) := lk_eqE_eq (by decide +kernel)
theorem lk_s82_56_1 : lk_seg 82 [(.goto 11, 3, (67, [], .null))] 56 = some 67 := by decide +kernel
set_option maxRecDepth 20000 in
theorem E_x_ask {X : lk_X} {d : Nat} {x1 x2 : Int32} {a0 : Nat} {h : lk_H} {Q : Option Value → lk_H → Prop} (H : lk_wxi X d 95 [.int x1] h (fun r2 h1 => (r2 = 0 → Q (some (.int ((-1000001)))) h1) ∧ (¬ r2 = 0 → (x2 < 0 → Q (some (.int ((-1000001)))) h1) ∧ (¬ x2 < 0 → (x2 ≤ 1 → lk_fR h1 a0 2 [(10, 0)] (fun r3 => lk_vc h1 r3 [(9, 62)] (fun k24 => lk_wxv X d k24 [.ref r3] h1 (fun h4 => lk_fR h4 a0 1 [(10, 0)] (fun r5 => lk_ra h4 r5 x1 (lk_vc h4 a0 [(10, 96)] (fun k9 => lk_wxi X d k9 [.ref a0, .int 1] h4 (fun r8 h7 => Q (some (.int r8)) h7))) (fun r6 => (¬ x2 = 0 → lk_fR h4 a0 2 [(10, 0)] (fun r10 => lk_vc h4 r6 [(0, 2), (2, 18), (4, 57), (5, 18), (6, 18)] (fun k16 => lk_wxi X d k16 [.ref r6, .ref r10] h4 (fun r12 h11 => lk_vc h11 a0 [(10, 97)] (fun k15 => lk_wxi X d k15 [.ref a0, .int r12] h11 (fun r14 h13 => Q (some (.int r14)) h13)))))) ∧ (x2 = 0 → lk_fR h4 a0 2 [(10, 0)] (fun r17 => lk_vc h4 r6 [(0, 33), (2, 17), (4, 33), (5, 41), (6, 44)] (fun k23 => lk_wxi X d k23 [.ref r6, .ref r17] h4 (fun r19 h18 => lk_vc h18 a0 [(10, 97)] (fun k22 => lk_wxi X d k22 [.ref a0, .int r19] h18 (fun r21 h20 => Q (some (.int r21)) h20)))))))))))) ∧ (¬ x2 ≤ 1 → Q (some (.int ((-1000001)))) h1))))) : lk_wx X (d + 1) 82 [.ref a0, .int x1, .int x2] h Q := by
  refine lk_enter (lo := [.ref a0, .int x1, .int x2, .retAddr 0]) lk_M82 rfl (Nat.le_of_ble_eq_true rfl) ?_
  refine lk_wp_seg (lo' := [.ref a0, .int x1, .int x2, .retAddr 0]) (st' := [.int x1]) lk_M82 lk_s82_0_1 rfl ?_
  refine lk_wp_cs (as := [.int x1]) (r := []) lk_i82_1 lk_M82 rfl rfl rfl rfl (Nat.le_of_ble_eq_true rfl) (lk_gi H (fun r2 h1 H => ?_))
  refine lk_wp_if_eq lk_i82_4 lk_M82 H (fun H => ?_) (fun H => ?_)
  · refine lk_wp_seg (lo' := [.ref a0, .int x1, .int x2, .retAddr 0]) (st' := [.int ((-1000001))]) lk_M82 lk_s82_16_1 rfl ?_
    exact lk_wp_ret lk_i82_18 lk_M82 rfl H
  · refine lk_wp_seg (lo' := [.ref a0, .int x1, .int x2, .retAddr 0]) (st' := [.int x2]) lk_M82 lk_s82_7_1 rfl ?_
    refine lk_wp_if_lt lk_i82_8 lk_M82 H (fun H => ?_) (fun H => ?_)
    · refine lk_wp_seg (lo' := [.ref a0, .int x1, .int x2, .retAddr 0]) (st' := [.int ((-1000001))]) lk_M82 lk_s82_16_1 rfl ?_
      exact lk_wp_ret lk_i82_18 lk_M82 rfl H
    · refine lk_wp_seg (lo' := [.ref a0, .int x1, .int x2, .retAddr 0]) (st' := [.int 1, .int x2]) lk_M82 lk_s82_11_2 rfl ?_
      refine lk_wp_ic_le lk_i82_13 lk_M82 H (fun H => ?_) (fun H => ?_)
      · refine lk_wp_seg (lo' := [.ref a0, .int x1, .int x2, .retAddr 0]) (st' := [.ref a0]) lk_M82 lk_s82_19_1 rfl ?_
        refine lk_wp_fR lk_i82_20 lk_M82 H (fun r3 H => ?_)
        refine lk_wp_cv (as := []) (r := []) (a := r3) lk_i82_23 lk_M82 rfl rfl rfl (Nat.le_of_ble_eq_true rfl) H (fun k24 H => lk_gv H (fun h4 H => ?_))
        refine lk_wp_seg (lo' := [.ref a0, .int x1, .int x2, .retAddr 0]) (st' := [.ref a0]) lk_M82 lk_s82_26_1 rfl ?_
        refine lk_wp_fR lk_i82_27 lk_M82 H (fun r5 H => ?_)
        refine lk_wp_seg (lo' := [.ref a0, .int x1, .int x2, .retAddr 0]) (st' := [.int x1, .ref r5]) lk_M82 lk_s82_30_1 rfl ?_
        refine lk_wp_ra lk_i82_31 lk_M82 H ⟨fun H => ?_, fun r6 H => ?_⟩
        · refine lk_wp_seg (lo' := [.ref a0, .int x1, .int x2, .null]) (st' := [.null]) lk_M82 lk_s82_32_2 rfl ?_
          refine lk_wp_one lk_i82_34 lk_M82 rfl (lk_cal0 rfl) rfl ?_
          refine lk_wp_seg (lo' := [.ref a0, .int x1, .int x2, .null]) (st' := [.int 1, .ref a0]) lk_M82 lk_s82_37_2 rfl ?_
          refine lk_wp_cv (as := [.int 1]) (r := []) (a := a0) lk_i82_39 lk_M82 rfl rfl rfl (Nat.le_of_ble_eq_true rfl) H (fun k9 H => lk_gi H (fun r8 h7 H => ?_))
          exact lk_wp_ret lk_i82_42 lk_M82 rfl H
        · refine lk_wp_seg (lo' := [.ref a0, .int x1, .int x2, .ref r6]) (st' := [.ref r6]) lk_M82 lk_s82_32_2 rfl ?_
          refine lk_wp_one lk_i82_34 lk_M82 rfl (lk_cal0 rfl) rfl ?_
          refine lk_wp_seg (lo' := [.ref a0, .int x1, .int x2, .ref r6]) (st' := [.int x2, .ref a0]) lk_M82 lk_s82_43_2 rfl ?_
          refine lk_wp_if_ne lk_i82_45 lk_M82 H (fun H => ?_) (fun H => ?_)
          · refine lk_wp_seg (lo' := [.ref a0, .int x1, .int x2, .ref r6]) (st' := [.ref a0, .ref r6, .ref a0]) lk_M82 lk_s82_59_2 rfl ?_
            refine lk_wp_fR lk_i82_61 lk_M82 H (fun r10 H => ?_)
            refine lk_wp_cv (as := [.ref r10]) (r := [.ref a0]) (a := r6) lk_i82_64 lk_M82 rfl rfl rfl (Nat.le_of_ble_eq_true rfl) H (fun k16 H => lk_gi H (fun r12 h11 H => ?_))
            refine lk_wp_cv (as := [.int r12]) (r := []) (a := a0) lk_i82_67 lk_M82 rfl rfl rfl (Nat.le_of_ble_eq_true rfl) H (fun k15 H => lk_gi H (fun r14 h13 H => ?_))
            exact lk_wp_ret lk_i82_70 lk_M82 rfl H
          · refine lk_wp_seg (lo' := [.ref a0, .int x1, .int x2, .ref r6]) (st' := [.ref a0, .ref r6, .ref a0]) lk_M82 lk_s82_48_2 rfl ?_
            refine lk_wp_fR lk_i82_50 lk_M82 H (fun r17 H => ?_)
            refine lk_wp_cv (as := [.ref r17]) (r := [.ref a0]) (a := r6) lk_i82_53 lk_M82 rfl rfl rfl (Nat.le_of_ble_eq_true rfl) H (fun k23 H => lk_gi H (fun r19 h18 H => ?_))
            refine lk_wp_seg (lo' := [.ref a0, .int x1, .int x2, .ref r6]) (st' := [.int r19, .ref a0]) lk_M82 lk_s82_56_1 rfl ?_
            refine lk_wp_cv (as := [.int r19]) (r := []) (a := a0) lk_i82_67 lk_M82 rfl rfl rfl (Nat.le_of_ble_eq_true rfl) H (fun k22 H => lk_gi H (fun r21 h20 H => ?_))
            exact lk_wp_ret lk_i82_70 lk_M82 rfl H
      · refine lk_wp_seg (lo' := [.ref a0, .int x1, .int x2, .retAddr 0]) (st' := [.int ((-1000001))]) lk_M82 lk_s82_16_1 rfl ?_
        exact lk_wp_ret lk_i82_18 lk_M82 rfl H
/-! LonelyDots.trace(I)I -/
theorem lk_M83 : lk_mt[83]? = some (yX11_trace, cX11_trace, 2, ((some FieldType.int))) := rfl
theorem lk_s83_0_1 : lk_seg 83 [(.aload_n 0, 1, (0, [], .null))] 0 = some 1 := by decide +kernel
theorem lk_i83_1 : lk_ins 83 1 = some (.getfield 24, 3, (2, [(10, 0)], .null)) := lk_eqE_eq (by decide +kernel)
theorem lk_s83_4_1 : lk_seg 83 [(.iload_n 1, 1, (0, [], .null))] 4 = some 5 := by decide +kernel
theorem lk_i83_5 : lk_ins 83 5 = some (.invokevirtual 202, 3, (1, [(9, 64)], .ref 69)) := lk_eqE_eq (by decide +kernel)
theorem lk_i83_8 : lk_ins 83 8 = some (.ireturn, 1, (0, [], .null)) := lk_eqE_eq (by decide +kernel)
set_option maxRecDepth 20000 in
theorem E_x_trace {X : lk_X} {d : Nat} {x1 : Int32} {a0 : Nat} {h : lk_H} {Q : Option Value → lk_H → Prop} (H : lk_fR h a0 2 [(10, 0)] (fun r1 => lk_vc h r1 [(9, 64)] (fun k4 => lk_wxi X d k4 [.ref r1, .int x1] h (fun r3 h2 => Q (some (.int r3)) h2)))) : lk_wx X (d + 1) 83 [.ref a0, .int x1] h Q := by
  refine lk_enter (lo := [.ref a0, .int x1]) lk_M83 rfl (Nat.le_of_ble_eq_true rfl) ?_
  refine lk_wp_seg (lo' := [.ref a0, .int x1]) (st' := [.ref a0]) lk_M83 lk_s83_0_1 rfl ?_
  refine lk_wp_fR lk_i83_1 lk_M83 H (fun r1 H => ?_)
  refine lk_wp_seg (lo' := [.ref a0, .int x1]) (st' := [.int x1, .ref r1]) lk_M83 lk_s83_4_1 rfl ?_
  refine lk_wp_cv (as := [.int x1]) (r := []) (a := r1) lk_i83_5 lk_M83 rfl rfl rfl (Nat.le_of_ble_eq_true rfl) H (fun k4 H => lk_gi H (fun r3 h2 H => ?_))
  exact lk_wp_ret lk_i83_8 lk_M83 rfl H
/-! LonelyDots.at(II)I -/
theorem lk_M84 : lk_mt[84]? = some (yX11_at, cX11_at, 4, ((some FieldType.int))) := rfl
theorem lk_s84_0_1 : lk_seg 84 [(.iload_n 1, 1, (0, [], .null))] 0 = some 1 := by decide +kernel
theorem lk_i84_1 : lk_ins 84 1 = some (.invokestatic 96, 3, (0, [(0, 95)], .ref 46)) := lk_eqE_eq (by decide +kernel)
theorem lk_i84_4 : lk_ins 84 4 = some (.ifCond .ne 6, 3, (10, [], .null)) := lk_eqE_eq (by decide +kernel)
theorem lk_s84_10_1 : lk_seg 84 [(.aload_n 0, 1, (0, [], .null))] 10 = some 11 := by decide +kernel
theorem lk_i84_11 : lk_ins 84 11 = some (.getfield 17, 3, (1, [(10, 0)], .null)) := lk_eqE_eq (by decide +kernel)
theorem lk_s84_14_1 : lk_seg 84 [(.iload_n 1, 1, (0, [], .null))] 14 = some 15 := by decide +kernel
theorem lk_i84_15 : lk_ins 84 15 = some (.aaload, 1, (0, [], .null)) := lk_eqE_eq (by decide +kernel)
theorem lk_s84_16_2 : lk_seg 84 [(.astore_n 3, 1, (0, [], .null)), (.aload_n 3, 1, (0, [], .null))] 16 = some 18 := by decide +kernel
theorem lk_i84_18 : lk_ins 84 18 = some (.ifnonnull 9, 3, (27, [], .null)) := lk_eqE_eq (by decide +kernel)
theorem lk_s84_21_2 : lk_seg 84 [(.aload_n 0, 1, (0, [], .null)), (.iconst 1, 1, (0, [], .int (1)))] 21 = some 23 := by decide +kernel
theorem lk_i84_23 : lk_ins 84 23 = some (.invokevirtual 58, 3, (1, [(10, 96)], .ref 41)) := lk_eqE_eq (by decide +kernel)
theorem lk_i84_26 : lk_ins 84 26 = some (.ireturn, 1, (0, [], .null)) := lk_eqE_eq (by decide +kernel)
theorem lk_s84_27_1 : lk_seg 84 [(.iload_n 2, 1, (0, [], .null))] 27 = some 28 := by decide +kernel
theorem lk_i84_28 : lk_ins 84 28 = some (.ifCond .lt 12, 3, (40, [], .null)) := lk_eqE_eq (by decide +kernel)
theorem lk_s84_40_2 : lk_seg 84 [(.ldc 57, 2, (0, [], .int (-1000001))), (.goto 13, 3, (55, [], .null))] 40 = some 55 := by decide +kernel
theorem lk_i84_55 : lk_ins 84 55 = some (.ireturn, 1, (0, [], .null)) := lk_eqE_eq (by decide +kernel)
theorem lk_s84_31_2 : lk_seg 84 [(.iload_n 2, 1, (0, [], .null)), (.aload_n 3, 1, (0, [], .null))] 31 = some 33 := by decide +kernel
theorem lk_i84_33 : lk_ins 84 33 = some (.getfield 191, 3, (0, [(0, 0), (2, 0), (4, 0), (5, 0), (6, 0)], .null)) := lk_eqE_eq (by decide +kernel)
theorem lk_i84_36 : lk_ins 84 36 = some (.arraylength, 1, (0, [], .null)) := lk_eqE_eq (by decide +kernel)
theorem lk_i84_37 : lk_ins 84 37 = some (.if_icmp .lt 8, 3, (45, [], .null)) := lk_eqE_eq (by decide +kernel)
theorem lk_s84_45_2 : lk_seg 84 [(.aload_n 0, 1, (0, [], .null)), (.aload_n 3, 1, (0, [], .null))] 45 = some 47 := by decide +kernel
theorem lk_i84_47 : lk_ins 84 47 = some (.getfield 191, 3, (0, [(0, 0), (2, 0), (4, 0), (5, 0), (6, 0)], .null)) := lk_eqE_eq (by decide +kernel)
theorem lk_s84_50_1 : lk_seg 84 [(.iload_n 2, 1, (0, [], .null))] 50 = some 51 := by decide +kernel
theorem lk_i84_51 : lk_ins 84 51 = some (.iaload, 1, (0, [], .null)) := lk_eqE_eq (by decide +kernel)
theorem lk_i84_52 : lk_ins 84 52 = some (.invokevirtual 66, 3, (1, [(10, 97)], .ref 43)) := lk_eqE_eq (by decide +kernel)
theorem lk_s84_7_1 : lk_seg 84 [(.ldc 57, 2, (0, [], .int (-1000001)))] 7 = some 9 := by decide +kernel
theorem lk_i84_9 : lk_ins 84 9 = some (.ireturn, 1, (0, [], .null)) := lk_eqE_eq (by decide +kernel)
set_option maxRecDepth 20000 in
theorem E_x_at {X : lk_X} {d : Nat} {x1 x2 : Int32} {a0 : Nat} {h : lk_H} {Q : Option Value → lk_H → Prop} (H : lk_wxi X d 95 [.int x1] h (fun r2 h1 => (¬ r2 = 0 → lk_fR h1 a0 1 [(10, 0)] (fun r3 => lk_ra h1 r3 x1 (lk_vc h1 a0 [(10, 96)] (fun k7 => lk_wxi X d k7 [.ref a0, .int 1] h1 (fun r6 h5 => Q (some (.int r6)) h5))) (fun r4 => (x2 < 0 → Q (some (.int ((-1000001)))) h1) ∧ (¬ x2 < 0 → lk_fR h1 r4 0 [(0, 0), (2, 0), (4, 0), (5, 0), (6, 0)] (fun r8 => lk_al2 h1 r8 (fun r9 => (x2 < r9 → lk_fR h1 r4 0 [(0, 0), (2, 0), (4, 0), (5, 0), (6, 0)] (fun r10 => lk_ai h1 r10 x2 (fun r11 => lk_vc h1 a0 [(10, 97)] (fun k14 => lk_wxi X d k14 [.ref a0, .int r11] h1 (fun r13 h12 => Q (some (.int r13)) h12))))) ∧ (¬ x2 < r9 → Q (some (.int ((-1000001)))) h1))))))) ∧ (r2 = 0 → Q (some (.int ((-1000001)))) h1))) : lk_wx X (d + 1) 84 [.ref a0, .int x1, .int x2] h Q := by
  refine lk_enter (lo := [.ref a0, .int x1, .int x2, .retAddr 0]) lk_M84 rfl (Nat.le_of_ble_eq_true rfl) ?_
  refine lk_wp_seg (lo' := [.ref a0, .int x1, .int x2, .retAddr 0]) (st' := [.int x1]) lk_M84 lk_s84_0_1 rfl ?_
  refine lk_wp_cs (as := [.int x1]) (r := []) lk_i84_1 lk_M84 rfl rfl rfl rfl (Nat.le_of_ble_eq_true rfl) (lk_gi H (fun r2 h1 H => ?_))
  refine lk_wp_if_ne lk_i84_4 lk_M84 H (fun H => ?_) (fun H => ?_)
  · refine lk_wp_seg (lo' := [.ref a0, .int x1, .int x2, .retAddr 0]) (st' := [.ref a0]) lk_M84 lk_s84_10_1 rfl ?_
    refine lk_wp_fR lk_i84_11 lk_M84 H (fun r3 H => ?_)
    refine lk_wp_seg (lo' := [.ref a0, .int x1, .int x2, .retAddr 0]) (st' := [.int x1, .ref r3]) lk_M84 lk_s84_14_1 rfl ?_
    refine lk_wp_ra lk_i84_15 lk_M84 H ⟨fun H => ?_, fun r4 H => ?_⟩
    · refine lk_wp_seg (lo' := [.ref a0, .int x1, .int x2, .null]) (st' := [.null]) lk_M84 lk_s84_16_2 rfl ?_
      refine lk_wp_one lk_i84_18 lk_M84 rfl (lk_cal0 rfl) rfl ?_
      refine lk_wp_seg (lo' := [.ref a0, .int x1, .int x2, .null]) (st' := [.int 1, .ref a0]) lk_M84 lk_s84_21_2 rfl ?_
      refine lk_wp_cv (as := [.int 1]) (r := []) (a := a0) lk_i84_23 lk_M84 rfl rfl rfl (Nat.le_of_ble_eq_true rfl) H (fun k7 H => lk_gi H (fun r6 h5 H => ?_))
      exact lk_wp_ret lk_i84_26 lk_M84 rfl H
    · refine lk_wp_seg (lo' := [.ref a0, .int x1, .int x2, .ref r4]) (st' := [.ref r4]) lk_M84 lk_s84_16_2 rfl ?_
      refine lk_wp_one lk_i84_18 lk_M84 rfl (lk_cal0 rfl) rfl ?_
      refine lk_wp_seg (lo' := [.ref a0, .int x1, .int x2, .ref r4]) (st' := [.int x2]) lk_M84 lk_s84_27_1 rfl ?_
      refine lk_wp_if_lt lk_i84_28 lk_M84 H (fun H => ?_) (fun H => ?_)
      · refine lk_wp_seg (lo' := [.ref a0, .int x1, .int x2, .ref r4]) (st' := [.int ((-1000001))]) lk_M84 lk_s84_40_2 rfl ?_
        exact lk_wp_ret lk_i84_55 lk_M84 rfl H
      · refine lk_wp_seg (lo' := [.ref a0, .int x1, .int x2, .ref r4]) (st' := [.ref r4, .int x2]) lk_M84 lk_s84_31_2 rfl ?_
        refine lk_wp_fR lk_i84_33 lk_M84 H (fun r8 H => ?_)
        refine lk_wp_al lk_i84_36 lk_M84 H (fun r9 H => ?_)
        refine lk_wp_ic_lt lk_i84_37 lk_M84 H (fun H => ?_) (fun H => ?_)
        · refine lk_wp_seg (lo' := [.ref a0, .int x1, .int x2, .ref r4]) (st' := [.ref r4, .ref a0]) lk_M84 lk_s84_45_2 rfl ?_
          refine lk_wp_fR lk_i84_47 lk_M84 H (fun r10 H => ?_)
          refine lk_wp_seg (lo' := [.ref a0, .int x1, .int x2, .ref r4]) (st' := [.int x2, .ref r10, .ref a0]) lk_M84 lk_s84_50_1 rfl ?_
          refine lk_wp_ai lk_i84_51 lk_M84 H (fun r11 H => ?_)
          refine lk_wp_cv (as := [.int r11]) (r := []) (a := a0) lk_i84_52 lk_M84 rfl rfl rfl (Nat.le_of_ble_eq_true rfl) H (fun k14 H => lk_gi H (fun r13 h12 H => ?_))
          exact lk_wp_ret lk_i84_55 lk_M84 rfl H
        · refine lk_wp_seg (lo' := [.ref a0, .int x1, .int x2, .ref r4]) (st' := [.int ((-1000001))]) lk_M84 lk_s84_40_2 rfl ?_
          exact lk_wp_ret lk_i84_55 lk_M84 rfl H
  · refine lk_wp_seg (lo' := [.ref a0, .int x1, .int x2, .retAddr 0]) (st' := [.int ((-1000001))]) lk_M84 lk_s84_7_1 rfl ?_
    exact lk_wp_ret lk_i84_9 lk_M84 rfl H
/-! LonelyDots.alike(II)I -/
theorem lk_M85 : lk_mt[85]? = some (yX11_alike, cX11_alike, 4, ((some FieldType.int))) := rfl
theorem lk_s85_0_1 : lk_seg 85 [(.iload_n 1, 1, (0, [], .null))] 0 = some 1 := by decide +kernel
theorem lk_i85_1 : lk_ins 85 1 = some (.invokestatic 96, 3, (0, [(0, 95)], .ref 46)) := lk_eqE_eq (by decide +kernel)
theorem lk_i85_4 : lk_ins 85 4 = some (.ifCond .eq 12, 3, (16, [], .null)) := lk_eqE_eq (by decide +kernel)
theorem lk_s85_16_1 : lk_seg 85 [(.ldc 57, 2, (0, [], .int (-1000001)))] 16 = some 18 := by decide +kernel
theorem lk_i85_18 : lk_ins 85 18 = some (.ireturn, 1, (0, [], .null)) := lk_eqE_eq (by decide +kernel)
theorem lk_s85_7_1 : lk_seg 85 [(.iload_n 2, 1, (0, [], .null))] 7 = some 8 := by decide +kernel
theorem lk_i85_8 : lk_ins 85 8 = some (.ifCond .lt 8, 3, (16, [], .null)) := lk_eqE_eq (by decide +kernel)
theorem lk_s85_11_2 : lk_seg 85 [(.iload_n 2, 1, (0, [], .null)), (.iconst 3, 1, (0, [], .int (3)))] 11 = some 13 := by decide +kernel
theorem lk_i85_13 : lk_ins 85 13 = some (.if_icmp .le 6, 3, (19, [], .null)) := lk_eqE_eq (by decide +kernel)
theorem lk_s85_19_1 : lk_seg 85 [(.aload_n 0, 1, (0, [], .null))] 19 = some 20 := by decide +kernel
theorem lk_i85_20 : lk_ins 85 20 = some (.getfield 17, 3, (1, [(10, 0)], .null)) := lk_eqE_eq (by decide +kernel)
theorem lk_s85_23_1 : lk_seg 85 [(.iload_n 1, 1, (0, [], .null))] 23 = some 24 := by decide +kernel
theorem lk_i85_24 : lk_ins 85 24 = some (.aaload, 1, (0, [], .null)) := lk_eqE_eq (by decide +kernel)
theorem lk_s85_25_2 : lk_seg 85 [(.astore_n 3, 1, (0, [], .null)), (.aload_n 3, 1, (0, [], .null))] 25 = some 27 := by decide +kernel
theorem lk_i85_27 : lk_ins 85 27 = some (.ifnonnull 11, 3, (38, [], .null)) := lk_eqE_eq (by decide +kernel)
theorem lk_s85_30_2 : lk_seg 85 [(.aload_n 0, 1, (0, [], .null)), (.iconst 1, 1, (0, [], .int (1)))] 30 = some 32 := by decide +kernel
theorem lk_i85_32 : lk_ins 85 32 = some (.invokevirtual 58, 3, (1, [(10, 96)], .ref 41)) := lk_eqE_eq (by decide +kernel)
theorem lk_s85_35_1 : lk_seg 85 [(.goto 12, 3, (47, [], .null))] 35 = some 47 := by decide +kernel
theorem lk_i85_47 : lk_ins 85 47 = some (.ireturn, 1, (0, [], .null)) := lk_eqE_eq (by decide +kernel)
theorem lk_s85_38_3 : lk_seg 85 [(.aload_n 0, 1, (0, [], .null)), (.aload_n 3, 1, (0, [], .null)), (.iload_n 2, 1, (0, [], .null))] 38 = some 41 := by decide +kernel
theorem lk_i85_41 : lk_ins 85 41 = some (.invokevirtual 205, 3, (2, [(0, 58), (2, 58), (4, 58), (5, 58), (6, 58)], .ref 70)) := lk_eqE_eq (by decide +kernel)
theorem lk_i85_44 : lk_ins 85 44 = some (.invokevirtual 66, 3, (1, [(10, 97)], .ref 43)) := lk_eqE_eq (by decide +kernel)
set_option maxRecDepth 20000 in
theorem E_x_alike {X : lk_X} {d : Nat} {x1 x2 : Int32} {a0 : Nat} {h : lk_H} {Q : Option Value → lk_H → Prop} (H : lk_wxi X d 95 [.int x1] h (fun r2 h1 => (r2 = 0 → Q (some (.int ((-1000001)))) h1) ∧ (¬ r2 = 0 → (x2 < 0 → Q (some (.int ((-1000001)))) h1) ∧ (¬ x2 < 0 → (x2 ≤ 3 → lk_fR h1 a0 1 [(10, 0)] (fun r3 => lk_ra h1 r3 x1 (lk_vc h1 a0 [(10, 96)] (fun k7 => lk_wxi X d k7 [.ref a0, .int 1] h1 (fun r6 h5 => Q (some (.int r6)) h5))) (fun r4 => lk_vc h1 r4 [(0, 58), (2, 58), (4, 58), (5, 58), (6, 58)] (fun k13 => lk_wxi X d k13 [.ref r4, .int x2] h1 (fun r9 h8 => lk_vc h8 a0 [(10, 97)] (fun k12 => lk_wxi X d k12 [.ref a0, .int r9] h8 (fun r11 h10 => Q (some (.int r11)) h10))))))) ∧ (¬ x2 ≤ 3 → Q (some (.int ((-1000001)))) h1))))) : lk_wx X (d + 1) 85 [.ref a0, .int x1, .int x2] h Q := by
  refine lk_enter (lo := [.ref a0, .int x1, .int x2, .retAddr 0]) lk_M85 rfl (Nat.le_of_ble_eq_true rfl) ?_
  refine lk_wp_seg (lo' := [.ref a0, .int x1, .int x2, .retAddr 0]) (st' := [.int x1]) lk_M85 lk_s85_0_1 rfl ?_
  refine lk_wp_cs (as := [.int x1]) (r := []) lk_i85_1 lk_M85 rfl rfl rfl rfl (Nat.le_of_ble_eq_true rfl) (lk_gi H (fun r2 h1 H => ?_))
  refine lk_wp_if_eq lk_i85_4 lk_M85 H (fun H => ?_) (fun H => ?_)
  · refine lk_wp_seg (lo' := [.ref a0, .int x1, .int x2, .retAddr 0]) (st' := [.int ((-1000001))]) lk_M85 lk_s85_16_1 rfl ?_
    exact lk_wp_ret lk_i85_18 lk_M85 rfl H
  · refine lk_wp_seg (lo' := [.ref a0, .int x1, .int x2, .retAddr 0]) (st' := [.int x2]) lk_M85 lk_s85_7_1 rfl ?_
    refine lk_wp_if_lt lk_i85_8 lk_M85 H (fun H => ?_) (fun H => ?_)
    · refine lk_wp_seg (lo' := [.ref a0, .int x1, .int x2, .retAddr 0]) (st' := [.int ((-1000001))]) lk_M85 lk_s85_16_1 rfl ?_
      exact lk_wp_ret lk_i85_18 lk_M85 rfl H
    · refine lk_wp_seg (lo' := [.ref a0, .int x1, .int x2, .retAddr 0]) (st' := [.int 3, .int x2]) lk_M85 lk_s85_11_2 rfl ?_
      refine lk_wp_ic_le lk_i85_13 lk_M85 H (fun H => ?_) (fun H => ?_)
      · refine lk_wp_seg (lo' := [.ref a0, .int x1, .int x2, .retAddr 0]) (st' := [.ref a0]) lk_M85 lk_s85_19_1 rfl ?_
        refine lk_wp_fR lk_i85_20 lk_M85 H (fun r3 H => ?_)
        refine lk_wp_seg (lo' := [.ref a0, .int x1, .int x2, .retAddr 0]) (st' := [.int x1, .ref r3]) lk_M85 lk_s85_23_1 rfl ?_
        refine lk_wp_ra lk_i85_24 lk_M85 H ⟨fun H => ?_, fun r4 H => ?_⟩
        · refine lk_wp_seg (lo' := [.ref a0, .int x1, .int x2, .null]) (st' := [.null]) lk_M85 lk_s85_25_2 rfl ?_
          refine lk_wp_one lk_i85_27 lk_M85 rfl (lk_cal0 rfl) rfl ?_
          refine lk_wp_seg (lo' := [.ref a0, .int x1, .int x2, .null]) (st' := [.int 1, .ref a0]) lk_M85 lk_s85_30_2 rfl ?_
          refine lk_wp_cv (as := [.int 1]) (r := []) (a := a0) lk_i85_32 lk_M85 rfl rfl rfl (Nat.le_of_ble_eq_true rfl) H (fun k7 H => lk_gi H (fun r6 h5 H => ?_))
          refine lk_wp_seg (lo' := [.ref a0, .int x1, .int x2, .null]) (st' := [.int r6]) lk_M85 lk_s85_35_1 rfl ?_
          exact lk_wp_ret lk_i85_47 lk_M85 rfl H
        · refine lk_wp_seg (lo' := [.ref a0, .int x1, .int x2, .ref r4]) (st' := [.ref r4]) lk_M85 lk_s85_25_2 rfl ?_
          refine lk_wp_one lk_i85_27 lk_M85 rfl (lk_cal0 rfl) rfl ?_
          refine lk_wp_seg (lo' := [.ref a0, .int x1, .int x2, .ref r4]) (st' := [.int x2, .ref r4, .ref a0]) lk_M85 lk_s85_38_3 rfl ?_
          refine lk_wp_cv (as := [.int x2]) (r := [.ref a0]) (a := r4) lk_i85_41 lk_M85 rfl rfl rfl (Nat.le_of_ble_eq_true rfl) H (fun k13 H => lk_gi H (fun r9 h8 H => ?_))
          refine lk_wp_cv (as := [.int r9]) (r := []) (a := a0) lk_i85_44 lk_M85 rfl rfl rfl (Nat.le_of_ble_eq_true rfl) H (fun k12 H => lk_gi H (fun r11 h10 H => ?_))
          exact lk_wp_ret lk_i85_47 lk_M85 rfl H
      · refine lk_wp_seg (lo' := [.ref a0, .int x1, .int x2, .retAddr 0]) (st' := [.int ((-1000001))]) lk_M85 lk_s85_16_1 rfl ?_
        exact lk_wp_ret lk_i85_18 lk_M85 rfl H
/-! LonelyDots.meeting(IIII)I -/
theorem lk_M86 : lk_mt[86]? = some (yX11_meeting, cX11_meeting, 7, ((some FieldType.int))) := rfl
theorem lk_s86_0_1 : lk_seg 86 [(.iload_n 1, 1, (0, [], .null))] 0 = some 1 := by decide +kernel
theorem lk_i86_1 : lk_ins 86 1 = some (.invokestatic 96, 3, (0, [(0, 95)], .ref 46)) := lk_eqE_eq (by decide +kernel)
theorem lk_i86_4 : lk_ins 86 4 = some (.ifCond .eq 32, 3, (36, [], .null)) := lk_eqE_eq (by decide +kernel)
theorem lk_s86_36_1 : lk_seg 86 [(.ldc 57, 2, (0, [], .int (-1000001)))] 36 = some 38 := by decide +kernel
theorem lk_i86_38 : lk_ins 86 38 = some (.ireturn, 1, (0, [], .null)) := lk_eqE_eq (by decide +kernel)
theorem lk_s86_7_1 : lk_seg 86 [(.iload_n 2, 1, (0, [], .null))] 7 = some 8 := by decide +kernel
theorem lk_i86_8 : lk_ins 86 8 = some (.invokestatic 96, 3, (0, [(0, 95)], .ref 46)) := lk_eqE_eq (by decide +kernel)
theorem lk_i86_11 : lk_ins 86 11 = some (.ifCond .eq 25, 3, (36, [], .null)) := lk_eqE_eq (by decide +kernel)
theorem lk_s86_14_2 : lk_seg 86 [(.iload_n 3, 1, (0, [], .null)), (.iload 4, 2, (0, [], .null))] 14 = some 17 := by decide +kernel
theorem lk_i86_17 : lk_ins 86 17 = some (.invokestatic 208, 3, (102, [], .null)) := lk_eqE_eq (by decide +kernel)
theorem lk_s86_20_1 : lk_seg 86 [(.bipush 20, 2, (0, [], .int (20)))] 20 = some 22 := by decide +kernel
theorem lk_i86_22 : lk_ins 86 22 = some (.if_icmp .gt 14, 3, (36, [], .null)) := lk_eqE_eq (by decide +kernel)
theorem lk_s86_25_2 : lk_seg 86 [(.iload_n 3, 1, (0, [], .null)), (.iload 4, 2, (0, [], .null))] 25 = some 28 := by decide +kernel
theorem lk_i86_28 : lk_ins 86 28 = some (.invokestatic 214, 3, (103, [], .null)) := lk_eqE_eq (by decide +kernel)
theorem lk_s86_31_1 : lk_seg 86 [(.bipush (-20), 2, (0, [], .int (-20)))] 31 = some 33 := by decide +kernel
theorem lk_i86_33 : lk_ins 86 33 = some (.if_icmp .ge 6, 3, (39, [], .null)) := lk_eqE_eq (by decide +kernel)
theorem lk_s86_39_2 : lk_seg 86 [(.aload_n 0, 1, (0, [], .null)), (.iload_n 1, 1, (0, [], .null))] 39 = some 41 := by decide +kernel
theorem lk_i86_41 : lk_ins 86 41 = some (.invokevirtual 142, 3, (1, [(10, 100)], .ref 58)) := lk_eqE_eq (by decide +kernel)
theorem lk_s86_44_2 : lk_seg 86 [(.astore 5, 2, (0, [], .null)), (.aload 5, 2, (0, [], .null))] 44 = some 48 := by decide +kernel
theorem lk_i86_48 : lk_ins 86 48 = some (.ifnonnull 13, 3, (61, [], .null)) := lk_eqE_eq (by decide +kernel)
theorem lk_s86_51_3 : lk_seg 86 [(.aload_n 0, 1, (0, [], .null)), (.aload_n 0, 1, (0, [], .null)), (.iload_n 1, 1, (0, [], .null))] 51 = some 54 := by decide +kernel
theorem lk_i86_54 : lk_ins 86 54 = some (.invokevirtual 146, 3, (1, [(10, 101)], .ref 59)) := lk_eqE_eq (by decide +kernel)
theorem lk_i86_57 : lk_ins 86 57 = some (.invokevirtual 58, 3, (1, [(10, 96)], .ref 41)) := lk_eqE_eq (by decide +kernel)
theorem lk_i86_60 : lk_ins 86 60 = some (.ireturn, 1, (0, [], .null)) := lk_eqE_eq (by decide +kernel)
theorem lk_s86_61_2 : lk_seg 86 [(.aload_n 0, 1, (0, [], .null)), (.iload_n 2, 1, (0, [], .null))] 61 = some 63 := by decide +kernel
theorem lk_i86_63 : lk_ins 86 63 = some (.invokevirtual 142, 3, (1, [(10, 100)], .ref 58)) := lk_eqE_eq (by decide +kernel)
theorem lk_s86_66_2 : lk_seg 86 [(.astore 6, 2, (0, [], .null)), (.aload 6, 2, (0, [], .null))] 66 = some 70 := by decide +kernel
theorem lk_i86_70 : lk_ins 86 70 = some (.ifnonnull 13, 3, (83, [], .null)) := lk_eqE_eq (by decide +kernel)
theorem lk_s86_73_3 : lk_seg 86 [(.aload_n 0, 1, (0, [], .null)), (.aload_n 0, 1, (0, [], .null)), (.iload_n 2, 1, (0, [], .null))] 73 = some 76 := by decide +kernel
theorem lk_i86_76 : lk_ins 86 76 = some (.invokevirtual 146, 3, (1, [(10, 101)], .ref 59)) := lk_eqE_eq (by decide +kernel)
theorem lk_i86_79 : lk_ins 86 79 = some (.invokevirtual 58, 3, (1, [(10, 96)], .ref 41)) := lk_eqE_eq (by decide +kernel)
theorem lk_i86_82 : lk_ins 86 82 = some (.ireturn, 1, (0, [], .null)) := lk_eqE_eq (by decide +kernel)
theorem lk_s86_83_2 : lk_seg 86 [(.aload_n 0, 1, (0, [], .null)), (.aload 5, 2, (0, [], .null))] 83 = some 86 := by decide +kernel
theorem lk_i86_86 : lk_ins 86 86 = some (.getfield 149, 3, (0, [(0, 5), (2, 5), (4, 5), (5, 5), (6, 5)], .null)) := lk_eqE_eq (by decide +kernel)
theorem lk_s86_89_1 : lk_seg 86 [(.aload 6, 2, (0, [], .null))] 89 = some 91 := by decide +kernel
theorem lk_i86_91 : lk_ins 86 91 = some (.getfield 149, 3, (0, [(0, 5), (2, 5), (4, 5), (5, 5), (6, 5)], .null)) := lk_eqE_eq (by decide +kernel)
theorem lk_s86_94_2 : lk_seg 86 [(.iload_n 3, 1, (0, [], .null)), (.iload 4, 2, (0, [], .null))] 94 = some 97 := by decide +kernel
theorem lk_i86_97 : lk_ins 86 97 = some (.invokestatic 217, 3, (0, [(0, 20)], .ref 71)) := lk_eqE_eq (by decide +kernel)
theorem lk_i86_100 : lk_ins 86 100 = some (.invokevirtual 66, 3, (1, [(10, 97)], .ref 43)) := lk_eqE_eq (by decide +kernel)
theorem lk_i86_103 : lk_ins 86 103 = some (.ireturn, 1, (0, [], .null)) := lk_eqE_eq (by decide +kernel)
set_option maxRecDepth 20000 in
theorem E_x_meeting {X : lk_X} {d : Nat} {x1 x2 x3 x4 : Int32} {a0 : Nat} {h : lk_H} {Q : Option Value → lk_H → Prop} (H : lk_wxi X d 95 [.int x1] h (fun r2 h1 => (r2 = 0 → Q (some (.int ((-1000001)))) h1) ∧ (¬ r2 = 0 → lk_wxi X d 95 [.int x2] h1 (fun r4 h3 => (r4 = 0 → Q (some (.int ((-1000001)))) h3) ∧ (¬ r4 = 0 → (20 < (if x3 < x4 then x4 else x3) → Q (some (.int ((-1000001)))) h3) ∧ (¬ 20 < (if x3 < x4 then x4 else x3) → ((-20) ≤ (if x4 < x3 then x4 else x3) → lk_vc h3 a0 [(10, 100)] (fun k29 => lk_wxr X d k29 [.ref a0, .int x1] h3 (fun h5 => lk_vc h5 a0 [(10, 101)] (fun k12 => lk_wxi X d k12 [.ref a0, .int x1] h5 (fun r8 h7 => lk_vc h7 a0 [(10, 96)] (fun k11 => lk_wxi X d k11 [.ref a0, .int r8] h7 (fun r10 h9 => Q (some (.int r10)) h9))))) (fun r6 h5 => lk_vc h5 a0 [(10, 100)] (fun k28 => lk_wxr X d k28 [.ref a0, .int x2] h5 (fun h13 => lk_vc h13 a0 [(10, 101)] (fun k20 => lk_wxi X d k20 [.ref a0, .int x2] h13 (fun r16 h15 => lk_vc h15 a0 [(10, 96)] (fun k19 => lk_wxi X d k19 [.ref a0, .int r16] h15 (fun r18 h17 => Q (some (.int r18)) h17))))) (fun r14 h13 => lk_fR h13 r6 0 [(0, 5), (2, 5), (4, 5), (5, 5), (6, 5)] (fun r21 => lk_fR h13 r14 0 [(0, 5), (2, 5), (4, 5), (5, 5), (6, 5)] (fun r22 => lk_wxi X d 20 [.ref r21, .ref r22, .int x3, .int x4] h13 (fun r24 h23 => lk_vc h23 a0 [(10, 97)] (fun k27 => lk_wxi X d k27 [.ref a0, .int r24] h23 (fun r26 h25 => Q (some (.int r26)) h25)))))))))) ∧ (¬ (-20) ≤ (if x4 < x3 then x4 else x3) → Q (some (.int ((-1000001)))) h3))))))) : lk_wx X (d + 1) 86 [.ref a0, .int x1, .int x2, .int x3, .int x4] h Q := by
  refine lk_enter (lo := [.ref a0, .int x1, .int x2, .int x3, .int x4, .retAddr 0, .retAddr 0]) lk_M86 rfl (Nat.le_of_ble_eq_true rfl) ?_
  refine lk_wp_seg (lo' := [.ref a0, .int x1, .int x2, .int x3, .int x4, .retAddr 0, .retAddr 0]) (st' := [.int x1]) lk_M86 lk_s86_0_1 rfl ?_
  refine lk_wp_cs (as := [.int x1]) (r := []) lk_i86_1 lk_M86 rfl rfl rfl rfl (Nat.le_of_ble_eq_true rfl) (lk_gi H (fun r2 h1 H => ?_))
  refine lk_wp_if_eq lk_i86_4 lk_M86 H (fun H => ?_) (fun H => ?_)
  · refine lk_wp_seg (lo' := [.ref a0, .int x1, .int x2, .int x3, .int x4, .retAddr 0, .retAddr 0]) (st' := [.int ((-1000001))]) lk_M86 lk_s86_36_1 rfl ?_
    exact lk_wp_ret lk_i86_38 lk_M86 rfl H
  · refine lk_wp_seg (lo' := [.ref a0, .int x1, .int x2, .int x3, .int x4, .retAddr 0, .retAddr 0]) (st' := [.int x2]) lk_M86 lk_s86_7_1 rfl ?_
    refine lk_wp_cs (as := [.int x2]) (r := []) lk_i86_8 lk_M86 rfl rfl rfl rfl (Nat.le_of_ble_eq_true rfl) (lk_gi H (fun r4 h3 H => ?_))
    refine lk_wp_if_eq lk_i86_11 lk_M86 H (fun H => ?_) (fun H => ?_)
    · refine lk_wp_seg (lo' := [.ref a0, .int x1, .int x2, .int x3, .int x4, .retAddr 0, .retAddr 0]) (st' := [.int ((-1000001))]) lk_M86 lk_s86_36_1 rfl ?_
      exact lk_wp_ret lk_i86_38 lk_M86 rfl H
    · refine lk_wp_seg (lo' := [.ref a0, .int x1, .int x2, .int x3, .int x4, .retAddr 0, .retAddr 0]) (st' := [.int x4, .int x3]) lk_M86 lk_s86_14_2 rfl ?_
      refine lk_wp_max lk_i86_17 lk_M86 rfl rfl (Nat.le_of_ble_eq_true rfl) ?_
      refine lk_wp_seg (lo' := [.ref a0, .int x1, .int x2, .int x3, .int x4, .retAddr 0, .retAddr 0]) (st' := [.int 20, .int (if x3 < x4 then x4 else x3)]) lk_M86 lk_s86_20_1 rfl ?_
      refine lk_wp_ic_gt lk_i86_22 lk_M86 H (fun H => ?_) (fun H => ?_)
      · refine lk_wp_seg (lo' := [.ref a0, .int x1, .int x2, .int x3, .int x4, .retAddr 0, .retAddr 0]) (st' := [.int ((-1000001))]) lk_M86 lk_s86_36_1 rfl ?_
        exact lk_wp_ret lk_i86_38 lk_M86 rfl H
      · refine lk_wp_seg (lo' := [.ref a0, .int x1, .int x2, .int x3, .int x4, .retAddr 0, .retAddr 0]) (st' := [.int x4, .int x3]) lk_M86 lk_s86_25_2 rfl ?_
        refine lk_wp_min lk_i86_28 lk_M86 rfl rfl (Nat.le_of_ble_eq_true rfl) ?_
        refine lk_wp_seg (lo' := [.ref a0, .int x1, .int x2, .int x3, .int x4, .retAddr 0, .retAddr 0]) (st' := [.int ((-20)), .int (if x4 < x3 then x4 else x3)]) lk_M86 lk_s86_31_1 rfl ?_
        refine lk_wp_ic_ge lk_i86_33 lk_M86 H (fun H => ?_) (fun H => ?_)
        · refine lk_wp_seg (lo' := [.ref a0, .int x1, .int x2, .int x3, .int x4, .retAddr 0, .retAddr 0]) (st' := [.int x1, .ref a0]) lk_M86 lk_s86_39_2 rfl ?_
          refine lk_wp_cv (as := [.int x1]) (r := []) (a := a0) lk_i86_41 lk_M86 rfl rfl rfl (Nat.le_of_ble_eq_true rfl) H (fun k29 H => lk_gr H (fun h5 H => ?_) (fun r6 h5 H => ?_))
          · refine lk_wp_seg (lo' := [.ref a0, .int x1, .int x2, .int x3, .int x4, .null, .retAddr 0]) (st' := [.null]) lk_M86 lk_s86_44_2 rfl ?_
            refine lk_wp_one lk_i86_48 lk_M86 rfl (lk_cal0 rfl) rfl ?_
            refine lk_wp_seg (lo' := [.ref a0, .int x1, .int x2, .int x3, .int x4, .null, .retAddr 0]) (st' := [.int x1, .ref a0, .ref a0]) lk_M86 lk_s86_51_3 rfl ?_
            refine lk_wp_cv (as := [.int x1]) (r := [.ref a0]) (a := a0) lk_i86_54 lk_M86 rfl rfl rfl (Nat.le_of_ble_eq_true rfl) H (fun k12 H => lk_gi H (fun r8 h7 H => ?_))
            refine lk_wp_cv (as := [.int r8]) (r := []) (a := a0) lk_i86_57 lk_M86 rfl rfl rfl (Nat.le_of_ble_eq_true rfl) H (fun k11 H => lk_gi H (fun r10 h9 H => ?_))
            exact lk_wp_ret lk_i86_60 lk_M86 rfl H
          · refine lk_wp_seg (lo' := [.ref a0, .int x1, .int x2, .int x3, .int x4, .ref r6, .retAddr 0]) (st' := [.ref r6]) lk_M86 lk_s86_44_2 rfl ?_
            refine lk_wp_one lk_i86_48 lk_M86 rfl (lk_cal0 rfl) rfl ?_
            refine lk_wp_seg (lo' := [.ref a0, .int x1, .int x2, .int x3, .int x4, .ref r6, .retAddr 0]) (st' := [.int x2, .ref a0]) lk_M86 lk_s86_61_2 rfl ?_
            refine lk_wp_cv (as := [.int x2]) (r := []) (a := a0) lk_i86_63 lk_M86 rfl rfl rfl (Nat.le_of_ble_eq_true rfl) H (fun k28 H => lk_gr H (fun h13 H => ?_) (fun r14 h13 H => ?_))
            · refine lk_wp_seg (lo' := [.ref a0, .int x1, .int x2, .int x3, .int x4, .ref r6, .null]) (st' := [.null]) lk_M86 lk_s86_66_2 rfl ?_
              refine lk_wp_one lk_i86_70 lk_M86 rfl (lk_cal0 rfl) rfl ?_
              refine lk_wp_seg (lo' := [.ref a0, .int x1, .int x2, .int x3, .int x4, .ref r6, .null]) (st' := [.int x2, .ref a0, .ref a0]) lk_M86 lk_s86_73_3 rfl ?_
              refine lk_wp_cv (as := [.int x2]) (r := [.ref a0]) (a := a0) lk_i86_76 lk_M86 rfl rfl rfl (Nat.le_of_ble_eq_true rfl) H (fun k20 H => lk_gi H (fun r16 h15 H => ?_))
              refine lk_wp_cv (as := [.int r16]) (r := []) (a := a0) lk_i86_79 lk_M86 rfl rfl rfl (Nat.le_of_ble_eq_true rfl) H (fun k19 H => lk_gi H (fun r18 h17 H => ?_))
              exact lk_wp_ret lk_i86_82 lk_M86 rfl H
            · refine lk_wp_seg (lo' := [.ref a0, .int x1, .int x2, .int x3, .int x4, .ref r6, .ref r14]) (st' := [.ref r14]) lk_M86 lk_s86_66_2 rfl ?_
              refine lk_wp_one lk_i86_70 lk_M86 rfl (lk_cal0 rfl) rfl ?_
              refine lk_wp_seg (lo' := [.ref a0, .int x1, .int x2, .int x3, .int x4, .ref r6, .ref r14]) (st' := [.ref r6, .ref a0]) lk_M86 lk_s86_83_2 rfl ?_
              refine lk_wp_fR lk_i86_86 lk_M86 H (fun r21 H => ?_)
              refine lk_wp_seg (lo' := [.ref a0, .int x1, .int x2, .int x3, .int x4, .ref r6, .ref r14]) (st' := [.ref r14, .ref r21, .ref a0]) lk_M86 lk_s86_89_1 rfl ?_
              refine lk_wp_fR lk_i86_91 lk_M86 H (fun r22 H => ?_)
              refine lk_wp_seg (lo' := [.ref a0, .int x1, .int x2, .int x3, .int x4, .ref r6, .ref r14]) (st' := [.int x4, .int x3, .ref r22, .ref r21, .ref a0]) lk_M86 lk_s86_94_2 rfl ?_
              refine lk_wp_cs (as := [.ref r21, .ref r22, .int x3, .int x4]) (r := [.ref a0]) lk_i86_97 lk_M86 rfl rfl rfl rfl (Nat.le_of_ble_eq_true rfl) (lk_gi H (fun r24 h23 H => ?_))
              refine lk_wp_cv (as := [.int r24]) (r := []) (a := a0) lk_i86_100 lk_M86 rfl rfl rfl (Nat.le_of_ble_eq_true rfl) H (fun k27 H => lk_gi H (fun r26 h25 H => ?_))
              exact lk_wp_ret lk_i86_103 lk_M86 rfl H
        · refine lk_wp_seg (lo' := [.ref a0, .int x1, .int x2, .int x3, .int x4, .retAddr 0, .retAddr 0]) (st' := [.int ((-1000001))]) lk_M86 lk_s86_36_1 rfl ?_
          exact lk_wp_ret lk_i86_38 lk_M86 rfl H
/-! LonelyDots.most(I)I -/
theorem lk_M87 : lk_mt[87]? = some (yX11_most, cX11_most, 3, ((some FieldType.int))) := rfl
theorem lk_s87_0_1 : lk_seg 87 [(.iload_n 1, 1, (0, [], .null))] 0 = some 1 := by decide +kernel
theorem lk_i87_1 : lk_ins 87 1 = some (.invokestatic 96, 3, (0, [(0, 95)], .ref 46)) := lk_eqE_eq (by decide +kernel)
theorem lk_i87_4 : lk_ins 87 4 = some (.ifCond .ne 6, 3, (10, [], .null)) := lk_eqE_eq (by decide +kernel)
theorem lk_s87_10_2 : lk_seg 87 [(.aload_n 0, 1, (0, [], .null)), (.iload_n 1, 1, (0, [], .null))] 10 = some 12 := by decide +kernel
theorem lk_i87_12 : lk_ins 87 12 = some (.invokevirtual 142, 3, (1, [(10, 100)], .ref 58)) := lk_eqE_eq (by decide +kernel)
theorem lk_s87_15_2 : lk_seg 87 [(.astore_n 2, 1, (0, [], .null)), (.aload_n 2, 1, (0, [], .null))] 15 = some 17 := by decide +kernel
theorem lk_i87_17 : lk_ins 87 17 = some (.ifnonnull 13, 3, (30, [], .null)) := lk_eqE_eq (by decide +kernel)
theorem lk_s87_20_3 : lk_seg 87 [(.aload_n 0, 1, (0, [], .null)), (.aload_n 0, 1, (0, [], .null)), (.iload_n 1, 1, (0, [], .null))] 20 = some 23 := by decide +kernel
theorem lk_i87_23 : lk_ins 87 23 = some (.invokevirtual 146, 3, (1, [(10, 101)], .ref 59)) := lk_eqE_eq (by decide +kernel)
theorem lk_i87_26 : lk_ins 87 26 = some (.invokevirtual 58, 3, (1, [(10, 96)], .ref 41)) := lk_eqE_eq (by decide +kernel)
theorem lk_i87_29 : lk_ins 87 29 = some (.ireturn, 1, (0, [], .null)) := lk_eqE_eq (by decide +kernel)
theorem lk_s87_30_2 : lk_seg 87 [(.aload_n 0, 1, (0, [], .null)), (.aload_n 0, 1, (0, [], .null))] 30 = some 32 := by decide +kernel
theorem lk_i87_32 : lk_ins 87 32 = some (.getfield 31, 3, (3, [(10, 0)], .null)) := lk_eqE_eq (by decide +kernel)
theorem lk_s87_35_1 : lk_seg 87 [(.aload_n 2, 1, (0, [], .null))] 35 = some 36 := by decide +kernel
theorem lk_i87_36 : lk_ins 87 36 = some (.getfield 149, 3, (0, [(0, 5), (2, 5), (4, 5), (5, 5), (6, 5)], .null)) := lk_eqE_eq (by decide +kernel)
theorem lk_i87_39 : lk_ins 87 39 = some (.invokevirtual 221, 3, (1, [(3, 22)], .ref 72)) := lk_eqE_eq (by decide +kernel)
theorem lk_i87_42 : lk_ins 87 42 = some (.invokevirtual 66, 3, (1, [(10, 97)], .ref 43)) := lk_eqE_eq (by decide +kernel)
theorem lk_i87_45 : lk_ins 87 45 = some (.ireturn, 1, (0, [], .null)) := lk_eqE_eq (by decide +kernel)
theorem lk_s87_7_1 : lk_seg 87 [(.ldc 57, 2, (0, [], .int (-1000001)))] 7 = some 9 := by decide +kernel
theorem lk_i87_9 : lk_ins 87 9 = some (.ireturn, 1, (0, [], .null)) := lk_eqE_eq (by decide +kernel)
set_option maxRecDepth 20000 in
theorem E_x_most {X : lk_X} {d : Nat} {x1 : Int32} {a0 : Nat} {h : lk_H} {Q : Option Value → lk_H → Prop} (H : lk_wxi X d 95 [.int x1] h (fun r2 h1 => (¬ r2 = 0 → lk_vc h1 a0 [(10, 100)] (fun k19 => lk_wxr X d k19 [.ref a0, .int x1] h1 (fun h3 => lk_vc h3 a0 [(10, 101)] (fun k10 => lk_wxi X d k10 [.ref a0, .int x1] h3 (fun r6 h5 => lk_vc h5 a0 [(10, 96)] (fun k9 => lk_wxi X d k9 [.ref a0, .int r6] h5 (fun r8 h7 => Q (some (.int r8)) h7))))) (fun r4 h3 => lk_fR h3 a0 3 [(10, 0)] (fun r11 => lk_fR h3 r4 0 [(0, 5), (2, 5), (4, 5), (5, 5), (6, 5)] (fun r12 => lk_vc h3 r11 [(3, 22)] (fun k18 => lk_wxi X d k18 [.ref r11, .ref r12] h3 (fun r14 h13 => lk_vc h13 a0 [(10, 97)] (fun k17 => lk_wxi X d k17 [.ref a0, .int r14] h13 (fun r16 h15 => Q (some (.int r16)) h15))))))))) ∧ (r2 = 0 → Q (some (.int ((-1000001)))) h1))) : lk_wx X (d + 1) 87 [.ref a0, .int x1] h Q := by
  refine lk_enter (lo := [.ref a0, .int x1, .retAddr 0]) lk_M87 rfl (Nat.le_of_ble_eq_true rfl) ?_
  refine lk_wp_seg (lo' := [.ref a0, .int x1, .retAddr 0]) (st' := [.int x1]) lk_M87 lk_s87_0_1 rfl ?_
  refine lk_wp_cs (as := [.int x1]) (r := []) lk_i87_1 lk_M87 rfl rfl rfl rfl (Nat.le_of_ble_eq_true rfl) (lk_gi H (fun r2 h1 H => ?_))
  refine lk_wp_if_ne lk_i87_4 lk_M87 H (fun H => ?_) (fun H => ?_)
  · refine lk_wp_seg (lo' := [.ref a0, .int x1, .retAddr 0]) (st' := [.int x1, .ref a0]) lk_M87 lk_s87_10_2 rfl ?_
    refine lk_wp_cv (as := [.int x1]) (r := []) (a := a0) lk_i87_12 lk_M87 rfl rfl rfl (Nat.le_of_ble_eq_true rfl) H (fun k19 H => lk_gr H (fun h3 H => ?_) (fun r4 h3 H => ?_))
    · refine lk_wp_seg (lo' := [.ref a0, .int x1, .null]) (st' := [.null]) lk_M87 lk_s87_15_2 rfl ?_
      refine lk_wp_one lk_i87_17 lk_M87 rfl (lk_cal0 rfl) rfl ?_
      refine lk_wp_seg (lo' := [.ref a0, .int x1, .null]) (st' := [.int x1, .ref a0, .ref a0]) lk_M87 lk_s87_20_3 rfl ?_
      refine lk_wp_cv (as := [.int x1]) (r := [.ref a0]) (a := a0) lk_i87_23 lk_M87 rfl rfl rfl (Nat.le_of_ble_eq_true rfl) H (fun k10 H => lk_gi H (fun r6 h5 H => ?_))
      refine lk_wp_cv (as := [.int r6]) (r := []) (a := a0) lk_i87_26 lk_M87 rfl rfl rfl (Nat.le_of_ble_eq_true rfl) H (fun k9 H => lk_gi H (fun r8 h7 H => ?_))
      exact lk_wp_ret lk_i87_29 lk_M87 rfl H
    · refine lk_wp_seg (lo' := [.ref a0, .int x1, .ref r4]) (st' := [.ref r4]) lk_M87 lk_s87_15_2 rfl ?_
      refine lk_wp_one lk_i87_17 lk_M87 rfl (lk_cal0 rfl) rfl ?_
      refine lk_wp_seg (lo' := [.ref a0, .int x1, .ref r4]) (st' := [.ref a0, .ref a0]) lk_M87 lk_s87_30_2 rfl ?_
      refine lk_wp_fR lk_i87_32 lk_M87 H (fun r11 H => ?_)
      refine lk_wp_seg (lo' := [.ref a0, .int x1, .ref r4]) (st' := [.ref r4, .ref r11, .ref a0]) lk_M87 lk_s87_35_1 rfl ?_
      refine lk_wp_fR lk_i87_36 lk_M87 H (fun r12 H => ?_)
      refine lk_wp_cv (as := [.ref r12]) (r := [.ref a0]) (a := r11) lk_i87_39 lk_M87 rfl rfl rfl (Nat.le_of_ble_eq_true rfl) H (fun k18 H => lk_gi H (fun r14 h13 H => ?_))
      refine lk_wp_cv (as := [.int r14]) (r := []) (a := a0) lk_i87_42 lk_M87 rfl rfl rfl (Nat.le_of_ble_eq_true rfl) H (fun k17 H => lk_gi H (fun r16 h15 H => ?_))
      exact lk_wp_ret lk_i87_45 lk_M87 rfl H
  · refine lk_wp_seg (lo' := [.ref a0, .int x1, .retAddr 0]) (st' := [.int ((-1000001))]) lk_M87 lk_s87_7_1 rfl ?_
    exact lk_wp_ret lk_i87_9 lk_M87 rfl H
/-! LonelyDots.together(II)I -/
theorem lk_M88 : lk_mt[88]? = some (yX11_together, cX11_together, 5, ((some FieldType.int))) := rfl
theorem lk_s88_0_1 : lk_seg 88 [(.iload_n 1, 1, (0, [], .null))] 0 = some 1 := by decide +kernel
theorem lk_i88_1 : lk_ins 88 1 = some (.invokestatic 96, 3, (0, [(0, 95)], .ref 46)) := lk_eqE_eq (by decide +kernel)
theorem lk_i88_4 : lk_ins 88 4 = some (.ifCond .eq 10, 3, (14, [], .null)) := lk_eqE_eq (by decide +kernel)
theorem lk_s88_14_1 : lk_seg 88 [(.ldc 57, 2, (0, [], .int (-1000001)))] 14 = some 16 := by decide +kernel
theorem lk_i88_16 : lk_ins 88 16 = some (.ireturn, 1, (0, [], .null)) := lk_eqE_eq (by decide +kernel)
theorem lk_s88_7_1 : lk_seg 88 [(.iload_n 2, 1, (0, [], .null))] 7 = some 8 := by decide +kernel
theorem lk_i88_8 : lk_ins 88 8 = some (.invokestatic 96, 3, (0, [(0, 95)], .ref 46)) := lk_eqE_eq (by decide +kernel)
theorem lk_i88_11 : lk_ins 88 11 = some (.ifCond .ne 6, 3, (17, [], .null)) := lk_eqE_eq (by decide +kernel)
theorem lk_s88_17_2 : lk_seg 88 [(.aload_n 0, 1, (0, [], .null)), (.iload_n 1, 1, (0, [], .null))] 17 = some 19 := by decide +kernel
theorem lk_i88_19 : lk_ins 88 19 = some (.invokevirtual 142, 3, (1, [(10, 100)], .ref 58)) := lk_eqE_eq (by decide +kernel)
theorem lk_s88_22_2 : lk_seg 88 [(.astore_n 3, 1, (0, [], .null)), (.aload_n 3, 1, (0, [], .null))] 22 = some 24 := by decide +kernel
theorem lk_i88_24 : lk_ins 88 24 = some (.ifnonnull 13, 3, (37, [], .null)) := lk_eqE_eq (by decide +kernel)
theorem lk_s88_27_3 : lk_seg 88 [(.aload_n 0, 1, (0, [], .null)), (.aload_n 0, 1, (0, [], .null)), (.iload_n 1, 1, (0, [], .null))] 27 = some 30 := by decide +kernel
theorem lk_i88_30 : lk_ins 88 30 = some (.invokevirtual 146, 3, (1, [(10, 101)], .ref 59)) := lk_eqE_eq (by decide +kernel)
theorem lk_i88_33 : lk_ins 88 33 = some (.invokevirtual 58, 3, (1, [(10, 96)], .ref 41)) := lk_eqE_eq (by decide +kernel)
theorem lk_i88_36 : lk_ins 88 36 = some (.ireturn, 1, (0, [], .null)) := lk_eqE_eq (by decide +kernel)
theorem lk_s88_37_2 : lk_seg 88 [(.aload_n 0, 1, (0, [], .null)), (.iload_n 2, 1, (0, [], .null))] 37 = some 39 := by decide +kernel
theorem lk_i88_39 : lk_ins 88 39 = some (.invokevirtual 142, 3, (1, [(10, 100)], .ref 58)) := lk_eqE_eq (by decide +kernel)
theorem lk_s88_42_2 : lk_seg 88 [(.astore 4, 2, (0, [], .null)), (.aload 4, 2, (0, [], .null))] 42 = some 46 := by decide +kernel
theorem lk_i88_46 : lk_ins 88 46 = some (.ifnonnull 13, 3, (59, [], .null)) := lk_eqE_eq (by decide +kernel)
theorem lk_s88_49_3 : lk_seg 88 [(.aload_n 0, 1, (0, [], .null)), (.aload_n 0, 1, (0, [], .null)), (.iload_n 2, 1, (0, [], .null))] 49 = some 52 := by decide +kernel
theorem lk_i88_52 : lk_ins 88 52 = some (.invokevirtual 146, 3, (1, [(10, 101)], .ref 59)) := lk_eqE_eq (by decide +kernel)
theorem lk_i88_55 : lk_ins 88 55 = some (.invokevirtual 58, 3, (1, [(10, 96)], .ref 41)) := lk_eqE_eq (by decide +kernel)
theorem lk_i88_58 : lk_ins 88 58 = some (.ireturn, 1, (0, [], .null)) := lk_eqE_eq (by decide +kernel)
theorem lk_s88_59_2 : lk_seg 88 [(.aload_n 0, 1, (0, [], .null)), (.aload_n 0, 1, (0, [], .null))] 59 = some 61 := by decide +kernel
theorem lk_i88_61 : lk_ins 88 61 = some (.getfield 31, 3, (3, [(10, 0)], .null)) := lk_eqE_eq (by decide +kernel)
theorem lk_s88_64_1 : lk_seg 88 [(.aload_n 3, 1, (0, [], .null))] 64 = some 65 := by decide +kernel
theorem lk_i88_65 : lk_ins 88 65 = some (.getfield 149, 3, (0, [(0, 5), (2, 5), (4, 5), (5, 5), (6, 5)], .null)) := lk_eqE_eq (by decide +kernel)
theorem lk_s88_68_1 : lk_seg 88 [(.aload 4, 2, (0, [], .null))] 68 = some 70 := by decide +kernel
theorem lk_i88_70 : lk_ins 88 70 = some (.getfield 149, 3, (0, [(0, 5), (2, 5), (4, 5), (5, 5), (6, 5)], .null)) := lk_eqE_eq (by decide +kernel)
theorem lk_i88_73 : lk_ins 88 73 = some (.invokevirtual 225, 3, (1, [(3, 21)], .ref 73)) := lk_eqE_eq (by decide +kernel)
theorem lk_i88_76 : lk_ins 88 76 = some (.invokevirtual 66, 3, (1, [(10, 97)], .ref 43)) := lk_eqE_eq (by decide +kernel)
theorem lk_i88_79 : lk_ins 88 79 = some (.ireturn, 1, (0, [], .null)) := lk_eqE_eq (by decide +kernel)
set_option maxRecDepth 20000 in
theorem E_x_together {X : lk_X} {d : Nat} {x1 x2 : Int32} {a0 : Nat} {h : lk_H} {Q : Option Value → lk_H → Prop} (H : lk_wxi X d 95 [.int x1] h (fun r2 h1 => (r2 = 0 → Q (some (.int ((-1000001)))) h1) ∧ (¬ r2 = 0 → lk_wxi X d 95 [.int x2] h1 (fun r4 h3 => (¬ r4 = 0 → lk_vc h3 a0 [(10, 100)] (fun k31 => lk_wxr X d k31 [.ref a0, .int x1] h3 (fun h5 => lk_vc h5 a0 [(10, 101)] (fun k12 => lk_wxi X d k12 [.ref a0, .int x1] h5 (fun r8 h7 => lk_vc h7 a0 [(10, 96)] (fun k11 => lk_wxi X d k11 [.ref a0, .int r8] h7 (fun r10 h9 => Q (some (.int r10)) h9))))) (fun r6 h5 => lk_vc h5 a0 [(10, 100)] (fun k30 => lk_wxr X d k30 [.ref a0, .int x2] h5 (fun h13 => lk_vc h13 a0 [(10, 101)] (fun k20 => lk_wxi X d k20 [.ref a0, .int x2] h13 (fun r16 h15 => lk_vc h15 a0 [(10, 96)] (fun k19 => lk_wxi X d k19 [.ref a0, .int r16] h15 (fun r18 h17 => Q (some (.int r18)) h17))))) (fun r14 h13 => lk_fR h13 a0 3 [(10, 0)] (fun r21 => lk_fR h13 r6 0 [(0, 5), (2, 5), (4, 5), (5, 5), (6, 5)] (fun r22 => lk_fR h13 r14 0 [(0, 5), (2, 5), (4, 5), (5, 5), (6, 5)] (fun r23 => lk_vc h13 r21 [(3, 21)] (fun k29 => lk_wxi X d k29 [.ref r21, .ref r22, .ref r23] h13 (fun r25 h24 => lk_vc h24 a0 [(10, 97)] (fun k28 => lk_wxi X d k28 [.ref a0, .int r25] h24 (fun r27 h26 => Q (some (.int r27)) h26)))))))))))) ∧ (r4 = 0 → Q (some (.int ((-1000001)))) h3))))) : lk_wx X (d + 1) 88 [.ref a0, .int x1, .int x2] h Q := by
  refine lk_enter (lo := [.ref a0, .int x1, .int x2, .retAddr 0, .retAddr 0]) lk_M88 rfl (Nat.le_of_ble_eq_true rfl) ?_
  refine lk_wp_seg (lo' := [.ref a0, .int x1, .int x2, .retAddr 0, .retAddr 0]) (st' := [.int x1]) lk_M88 lk_s88_0_1 rfl ?_
  refine lk_wp_cs (as := [.int x1]) (r := []) lk_i88_1 lk_M88 rfl rfl rfl rfl (Nat.le_of_ble_eq_true rfl) (lk_gi H (fun r2 h1 H => ?_))
  refine lk_wp_if_eq lk_i88_4 lk_M88 H (fun H => ?_) (fun H => ?_)
  · refine lk_wp_seg (lo' := [.ref a0, .int x1, .int x2, .retAddr 0, .retAddr 0]) (st' := [.int ((-1000001))]) lk_M88 lk_s88_14_1 rfl ?_
    exact lk_wp_ret lk_i88_16 lk_M88 rfl H
  · refine lk_wp_seg (lo' := [.ref a0, .int x1, .int x2, .retAddr 0, .retAddr 0]) (st' := [.int x2]) lk_M88 lk_s88_7_1 rfl ?_
    refine lk_wp_cs (as := [.int x2]) (r := []) lk_i88_8 lk_M88 rfl rfl rfl rfl (Nat.le_of_ble_eq_true rfl) (lk_gi H (fun r4 h3 H => ?_))
    refine lk_wp_if_ne lk_i88_11 lk_M88 H (fun H => ?_) (fun H => ?_)
    · refine lk_wp_seg (lo' := [.ref a0, .int x1, .int x2, .retAddr 0, .retAddr 0]) (st' := [.int x1, .ref a0]) lk_M88 lk_s88_17_2 rfl ?_
      refine lk_wp_cv (as := [.int x1]) (r := []) (a := a0) lk_i88_19 lk_M88 rfl rfl rfl (Nat.le_of_ble_eq_true rfl) H (fun k31 H => lk_gr H (fun h5 H => ?_) (fun r6 h5 H => ?_))
      · refine lk_wp_seg (lo' := [.ref a0, .int x1, .int x2, .null, .retAddr 0]) (st' := [.null]) lk_M88 lk_s88_22_2 rfl ?_
        refine lk_wp_one lk_i88_24 lk_M88 rfl (lk_cal0 rfl) rfl ?_
        refine lk_wp_seg (lo' := [.ref a0, .int x1, .int x2, .null, .retAddr 0]) (st' := [.int x1, .ref a0, .ref a0]) lk_M88 lk_s88_27_3 rfl ?_
        refine lk_wp_cv (as := [.int x1]) (r := [.ref a0]) (a := a0) lk_i88_30 lk_M88 rfl rfl rfl (Nat.le_of_ble_eq_true rfl) H (fun k12 H => lk_gi H (fun r8 h7 H => ?_))
        refine lk_wp_cv (as := [.int r8]) (r := []) (a := a0) lk_i88_33 lk_M88 rfl rfl rfl (Nat.le_of_ble_eq_true rfl) H (fun k11 H => lk_gi H (fun r10 h9 H => ?_))
        exact lk_wp_ret lk_i88_36 lk_M88 rfl H
      · refine lk_wp_seg (lo' := [.ref a0, .int x1, .int x2, .ref r6, .retAddr 0]) (st' := [.ref r6]) lk_M88 lk_s88_22_2 rfl ?_
        refine lk_wp_one lk_i88_24 lk_M88 rfl (lk_cal0 rfl) rfl ?_
        refine lk_wp_seg (lo' := [.ref a0, .int x1, .int x2, .ref r6, .retAddr 0]) (st' := [.int x2, .ref a0]) lk_M88 lk_s88_37_2 rfl ?_
        refine lk_wp_cv (as := [.int x2]) (r := []) (a := a0) lk_i88_39 lk_M88 rfl rfl rfl (Nat.le_of_ble_eq_true rfl) H (fun k30 H => lk_gr H (fun h13 H => ?_) (fun r14 h13 H => ?_))
        · refine lk_wp_seg (lo' := [.ref a0, .int x1, .int x2, .ref r6, .null]) (st' := [.null]) lk_M88 lk_s88_42_2 rfl ?_
          refine lk_wp_one lk_i88_46 lk_M88 rfl (lk_cal0 rfl) rfl ?_
          refine lk_wp_seg (lo' := [.ref a0, .int x1, .int x2, .ref r6, .null]) (st' := [.int x2, .ref a0, .ref a0]) lk_M88 lk_s88_49_3 rfl ?_
          refine lk_wp_cv (as := [.int x2]) (r := [.ref a0]) (a := a0) lk_i88_52 lk_M88 rfl rfl rfl (Nat.le_of_ble_eq_true rfl) H (fun k20 H => lk_gi H (fun r16 h15 H => ?_))
          refine lk_wp_cv (as := [.int r16]) (r := []) (a := a0) lk_i88_55 lk_M88 rfl rfl rfl (Nat.le_of_ble_eq_true rfl) H (fun k19 H => lk_gi H (fun r18 h17 H => ?_))
          exact lk_wp_ret lk_i88_58 lk_M88 rfl H
        · refine lk_wp_seg (lo' := [.ref a0, .int x1, .int x2, .ref r6, .ref r14]) (st' := [.ref r14]) lk_M88 lk_s88_42_2 rfl ?_
          refine lk_wp_one lk_i88_46 lk_M88 rfl (lk_cal0 rfl) rfl ?_
          refine lk_wp_seg (lo' := [.ref a0, .int x1, .int x2, .ref r6, .ref r14]) (st' := [.ref a0, .ref a0]) lk_M88 lk_s88_59_2 rfl ?_
          refine lk_wp_fR lk_i88_61 lk_M88 H (fun r21 H => ?_)
          refine lk_wp_seg (lo' := [.ref a0, .int x1, .int x2, .ref r6, .ref r14]) (st' := [.ref r6, .ref r21, .ref a0]) lk_M88 lk_s88_64_1 rfl ?_
          refine lk_wp_fR lk_i88_65 lk_M88 H (fun r22 H => ?_)
          refine lk_wp_seg (lo' := [.ref a0, .int x1, .int x2, .ref r6, .ref r14]) (st' := [.ref r14, .ref r22, .ref r21, .ref a0]) lk_M88 lk_s88_68_1 rfl ?_
          refine lk_wp_fR lk_i88_70 lk_M88 H (fun r23 H => ?_)
          refine lk_wp_cv (as := [.ref r22, .ref r23]) (r := [.ref a0]) (a := r21) lk_i88_73 lk_M88 rfl rfl rfl (Nat.le_of_ble_eq_true rfl) H (fun k29 H => lk_gi H (fun r25 h24 H => ?_))
          refine lk_wp_cv (as := [.int r25]) (r := []) (a := a0) lk_i88_76 lk_M88 rfl rfl rfl (Nat.le_of_ble_eq_true rfl) H (fun k28 H => lk_gi H (fun r27 h26 H => ?_))
          exact lk_wp_ret lk_i88_79 lk_M88 rfl H
    · refine lk_wp_seg (lo' := [.ref a0, .int x1, .int x2, .retAddr 0, .retAddr 0]) (st' := [.int ((-1000001))]) lk_M88 lk_s88_14_1 rfl ?_
      exact lk_wp_ret lk_i88_16 lk_M88 rfl H
/-! LonelyDots.echo(IIIII)I -/
theorem lk_M89 : lk_mt[89]? = some (yX11_echo, cX11_echo, 8, ((some FieldType.int))) := rfl
theorem lk_s89_0_1 : lk_seg 89 [(.iload_n 1, 1, (0, [], .null))] 0 = some 1 := by decide +kernel
theorem lk_i89_1 : lk_ins 89 1 = some (.invokestatic 96, 3, (0, [(0, 95)], .ref 46)) := lk_eqE_eq (by decide +kernel)
theorem lk_i89_4 : lk_ins 89 4 = some (.ifCond .eq 34, 3, (38, [], .null)) := lk_eqE_eq (by decide +kernel)
theorem lk_s89_38_1 : lk_seg 89 [(.ldc 57, 2, (0, [], .int (-1000001)))] 38 = some 40 := by decide +kernel
theorem lk_i89_40 : lk_ins 89 40 = some (.ireturn, 1, (0, [], .null)) := lk_eqE_eq (by decide +kernel)
theorem lk_s89_7_1 : lk_seg 89 [(.iload_n 2, 1, (0, [], .null))] 7 = some 8 := by decide +kernel
theorem lk_i89_8 : lk_ins 89 8 = some (.invokestatic 53, 3, (0, [(0, 94)], .ref 40)) := lk_eqE_eq (by decide +kernel)
theorem lk_i89_11 : lk_ins 89 11 = some (.ifCond .eq 27, 3, (38, [], .null)) := lk_eqE_eq (by decide +kernel)
theorem lk_s89_14_2 : lk_seg 89 [(.iload 4, 2, (0, [], .null)), (.iconst 1, 1, (0, [], .int (1)))] 14 = some 17 := by decide +kernel
theorem lk_i89_17 : lk_ins 89 17 = some (.if_icmp .lt 21, 3, (38, [], .null)) := lk_eqE_eq (by decide +kernel)
theorem lk_s89_20_2 : lk_seg 89 [(.iload 4, 2, (0, [], .null)), (.bipush 30, 2, (0, [], .int (30)))] 20 = some 24 := by decide +kernel
theorem lk_i89_24 : lk_ins 89 24 = some (.if_icmp .gt 14, 3, (38, [], .null)) := lk_eqE_eq (by decide +kernel)
theorem lk_s89_27_1 : lk_seg 89 [(.iload 5, 2, (0, [], .null))] 27 = some 29 := by decide +kernel
theorem lk_i89_29 : lk_ins 89 29 = some (.ifCond .lt 9, 3, (38, [], .null)) := lk_eqE_eq (by decide +kernel)
theorem lk_s89_32_2 : lk_seg 89 [(.iload 5, 2, (0, [], .null)), (.iconst 2, 1, (0, [], .int (2)))] 32 = some 35 := by decide +kernel
theorem lk_i89_35 : lk_ins 89 35 = some (.if_icmp .le 6, 3, (41, [], .null)) := lk_eqE_eq (by decide +kernel)
theorem lk_s89_41_2 : lk_seg 89 [(.aload_n 0, 1, (0, [], .null)), (.iload_n 1, 1, (0, [], .null))] 41 = some 43 := by decide +kernel
theorem lk_i89_43 : lk_ins 89 43 = some (.invokevirtual 142, 3, (1, [(10, 100)], .ref 58)) := lk_eqE_eq (by decide +kernel)
theorem lk_s89_46_2 : lk_seg 89 [(.astore 6, 2, (0, [], .null)), (.aload 6, 2, (0, [], .null))] 46 = some 50 := by decide +kernel
theorem lk_i89_50 : lk_ins 89 50 = some (.ifnonnull 13, 3, (63, [], .null)) := lk_eqE_eq (by decide +kernel)
theorem lk_s89_53_3 : lk_seg 89 [(.aload_n 0, 1, (0, [], .null)), (.aload_n 0, 1, (0, [], .null)), (.iload_n 1, 1, (0, [], .null))] 53 = some 56 := by decide +kernel
theorem lk_i89_56 : lk_ins 89 56 = some (.invokevirtual 146, 3, (1, [(10, 101)], .ref 59)) := lk_eqE_eq (by decide +kernel)
theorem lk_i89_59 : lk_ins 89 59 = some (.invokevirtual 58, 3, (1, [(10, 96)], .ref 41)) := lk_eqE_eq (by decide +kernel)
theorem lk_i89_62 : lk_ins 89 62 = some (.ireturn, 1, (0, [], .null)) := lk_eqE_eq (by decide +kernel)
theorem lk_s89_63_6 : lk_seg 89 [(.aload_n 0, 1, (0, [], .null)), (.iload_n 2, 1, (0, [], .null)), (.iload_n 3, 1, (0, [], .null)), (.iconst 2, 1, (0, [], .int (2))), (.iload 4, 2, (0, [], .null)), (.imul, 1, (0, [], .null))] 63 = some 70 := by decide +kernel
theorem lk_i89_70 : lk_ins 89 70 = some (.invokevirtual 99, 3, (1, [(10, 99)], .ref 47)) := lk_eqE_eq (by decide +kernel)
theorem lk_s89_73_2 : lk_seg 89 [(.istore 7, 2, (0, [], .null)), (.iload 7, 2, (0, [], .null))] 73 = some 77 := by decide +kernel
theorem lk_i89_77 : lk_ins 89 77 = some (.ifCond .eq 10, 3, (87, [], .null)) := lk_eqE_eq (by decide +kernel)
theorem lk_s89_87_2 : lk_seg 89 [(.aload_n 0, 1, (0, [], .null)), (.aload_n 0, 1, (0, [], .null))] 87 = some 89 := by decide +kernel
theorem lk_i89_89 : lk_ins 89 89 = some (.getfield 31, 3, (3, [(10, 0)], .null)) := lk_eqE_eq (by decide +kernel)
theorem lk_s89_92_2 : lk_seg 89 [(.iload 5, 2, (0, [], .null)), (.aload 6, 2, (0, [], .null))] 92 = some 96 := by decide +kernel
theorem lk_i89_96 : lk_ins 89 96 = some (.getfield 149, 3, (0, [(0, 5), (2, 5), (4, 5), (5, 5), (6, 5)], .null)) := lk_eqE_eq (by decide +kernel)
theorem lk_s89_99_1 : lk_seg 89 [(.aload_n 0, 1, (0, [], .null))] 99 = some 100 := by decide +kernel
theorem lk_i89_100 : lk_ins 89 100 = some (.getfield 11, 3, (0, [(10, 0)], .null)) := lk_eqE_eq (by decide +kernel)
theorem lk_s89_103_1 : lk_seg 89 [(.iload_n 2, 1, (0, [], .null))] 103 = some 104 := by decide +kernel
theorem lk_i89_104 : lk_ins 89 104 = some (.aaload, 1, (0, [], .null)) := lk_eqE_eq (by decide +kernel)
theorem lk_i89_105 : lk_ins 89 105 = some (.getfield 77, 3, (0, [(8, 0)], .null)) := lk_eqE_eq (by decide +kernel)
theorem lk_s89_108_2 : lk_seg 89 [(.iload_n 3, 1, (0, [], .null)), (.iload 4, 2, (0, [], .null))] 108 = some 111 := by decide +kernel
theorem lk_i89_111 : lk_ins 89 111 = some (.invokevirtual 229, 3, (1, [(3, 24)], .ref 74)) := lk_eqE_eq (by decide +kernel)
theorem lk_i89_114 : lk_ins 89 114 = some (.invokevirtual 66, 3, (1, [(10, 97)], .ref 43)) := lk_eqE_eq (by decide +kernel)
theorem lk_i89_117 : lk_ins 89 117 = some (.ireturn, 1, (0, [], .null)) := lk_eqE_eq (by decide +kernel)
theorem lk_s89_80_2 : lk_seg 89 [(.aload_n 0, 1, (0, [], .null)), (.iload 7, 2, (0, [], .null))] 80 = some 83 := by decide +kernel
theorem lk_i89_83 : lk_ins 89 83 = some (.invokevirtual 58, 3, (1, [(10, 96)], .ref 41)) := lk_eqE_eq (by decide +kernel)
theorem lk_i89_86 : lk_ins 89 86 = some (.ireturn, 1, (0, [], .null)) := lk_eqE_eq (by decide +kernel)
set_option maxRecDepth 20000 in
theorem E_x_echo {X : lk_X} {d : Nat} {x1 x2 x3 x4 x5 : Int32} {a0 : Nat} {h : lk_H} {Q : Option Value → lk_H → Prop} (H : lk_wxi X d 95 [.int x1] h (fun r2 h1 => (r2 = 0 → Q (some (.int ((-1000001)))) h1) ∧ (¬ r2 = 0 → lk_wxi X d 94 [.int x2] h1 (fun r4 h3 => (r4 = 0 → Q (some (.int ((-1000001)))) h3) ∧ (¬ r4 = 0 → (x4 < 1 → Q (some (.int ((-1000001)))) h3) ∧ (¬ x4 < 1 → (30 < x4 → Q (some (.int ((-1000001)))) h3) ∧ (¬ 30 < x4 → (x5 < 0 → Q (some (.int ((-1000001)))) h3) ∧ (¬ x5 < 0 → (x5 ≤ 2 → lk_vc h3 a0 [(10, 100)] (fun k30 => lk_wxr X d k30 [.ref a0, .int x1] h3 (fun h5 => lk_vc h5 a0 [(10, 101)] (fun k12 => lk_wxi X d k12 [.ref a0, .int x1] h5 (fun r8 h7 => lk_vc h7 a0 [(10, 96)] (fun k11 => lk_wxi X d k11 [.ref a0, .int r8] h7 (fun r10 h9 => Q (some (.int r10)) h9))))) (fun r6 h5 => lk_vc h5 a0 [(10, 99)] (fun k29 => lk_wxi X d k29 [.ref a0, .int x2, .int x3, .int (2 * x4)] h5 (fun r14 h13 => (r14 = 0 → lk_fR h13 a0 3 [(10, 0)] (fun r15 => lk_fR h13 r6 0 [(0, 5), (2, 5), (4, 5), (5, 5), (6, 5)] (fun r16 => lk_fR h13 a0 0 [(10, 0)] (fun r17 => lk_ra h13 r17 x2 (False) (fun r18 => lk_fR h13 r18 0 [(8, 0)] (fun r19 => lk_vc h13 r15 [(3, 24)] (fun k25 => lk_wxi X d k25 [.ref r15, .int x5, .ref r16, .ref r19, .int x3, .int x4] h13 (fun r21 h20 => lk_vc h20 a0 [(10, 97)] (fun k24 => lk_wxi X d k24 [.ref a0, .int r21] h20 (fun r23 h22 => Q (some (.int r23)) h22)))))))))) ∧ (¬ r14 = 0 → lk_vc h13 a0 [(10, 96)] (fun k28 => lk_wxi X d k28 [.ref a0, .int r14] h13 (fun r27 h26 => Q (some (.int r27)) h26)))))))) ∧ (¬ x5 ≤ 2 → Q (some (.int ((-1000001)))) h3))))))))) : lk_wx X (d + 1) 89 [.ref a0, .int x1, .int x2, .int x3, .int x4, .int x5] h Q := by
  refine lk_enter (lo := [.ref a0, .int x1, .int x2, .int x3, .int x4, .int x5, .retAddr 0, .retAddr 0]) lk_M89 rfl (Nat.le_of_ble_eq_true rfl) ?_
  refine lk_wp_seg (lo' := [.ref a0, .int x1, .int x2, .int x3, .int x4, .int x5, .retAddr 0, .retAddr 0]) (st' := [.int x1]) lk_M89 lk_s89_0_1 rfl ?_
  refine lk_wp_cs (as := [.int x1]) (r := []) lk_i89_1 lk_M89 rfl rfl rfl rfl (Nat.le_of_ble_eq_true rfl) (lk_gi H (fun r2 h1 H => ?_))
  refine lk_wp_if_eq lk_i89_4 lk_M89 H (fun H => ?_) (fun H => ?_)
  · refine lk_wp_seg (lo' := [.ref a0, .int x1, .int x2, .int x3, .int x4, .int x5, .retAddr 0, .retAddr 0]) (st' := [.int ((-1000001))]) lk_M89 lk_s89_38_1 rfl ?_
    exact lk_wp_ret lk_i89_40 lk_M89 rfl H
  · refine lk_wp_seg (lo' := [.ref a0, .int x1, .int x2, .int x3, .int x4, .int x5, .retAddr 0, .retAddr 0]) (st' := [.int x2]) lk_M89 lk_s89_7_1 rfl ?_
    refine lk_wp_cs (as := [.int x2]) (r := []) lk_i89_8 lk_M89 rfl rfl rfl rfl (Nat.le_of_ble_eq_true rfl) (lk_gi H (fun r4 h3 H => ?_))
    refine lk_wp_if_eq lk_i89_11 lk_M89 H (fun H => ?_) (fun H => ?_)
    · refine lk_wp_seg (lo' := [.ref a0, .int x1, .int x2, .int x3, .int x4, .int x5, .retAddr 0, .retAddr 0]) (st' := [.int ((-1000001))]) lk_M89 lk_s89_38_1 rfl ?_
      exact lk_wp_ret lk_i89_40 lk_M89 rfl H
    · refine lk_wp_seg (lo' := [.ref a0, .int x1, .int x2, .int x3, .int x4, .int x5, .retAddr 0, .retAddr 0]) (st' := [.int 1, .int x4]) lk_M89 lk_s89_14_2 rfl ?_
      refine lk_wp_ic_lt lk_i89_17 lk_M89 H (fun H => ?_) (fun H => ?_)
      · refine lk_wp_seg (lo' := [.ref a0, .int x1, .int x2, .int x3, .int x4, .int x5, .retAddr 0, .retAddr 0]) (st' := [.int ((-1000001))]) lk_M89 lk_s89_38_1 rfl ?_
        exact lk_wp_ret lk_i89_40 lk_M89 rfl H
      · refine lk_wp_seg (lo' := [.ref a0, .int x1, .int x2, .int x3, .int x4, .int x5, .retAddr 0, .retAddr 0]) (st' := [.int 30, .int x4]) lk_M89 lk_s89_20_2 rfl ?_
        refine lk_wp_ic_gt lk_i89_24 lk_M89 H (fun H => ?_) (fun H => ?_)
        · refine lk_wp_seg (lo' := [.ref a0, .int x1, .int x2, .int x3, .int x4, .int x5, .retAddr 0, .retAddr 0]) (st' := [.int ((-1000001))]) lk_M89 lk_s89_38_1 rfl ?_
          exact lk_wp_ret lk_i89_40 lk_M89 rfl H
        · refine lk_wp_seg (lo' := [.ref a0, .int x1, .int x2, .int x3, .int x4, .int x5, .retAddr 0, .retAddr 0]) (st' := [.int x5]) lk_M89 lk_s89_27_1 rfl ?_
          refine lk_wp_if_lt lk_i89_29 lk_M89 H (fun H => ?_) (fun H => ?_)
          · refine lk_wp_seg (lo' := [.ref a0, .int x1, .int x2, .int x3, .int x4, .int x5, .retAddr 0, .retAddr 0]) (st' := [.int ((-1000001))]) lk_M89 lk_s89_38_1 rfl ?_
            exact lk_wp_ret lk_i89_40 lk_M89 rfl H
          · refine lk_wp_seg (lo' := [.ref a0, .int x1, .int x2, .int x3, .int x4, .int x5, .retAddr 0, .retAddr 0]) (st' := [.int 2, .int x5]) lk_M89 lk_s89_32_2 rfl ?_
            refine lk_wp_ic_le lk_i89_35 lk_M89 H (fun H => ?_) (fun H => ?_)
            · refine lk_wp_seg (lo' := [.ref a0, .int x1, .int x2, .int x3, .int x4, .int x5, .retAddr 0, .retAddr 0]) (st' := [.int x1, .ref a0]) lk_M89 lk_s89_41_2 rfl ?_
              refine lk_wp_cv (as := [.int x1]) (r := []) (a := a0) lk_i89_43 lk_M89 rfl rfl rfl (Nat.le_of_ble_eq_true rfl) H (fun k30 H => lk_gr H (fun h5 H => ?_) (fun r6 h5 H => ?_))
              · refine lk_wp_seg (lo' := [.ref a0, .int x1, .int x2, .int x3, .int x4, .int x5, .null, .retAddr 0]) (st' := [.null]) lk_M89 lk_s89_46_2 rfl ?_
                refine lk_wp_one lk_i89_50 lk_M89 rfl (lk_cal0 rfl) rfl ?_
                refine lk_wp_seg (lo' := [.ref a0, .int x1, .int x2, .int x3, .int x4, .int x5, .null, .retAddr 0]) (st' := [.int x1, .ref a0, .ref a0]) lk_M89 lk_s89_53_3 rfl ?_
                refine lk_wp_cv (as := [.int x1]) (r := [.ref a0]) (a := a0) lk_i89_56 lk_M89 rfl rfl rfl (Nat.le_of_ble_eq_true rfl) H (fun k12 H => lk_gi H (fun r8 h7 H => ?_))
                refine lk_wp_cv (as := [.int r8]) (r := []) (a := a0) lk_i89_59 lk_M89 rfl rfl rfl (Nat.le_of_ble_eq_true rfl) H (fun k11 H => lk_gi H (fun r10 h9 H => ?_))
                exact lk_wp_ret lk_i89_62 lk_M89 rfl H
              · refine lk_wp_seg (lo' := [.ref a0, .int x1, .int x2, .int x3, .int x4, .int x5, .ref r6, .retAddr 0]) (st' := [.ref r6]) lk_M89 lk_s89_46_2 rfl ?_
                refine lk_wp_one lk_i89_50 lk_M89 rfl (lk_cal0 rfl) rfl ?_
                refine lk_wp_seg (lo' := [.ref a0, .int x1, .int x2, .int x3, .int x4, .int x5, .ref r6, .retAddr 0]) (st' := [.int (2 * x4), .int x3, .int x2, .ref a0]) lk_M89 lk_s89_63_6 rfl ?_
                refine lk_wp_cv (as := [.int x2, .int x3, .int (2 * x4)]) (r := []) (a := a0) lk_i89_70 lk_M89 rfl rfl rfl (Nat.le_of_ble_eq_true rfl) H (fun k29 H => lk_gi H (fun r14 h13 H => ?_))
                refine lk_wp_seg (lo' := [.ref a0, .int x1, .int x2, .int x3, .int x4, .int x5, .ref r6, .int r14]) (st' := [.int r14]) lk_M89 lk_s89_73_2 rfl ?_
                refine lk_wp_if_eq lk_i89_77 lk_M89 H (fun H => ?_) (fun H => ?_)
                · refine lk_wp_seg (lo' := [.ref a0, .int x1, .int x2, .int x3, .int x4, .int x5, .ref r6, .int r14]) (st' := [.ref a0, .ref a0]) lk_M89 lk_s89_87_2 rfl ?_
                  refine lk_wp_fR lk_i89_89 lk_M89 H (fun r15 H => ?_)
                  refine lk_wp_seg (lo' := [.ref a0, .int x1, .int x2, .int x3, .int x4, .int x5, .ref r6, .int r14]) (st' := [.ref r6, .int x5, .ref r15, .ref a0]) lk_M89 lk_s89_92_2 rfl ?_
                  refine lk_wp_fR lk_i89_96 lk_M89 H (fun r16 H => ?_)
                  refine lk_wp_seg (lo' := [.ref a0, .int x1, .int x2, .int x3, .int x4, .int x5, .ref r6, .int r14]) (st' := [.ref a0, .ref r16, .int x5, .ref r15, .ref a0]) lk_M89 lk_s89_99_1 rfl ?_
                  refine lk_wp_fR lk_i89_100 lk_M89 H (fun r17 H => ?_)
                  refine lk_wp_seg (lo' := [.ref a0, .int x1, .int x2, .int x3, .int x4, .int x5, .ref r6, .int r14]) (st' := [.int x2, .ref r17, .ref r16, .int x5, .ref r15, .ref a0]) lk_M89 lk_s89_103_1 rfl ?_
                  refine lk_wp_ra lk_i89_104 lk_M89 H ⟨fun H => ?_, fun r18 H => ?_⟩
                  · exact H.elim
                  · refine lk_wp_fR lk_i89_105 lk_M89 H (fun r19 H => ?_)
                    refine lk_wp_seg (lo' := [.ref a0, .int x1, .int x2, .int x3, .int x4, .int x5, .ref r6, .int r14]) (st' := [.int x4, .int x3, .ref r19, .ref r16, .int x5, .ref r15, .ref a0]) lk_M89 lk_s89_108_2 rfl ?_
                    refine lk_wp_cv (as := [.int x5, .ref r16, .ref r19, .int x3, .int x4]) (r := [.ref a0]) (a := r15) lk_i89_111 lk_M89 rfl rfl rfl (Nat.le_of_ble_eq_true rfl) H (fun k25 H => lk_gi H (fun r21 h20 H => ?_))
                    refine lk_wp_cv (as := [.int r21]) (r := []) (a := a0) lk_i89_114 lk_M89 rfl rfl rfl (Nat.le_of_ble_eq_true rfl) H (fun k24 H => lk_gi H (fun r23 h22 H => ?_))
                    exact lk_wp_ret lk_i89_117 lk_M89 rfl H
                · refine lk_wp_seg (lo' := [.ref a0, .int x1, .int x2, .int x3, .int x4, .int x5, .ref r6, .int r14]) (st' := [.int r14, .ref a0]) lk_M89 lk_s89_80_2 rfl ?_
                  refine lk_wp_cv (as := [.int r14]) (r := []) (a := a0) lk_i89_83 lk_M89 rfl rfl rfl (Nat.le_of_ble_eq_true rfl) H (fun k28 H => lk_gi H (fun r27 h26 H => ?_))
                  exact lk_wp_ret lk_i89_86 lk_M89 rfl H
            · refine lk_wp_seg (lo' := [.ref a0, .int x1, .int x2, .int x3, .int x4, .int x5, .retAddr 0, .retAddr 0]) (st' := [.int ((-1000001))]) lk_M89 lk_s89_38_1 rfl ?_
              exact lk_wp_ret lk_i89_40 lk_M89 rfl H
/-! LonelyDots.lonely(II)I -/
theorem lk_M90 : lk_mt[90]? = some (yX11_lonely, cX11_lonely, 4, ((some FieldType.int))) := rfl
theorem lk_s90_0_2 : lk_seg 90 [(.iload_n 1, 1, (0, [], .null)), (.iconst 1, 1, (0, [], .int (1)))] 0 = some 2 := by decide +kernel
theorem lk_i90_2 : lk_ins 90 2 = some (.if_icmp .lt 18, 3, (20, [], .null)) := lk_eqE_eq (by decide +kernel)
theorem lk_s90_20_1 : lk_seg 90 [(.ldc 57, 2, (0, [], .int (-1000001)))] 20 = some 22 := by decide +kernel
theorem lk_i90_22 : lk_ins 90 22 = some (.ireturn, 1, (0, [], .null)) := lk_eqE_eq (by decide +kernel)
theorem lk_s90_5_2 : lk_seg 90 [(.iload_n 1, 1, (0, [], .null)), (.bipush 7, 2, (0, [], .int (7)))] 5 = some 8 := by decide +kernel
theorem lk_i90_8 : lk_ins 90 8 = some (.if_icmp .gt 12, 3, (20, [], .null)) := lk_eqE_eq (by decide +kernel)
theorem lk_s90_11_1 : lk_seg 90 [(.iload_n 2, 1, (0, [], .null))] 11 = some 12 := by decide +kernel
theorem lk_i90_12 : lk_ins 90 12 = some (.ifCond .lt 8, 3, (20, [], .null)) := lk_eqE_eq (by decide +kernel)
theorem lk_s90_15_2 : lk_seg 90 [(.iload_n 2, 1, (0, [], .null)), (.iconst 1, 1, (0, [], .int (1)))] 15 = some 17 := by decide +kernel
theorem lk_i90_17 : lk_ins 90 17 = some (.if_icmp .le 6, 3, (23, [], .null)) := lk_eqE_eq (by decide +kernel)
theorem lk_s90_23_2 : lk_seg 90 [(.aload_n 0, 1, (0, [], .null)), (.iload_n 1, 1, (0, [], .null))] 23 = some 25 := by decide +kernel
theorem lk_i90_25 : lk_ins 90 25 = some (.invokevirtual 168, 3, (1, [(10, 105)], .ref 63)) := lk_eqE_eq (by decide +kernel)
theorem lk_s90_28_2 : lk_seg 90 [(.astore_n 3, 1, (0, [], .null)), (.iload_n 2, 1, (0, [], .null))] 28 = some 30 := by decide +kernel
theorem lk_i90_30 : lk_ins 90 30 = some (.ifCond .ne 10, 3, (40, [], .null)) := lk_eqE_eq (by decide +kernel)
theorem lk_s90_40_1 : lk_seg 90 [(.aload_n 3, 1, (0, [], .null))] 40 = some 41 := by decide +kernel
theorem lk_i90_41 : lk_ins 90 41 = some (.getfield 233, 3, (4, [(1, 0)], .null)) := lk_eqE_eq (by decide +kernel)
theorem lk_s90_33_1 : lk_seg 90 [(.aload_n 3, 1, (0, [], .null))] 33 = some 34 := by decide +kernel
theorem lk_i90_34 : lk_ins 90 34 = some (.getfield 172, 3, (3, [(1, 0)], .null)) := lk_eqE_eq (by decide +kernel)
theorem lk_i90_44 : lk_ins 90 44 = some (.ireturn, 1, (0, [], .null)) := lk_eqE_eq (by decide +kernel)
theorem lk_s90_37_1 : lk_seg 90 [(.goto 7, 3, (44, [], .null))] 37 = some 44 := by decide +kernel
set_option maxRecDepth 20000 in
theorem E_x_lonely {X : lk_X} {d : Nat} {x1 x2 : Int32} {a0 : Nat} {h : lk_H} {Q : Option Value → lk_H → Prop} (H : (x1 < 1 → Q (some (.int ((-1000001)))) h) ∧ (¬ x1 < 1 → (7 < x1 → Q (some (.int ((-1000001)))) h) ∧ (¬ 7 < x1 → (x2 < 0 → Q (some (.int ((-1000001)))) h) ∧ (¬ x2 < 0 → (x2 ≤ 1 → lk_vc h a0 [(10, 105)] (fun k5 => lk_wxr X d k5 [.ref a0, .int x1] h (fun h1 => (¬ x2 = 0 → False) ∧ (x2 = 0 → False)) (fun r2 h1 => (¬ x2 = 0 → lk_fI h1 r2 4 [(1, 0)] (fun r3 => Q (some (.int r3)) h1)) ∧ (x2 = 0 → lk_fI h1 r2 3 [(1, 0)] (fun r4 => Q (some (.int r4)) h1))))) ∧ (¬ x2 ≤ 1 → Q (some (.int ((-1000001)))) h))))) : lk_wx X (d + 1) 90 [.ref a0, .int x1, .int x2] h Q := by
  refine lk_enter (lo := [.ref a0, .int x1, .int x2, .retAddr 0]) lk_M90 rfl (Nat.le_of_ble_eq_true rfl) ?_
  refine lk_wp_seg (lo' := [.ref a0, .int x1, .int x2, .retAddr 0]) (st' := [.int 1, .int x1]) lk_M90 lk_s90_0_2 rfl ?_
  refine lk_wp_ic_lt lk_i90_2 lk_M90 H (fun H => ?_) (fun H => ?_)
  · refine lk_wp_seg (lo' := [.ref a0, .int x1, .int x2, .retAddr 0]) (st' := [.int ((-1000001))]) lk_M90 lk_s90_20_1 rfl ?_
    exact lk_wp_ret lk_i90_22 lk_M90 rfl H
  · refine lk_wp_seg (lo' := [.ref a0, .int x1, .int x2, .retAddr 0]) (st' := [.int 7, .int x1]) lk_M90 lk_s90_5_2 rfl ?_
    refine lk_wp_ic_gt lk_i90_8 lk_M90 H (fun H => ?_) (fun H => ?_)
    · refine lk_wp_seg (lo' := [.ref a0, .int x1, .int x2, .retAddr 0]) (st' := [.int ((-1000001))]) lk_M90 lk_s90_20_1 rfl ?_
      exact lk_wp_ret lk_i90_22 lk_M90 rfl H
    · refine lk_wp_seg (lo' := [.ref a0, .int x1, .int x2, .retAddr 0]) (st' := [.int x2]) lk_M90 lk_s90_11_1 rfl ?_
      refine lk_wp_if_lt lk_i90_12 lk_M90 H (fun H => ?_) (fun H => ?_)
      · refine lk_wp_seg (lo' := [.ref a0, .int x1, .int x2, .retAddr 0]) (st' := [.int ((-1000001))]) lk_M90 lk_s90_20_1 rfl ?_
        exact lk_wp_ret lk_i90_22 lk_M90 rfl H
      · refine lk_wp_seg (lo' := [.ref a0, .int x1, .int x2, .retAddr 0]) (st' := [.int 1, .int x2]) lk_M90 lk_s90_15_2 rfl ?_
        refine lk_wp_ic_le lk_i90_17 lk_M90 H (fun H => ?_) (fun H => ?_)
        · refine lk_wp_seg (lo' := [.ref a0, .int x1, .int x2, .retAddr 0]) (st' := [.int x1, .ref a0]) lk_M90 lk_s90_23_2 rfl ?_
          refine lk_wp_cv (as := [.int x1]) (r := []) (a := a0) lk_i90_25 lk_M90 rfl rfl rfl (Nat.le_of_ble_eq_true rfl) H (fun k5 H => lk_gr H (fun h1 H => ?_) (fun r2 h1 H => ?_))
          · refine lk_wp_seg (lo' := [.ref a0, .int x1, .int x2, .null]) (st' := [.int x2]) lk_M90 lk_s90_28_2 rfl ?_
            refine lk_wp_if_ne lk_i90_30 lk_M90 H (fun H => ?_) (fun H => ?_)
            · refine lk_wp_seg (lo' := [.ref a0, .int x1, .int x2, .null]) (st' := [.null]) lk_M90 lk_s90_40_1 rfl ?_
              exact H.elim
            · refine lk_wp_seg (lo' := [.ref a0, .int x1, .int x2, .null]) (st' := [.null]) lk_M90 lk_s90_33_1 rfl ?_
              exact H.elim
          · refine lk_wp_seg (lo' := [.ref a0, .int x1, .int x2, .ref r2]) (st' := [.int x2]) lk_M90 lk_s90_28_2 rfl ?_
            refine lk_wp_if_ne lk_i90_30 lk_M90 H (fun H => ?_) (fun H => ?_)
            · refine lk_wp_seg (lo' := [.ref a0, .int x1, .int x2, .ref r2]) (st' := [.ref r2]) lk_M90 lk_s90_40_1 rfl ?_
              refine lk_wp_fI lk_i90_41 lk_M90 H (fun r3 H => ?_)
              exact lk_wp_ret lk_i90_44 lk_M90 rfl H
            · refine lk_wp_seg (lo' := [.ref a0, .int x1, .int x2, .ref r2]) (st' := [.ref r2]) lk_M90 lk_s90_33_1 rfl ?_
              refine lk_wp_fI lk_i90_34 lk_M90 H (fun r4 H => ?_)
              refine lk_wp_seg (lo' := [.ref a0, .int x1, .int x2, .ref r2]) (st' := [.int r4]) lk_M90 lk_s90_37_1 rfl ?_
              exact lk_wp_ret lk_i90_44 lk_M90 rfl H
        · refine lk_wp_seg (lo' := [.ref a0, .int x1, .int x2, .retAddr 0]) (st' := [.int ((-1000001))]) lk_M90 lk_s90_20_1 rfl ?_
          exact lk_wp_ret lk_i90_22 lk_M90 rfl H
/-! LonelyDots.shortest(I)I -/
theorem lk_M91 : lk_mt[91]? = some (yX11_shortest, cX11_shortest, 2, ((some FieldType.int))) := rfl
theorem lk_s91_0_2 : lk_seg 91 [(.iload_n 1, 1, (0, [], .null)), (.iconst 1, 1, (0, [], .int (1)))] 0 = some 2 := by decide +kernel
theorem lk_i91_2 : lk_ins 91 2 = some (.if_icmp .lt 9, 3, (11, [], .null)) := lk_eqE_eq (by decide +kernel)
theorem lk_s91_11_1 : lk_seg 91 [(.ldc 57, 2, (0, [], .int (-1000001)))] 11 = some 13 := by decide +kernel
theorem lk_i91_13 : lk_ins 91 13 = some (.ireturn, 1, (0, [], .null)) := lk_eqE_eq (by decide +kernel)
theorem lk_s91_5_2 : lk_seg 91 [(.iload_n 1, 1, (0, [], .null)), (.bipush 6, 2, (0, [], .int (6)))] 5 = some 8 := by decide +kernel
theorem lk_i91_8 : lk_ins 91 8 = some (.if_icmp .le 6, 3, (14, [], .null)) := lk_eqE_eq (by decide +kernel)
theorem lk_s91_14_1 : lk_seg 91 [(.aload_n 0, 1, (0, [], .null))] 14 = some 15 := by decide +kernel
theorem lk_i91_15 : lk_ins 91 15 = some (.getfield 44, 3, (5, [(10, 0)], .null)) := lk_eqE_eq (by decide +kernel)
theorem lk_s91_18_1 : lk_seg 91 [(.iload_n 1, 1, (0, [], .null))] 18 = some 19 := by decide +kernel
theorem lk_i91_19 : lk_ins 91 19 = some (.invokevirtual 236, 3, (1, [(7, 46)], .ref 75)) := lk_eqE_eq (by decide +kernel)
theorem lk_i91_22 : lk_ins 91 22 = some (.ireturn, 1, (0, [], .null)) := lk_eqE_eq (by decide +kernel)
set_option maxRecDepth 20000 in
theorem E_x_shortest {X : lk_X} {d : Nat} {x1 : Int32} {a0 : Nat} {h : lk_H} {Q : Option Value → lk_H → Prop} (H : (x1 < 1 → Q (some (.int ((-1000001)))) h) ∧ (¬ x1 < 1 → (x1 ≤ 6 → lk_fR h a0 5 [(10, 0)] (fun r1 => lk_vc h r1 [(7, 46)] (fun k4 => lk_wxi X d k4 [.ref r1, .int x1] h (fun r3 h2 => Q (some (.int r3)) h2)))) ∧ (¬ x1 ≤ 6 → Q (some (.int ((-1000001)))) h))) : lk_wx X (d + 1) 91 [.ref a0, .int x1] h Q := by
  refine lk_enter (lo := [.ref a0, .int x1]) lk_M91 rfl (Nat.le_of_ble_eq_true rfl) ?_
  refine lk_wp_seg (lo' := [.ref a0, .int x1]) (st' := [.int 1, .int x1]) lk_M91 lk_s91_0_2 rfl ?_
  refine lk_wp_ic_lt lk_i91_2 lk_M91 H (fun H => ?_) (fun H => ?_)
  · refine lk_wp_seg (lo' := [.ref a0, .int x1]) (st' := [.int ((-1000001))]) lk_M91 lk_s91_11_1 rfl ?_
    exact lk_wp_ret lk_i91_13 lk_M91 rfl H
  · refine lk_wp_seg (lo' := [.ref a0, .int x1]) (st' := [.int 6, .int x1]) lk_M91 lk_s91_5_2 rfl ?_
    refine lk_wp_ic_le lk_i91_8 lk_M91 H (fun H => ?_) (fun H => ?_)
    · refine lk_wp_seg (lo' := [.ref a0, .int x1]) (st' := [.ref a0]) lk_M91 lk_s91_14_1 rfl ?_
      refine lk_wp_fR lk_i91_15 lk_M91 H (fun r1 H => ?_)
      refine lk_wp_seg (lo' := [.ref a0, .int x1]) (st' := [.int x1, .ref r1]) lk_M91 lk_s91_18_1 rfl ?_
      refine lk_wp_cv (as := [.int x1]) (r := []) (a := r1) lk_i91_19 lk_M91 rfl rfl rfl (Nat.le_of_ble_eq_true rfl) H (fun k4 H => lk_gi H (fun r3 h2 H => ?_))
      exact lk_wp_ret lk_i91_22 lk_M91 rfl H
    · refine lk_wp_seg (lo' := [.ref a0, .int x1]) (st' := [.int ((-1000001))]) lk_M91 lk_s91_11_1 rfl ?_
      exact lk_wp_ret lk_i91_13 lk_M91 rfl H
/-! LonelyDots.count(I)I -/
theorem lk_M92 : lk_mt[92]? = some (yX11_count, cX11_count, 2, ((some FieldType.int))) := rfl
theorem lk_s92_0_1 : lk_seg 92 [(.iload_n 1, 1, (0, [], .null))] 0 = some 1 := by decide +kernel
theorem lk_i92_1 : lk_ins 92 1 = some (.ifCond .lt 8, 3, (9, [], .null)) := lk_eqE_eq (by decide +kernel)
theorem lk_s92_9_1 : lk_seg 92 [(.ldc 57, 2, (0, [], .int (-1000001)))] 9 = some 11 := by decide +kernel
theorem lk_i92_11 : lk_ins 92 11 = some (.ireturn, 1, (0, [], .null)) := lk_eqE_eq (by decide +kernel)
theorem lk_s92_4_2 : lk_seg 92 [(.iload_n 1, 1, (0, [], .null)), (.iconst 5, 1, (0, [], .int (5)))] 4 = some 6 := by decide +kernel
theorem lk_i92_6 : lk_ins 92 6 = some (.if_icmp .le 6, 3, (12, [], .null)) := lk_eqE_eq (by decide +kernel)
theorem lk_s92_12_1 : lk_seg 92 [(.iload_n 1, 1, (0, [], .null))] 12 = some 13 := by decide +kernel
theorem lk_i92_13 : lk_ins 92 13 = some (.ifCond .ne 10, 3, (23, [], .null)) := lk_eqE_eq (by decide +kernel)
theorem lk_s92_23_4 : lk_seg 92 [(.aload_n 0, 1, (0, [], .null)), (.iload_n 1, 1, (0, [], .null)), (.iconst 1, 1, (0, [], .int (1))), (.isub, 1, (0, [], .null))] 23 = some 27 := by decide +kernel
theorem lk_i92_27 : lk_ins 92 27 = some (.invokevirtual 242, 3, (1, [(10, 104)], .ref 77)) := lk_eqE_eq (by decide +kernel)
theorem lk_i92_30 : lk_ins 92 30 = some (.ireturn, 1, (0, [], .null)) := lk_eqE_eq (by decide +kernel)
theorem lk_s92_16_1 : lk_seg 92 [(.aload_n 0, 1, (0, [], .null))] 16 = some 17 := by decide +kernel
theorem lk_i92_17 : lk_ins 92 17 = some (.invokevirtual 239, 3, (1, [(10, 103)], .ref 76)) := lk_eqE_eq (by decide +kernel)
theorem lk_s92_20_1 : lk_seg 92 [(.goto 10, 3, (30, [], .null))] 20 = some 30 := by decide +kernel
set_option maxRecDepth 20000 in
theorem E_x_count {X : lk_X} {d : Nat} {x1 : Int32} {a0 : Nat} {h : lk_H} {Q : Option Value → lk_H → Prop} (H : (x1 < 0 → Q (some (.int ((-1000001)))) h) ∧ (¬ x1 < 0 → (x1 ≤ 5 → (¬ x1 = 0 → lk_vc h a0 [(10, 104)] (fun k3 => lk_wxi X d k3 [.ref a0, .int (x1 - 1)] h (fun r2 h1 => Q (some (.int r2)) h1))) ∧ (x1 = 0 → lk_vc h a0 [(10, 103)] (fun k6 => lk_wxi X d k6 [.ref a0] h (fun r5 h4 => Q (some (.int r5)) h4)))) ∧ (¬ x1 ≤ 5 → Q (some (.int ((-1000001)))) h))) : lk_wx X (d + 1) 92 [.ref a0, .int x1] h Q := by
  refine lk_enter (lo := [.ref a0, .int x1]) lk_M92 rfl (Nat.le_of_ble_eq_true rfl) ?_
  refine lk_wp_seg (lo' := [.ref a0, .int x1]) (st' := [.int x1]) lk_M92 lk_s92_0_1 rfl ?_
  refine lk_wp_if_lt lk_i92_1 lk_M92 H (fun H => ?_) (fun H => ?_)
  · refine lk_wp_seg (lo' := [.ref a0, .int x1]) (st' := [.int ((-1000001))]) lk_M92 lk_s92_9_1 rfl ?_
    exact lk_wp_ret lk_i92_11 lk_M92 rfl H
  · refine lk_wp_seg (lo' := [.ref a0, .int x1]) (st' := [.int 5, .int x1]) lk_M92 lk_s92_4_2 rfl ?_
    refine lk_wp_ic_le lk_i92_6 lk_M92 H (fun H => ?_) (fun H => ?_)
    · refine lk_wp_seg (lo' := [.ref a0, .int x1]) (st' := [.int x1]) lk_M92 lk_s92_12_1 rfl ?_
      refine lk_wp_if_ne lk_i92_13 lk_M92 H (fun H => ?_) (fun H => ?_)
      · refine lk_wp_seg (lo' := [.ref a0, .int x1]) (st' := [.int (x1 - 1), .ref a0]) lk_M92 lk_s92_23_4 rfl ?_
        refine lk_wp_cv (as := [.int (x1 - 1)]) (r := []) (a := a0) lk_i92_27 lk_M92 rfl rfl rfl (Nat.le_of_ble_eq_true rfl) H (fun k3 H => lk_gi H (fun r2 h1 H => ?_))
        exact lk_wp_ret lk_i92_30 lk_M92 rfl H
      · refine lk_wp_seg (lo' := [.ref a0, .int x1]) (st' := [.ref a0]) lk_M92 lk_s92_16_1 rfl ?_
        refine lk_wp_cv (as := []) (r := []) (a := a0) lk_i92_17 lk_M92 rfl rfl rfl (Nat.le_of_ble_eq_true rfl) H (fun k6 H => lk_gi H (fun r5 h4 H => ?_))
        refine lk_wp_seg (lo' := [.ref a0, .int x1]) (st' := [.int r5]) lk_M92 lk_s92_20_1 rfl ?_
        exact lk_wp_ret lk_i92_30 lk_M92 rfl H
    · refine lk_wp_seg (lo' := [.ref a0, .int x1]) (st' := [.int ((-1000001))]) lk_M92 lk_s92_9_1 rfl ?_
      exact lk_wp_ret lk_i92_11 lk_M92 rfl H
/-! LonelyDots.status()I -/
theorem lk_M93 : lk_mt[93]? = some (yX11_status, cX11_status, 1, ((some FieldType.int))) := rfl
theorem lk_s93_0_1 : lk_seg 93 [(.aload_n 0, 1, (0, [], .null))] 0 = some 1 := by decide +kernel
theorem lk_i93_1 : lk_ins 93 1 = some (.getfield 48, 3, (6, [(10, 0)], .null)) := lk_eqE_eq (by decide +kernel)
theorem lk_i93_4 : lk_ins 93 4 = some (.ireturn, 1, (0, [], .null)) := lk_eqE_eq (by decide +kernel)
set_option maxRecDepth 20000 in
theorem E_x_status {X : lk_X} {d : Nat} {a0 : Nat} {h : lk_H} {Q : Option Value → lk_H → Prop} (H : lk_fI h a0 6 [(10, 0)] (fun r1 => Q (some (.int r1)) h)) : lk_wx X (d + 1) 93 [.ref a0] h Q := by
  refine lk_enter (lo := [.ref a0]) lk_M93 rfl (Nat.le_of_ble_eq_true rfl) ?_
  refine lk_wp_seg (lo' := [.ref a0]) (st' := [.ref a0]) lk_M93 lk_s93_0_1 rfl ?_
  refine lk_wp_fI lk_i93_1 lk_M93 H (fun r1 H => ?_)
  exact lk_wp_ret lk_i93_4 lk_M93 rfl H
/-! LonelyDots.isSheet(I)Z -/
theorem lk_M94 : lk_mt[94]? = some (yX11_isSheet, cX11_isSheet, 1, ((some FieldType.boolean))) := rfl
theorem lk_s94_0_1 : lk_seg 94 [(.iload_n 0, 1, (0, [], .null))] 0 = some 1 := by decide +kernel
theorem lk_i94_1 : lk_ins 94 1 = some (.ifCond .lt 13, 3, (14, [], .null)) := lk_eqE_eq (by decide +kernel)
theorem lk_s94_14_1 : lk_seg 94 [(.iconst 0, 1, (0, [], .int (0)))] 14 = some 15 := by decide +kernel
theorem lk_i94_15 : lk_ins 94 15 = some (.ireturn, 1, (0, [], .null)) := lk_eqE_eq (by decide +kernel)
theorem lk_s94_4_2 : lk_seg 94 [(.iload_n 0, 1, (0, [], .null)), (.bipush 8, 2, (0, [], .int (8)))] 4 = some 7 := by decide +kernel
theorem lk_i94_7 : lk_ins 94 7 = some (.if_icmp .ge 7, 3, (14, [], .null)) := lk_eqE_eq (by decide +kernel)
theorem lk_s94_10_2 : lk_seg 94 [(.iconst 1, 1, (0, [], .int (1))), (.goto 4, 3, (15, [], .null))] 10 = some 15 := by decide +kernel
set_option maxRecDepth 20000 in
theorem E_x_isSheet {X : lk_X} {d : Nat} {x0 : Int32} {h : lk_H} {Q : Option Value → lk_H → Prop} (H : (x0 < 0 → Q (some (.int 0)) h) ∧ (¬ x0 < 0 → (8 ≤ x0 → Q (some (.int 0)) h) ∧ (¬ 8 ≤ x0 → Q (some (.int 1)) h))) : lk_wx X (d + 1) 94 [.int x0] h Q := by
  refine lk_enter (lo := [.int x0]) lk_M94 rfl (Nat.le_of_ble_eq_true rfl) ?_
  refine lk_wp_seg (lo' := [.int x0]) (st' := [.int x0]) lk_M94 lk_s94_0_1 rfl ?_
  refine lk_wp_if_lt lk_i94_1 lk_M94 H (fun H => ?_) (fun H => ?_)
  · refine lk_wp_seg (lo' := [.int x0]) (st' := [.int 0]) lk_M94 lk_s94_14_1 rfl ?_
    exact lk_wp_ret lk_i94_15 lk_M94 rfl H
  · refine lk_wp_seg (lo' := [.int x0]) (st' := [.int 8, .int x0]) lk_M94 lk_s94_4_2 rfl ?_
    refine lk_wp_ic_ge lk_i94_7 lk_M94 H (fun H => ?_) (fun H => ?_)
    · refine lk_wp_seg (lo' := [.int x0]) (st' := [.int 0]) lk_M94 lk_s94_14_1 rfl ?_
      exact lk_wp_ret lk_i94_15 lk_M94 rfl H
    · refine lk_wp_seg (lo' := [.int x0]) (st' := [.int 1]) lk_M94 lk_s94_10_2 rfl ?_
      exact lk_wp_ret lk_i94_15 lk_M94 rfl H
/-! LonelyDots.isPlace(I)Z -/
theorem lk_M95 : lk_mt[95]? = some (yX11_isPlace, cX11_isPlace, 1, ((some FieldType.boolean))) := rfl
theorem lk_s95_0_1 : lk_seg 95 [(.iload_n 0, 1, (0, [], .null))] 0 = some 1 := by decide +kernel
theorem lk_i95_1 : lk_ins 95 1 = some (.ifCond .lt 13, 3, (14, [], .null)) := lk_eqE_eq (by decide +kernel)
theorem lk_s95_14_1 : lk_seg 95 [(.iconst 0, 1, (0, [], .int (0)))] 14 = some 15 := by decide +kernel
theorem lk_i95_15 : lk_ins 95 15 = some (.ireturn, 1, (0, [], .null)) := lk_eqE_eq (by decide +kernel)
theorem lk_s95_4_2 : lk_seg 95 [(.iload_n 0, 1, (0, [], .null)), (.bipush 10, 2, (0, [], .int (10)))] 4 = some 7 := by decide +kernel
theorem lk_i95_7 : lk_ins 95 7 = some (.if_icmp .ge 7, 3, (14, [], .null)) := lk_eqE_eq (by decide +kernel)
theorem lk_s95_10_2 : lk_seg 95 [(.iconst 1, 1, (0, [], .int (1))), (.goto 4, 3, (15, [], .null))] 10 = some 15 := by decide +kernel
set_option maxRecDepth 20000 in
theorem E_x_isPlace {X : lk_X} {d : Nat} {x0 : Int32} {h : lk_H} {Q : Option Value → lk_H → Prop} (H : (x0 < 0 → Q (some (.int 0)) h) ∧ (¬ x0 < 0 → (10 ≤ x0 → Q (some (.int 0)) h) ∧ (¬ 10 ≤ x0 → Q (some (.int 1)) h))) : lk_wx X (d + 1) 95 [.int x0] h Q := by
  refine lk_enter (lo := [.int x0]) lk_M95 rfl (Nat.le_of_ble_eq_true rfl) ?_
  refine lk_wp_seg (lo' := [.int x0]) (st' := [.int x0]) lk_M95 lk_s95_0_1 rfl ?_
  refine lk_wp_if_lt lk_i95_1 lk_M95 H (fun H => ?_) (fun H => ?_)
  · refine lk_wp_seg (lo' := [.int x0]) (st' := [.int 0]) lk_M95 lk_s95_14_1 rfl ?_
    exact lk_wp_ret lk_i95_15 lk_M95 rfl H
  · refine lk_wp_seg (lo' := [.int x0]) (st' := [.int 10, .int x0]) lk_M95 lk_s95_4_2 rfl ?_
    refine lk_wp_ic_ge lk_i95_7 lk_M95 H (fun H => ?_) (fun H => ?_)
    · refine lk_wp_seg (lo' := [.int x0]) (st' := [.int 0]) lk_M95 lk_s95_14_1 rfl ?_
      exact lk_wp_ret lk_i95_15 lk_M95 rfl H
    · refine lk_wp_seg (lo' := [.int x0]) (st' := [.int 1]) lk_M95 lk_s95_10_2 rfl ?_
      exact lk_wp_ret lk_i95_15 lk_M95 rfl H
/-! LonelyDots.found(I)I -/
theorem lk_M96 : lk_mt[96]? = some (yX11_found, cX11_found, 2, ((some FieldType.int))) := rfl
theorem lk_s96_0_2 : lk_seg 96 [(.aload_n 0, 1, (0, [], .null)), (.iload_n 1, 1, (0, [], .null))] 0 = some 2 := by decide +kernel
theorem lk_i96_2 : lk_ins 96 2 = some (.putfield 48, 3, (6, [(10, 0)], .null)) := lk_eqE_eq (by decide +kernel)
theorem lk_s96_5_3 : lk_seg 96 [(.ldc 245, 2, (0, [], .int (-1000010))), (.iload_n 1, 1, (0, [], .null)), (.isub, 1, (0, [], .null))] 5 = some 9 := by decide +kernel
theorem lk_i96_9 : lk_ins 96 9 = some (.ireturn, 1, (0, [], .null)) := lk_eqE_eq (by decide +kernel)
set_option maxRecDepth 20000 in
theorem E_x_found {X : lk_X} {d : Nat} {x1 : Int32} {a0 : Nat} {h : lk_H} {Q : Option Value → lk_H → Prop} (H : lk_pf h a0 6 [(10, 0)] (.int x1) (fun h1 => Q (some (.int ((-1000010) - x1))) h1)) : lk_wx X (d + 1) 96 [.ref a0, .int x1] h Q := by
  refine lk_enter (lo := [.ref a0, .int x1]) lk_M96 rfl (Nat.le_of_ble_eq_true rfl) ?_
  refine lk_wp_seg (lo' := [.ref a0, .int x1]) (st' := [.int x1, .ref a0]) lk_M96 lk_s96_0_2 rfl ?_
  refine lk_wp_pf lk_i96_2 lk_M96 H (fun h1 H => ?_)
  refine lk_wp_seg (lo' := [.ref a0, .int x1]) (st' := [.int ((-1000010) - x1)]) lk_M96 lk_s96_5_3 rfl ?_
  exact lk_wp_ret lk_i96_9 lk_M96 rfl H
/-! LonelyDots.settled(I)I -/
theorem lk_M97 : lk_mt[97]? = some (yX11_settled, cX11_settled, 2, ((some FieldType.int))) := rfl
theorem lk_s97_0_2 : lk_seg 97 [(.aload_n 0, 1, (0, [], .null)), (.iconst 0, 1, (0, [], .int (0)))] 0 = some 2 := by decide +kernel
theorem lk_i97_2 : lk_ins 97 2 = some (.putfield 48, 3, (6, [(10, 0)], .null)) := lk_eqE_eq (by decide +kernel)
theorem lk_s97_5_1 : lk_seg 97 [(.iload_n 1, 1, (0, [], .null))] 5 = some 6 := by decide +kernel
theorem lk_i97_6 : lk_ins 97 6 = some (.ireturn, 1, (0, [], .null)) := lk_eqE_eq (by decide +kernel)
set_option maxRecDepth 20000 in
theorem E_x_settled {X : lk_X} {d : Nat} {x1 : Int32} {a0 : Nat} {h : lk_H} {Q : Option Value → lk_H → Prop} (H : lk_pf h a0 6 [(10, 0)] (.int 0) (fun h1 => Q (some (.int x1)) h1)) : lk_wx X (d + 1) 97 [.ref a0, .int x1] h Q := by
  refine lk_enter (lo := [.ref a0, .int x1]) lk_M97 rfl (Nat.le_of_ble_eq_true rfl) ?_
  refine lk_wp_seg (lo' := [.ref a0, .int x1]) (st' := [.int 0, .ref a0]) lk_M97 lk_s97_0_2 rfl ?_
  refine lk_wp_pf lk_i97_2 lk_M97 H (fun h1 H => ?_)
  refine lk_wp_seg (lo' := [.ref a0, .int x1]) (st' := [.int x1]) lk_M97 lk_s97_5_1 rfl ?_
  exact lk_wp_ret lk_i97_6 lk_M97 rfl H
/-! LonelyDots.shelve(ILLonelyDots$Thing;)I -/
theorem lk_M98 : lk_mt[98]? = some (yX11_shelve, cX11_shelve, 3, ((some FieldType.int))) := rfl
theorem lk_s98_0_1 : lk_seg 98 [(.aload_n 0, 1, (0, [], .null))] 0 = some 1 := by decide +kernel
theorem lk_i98_1 : lk_ins 98 1 = some (.getfield 17, 3, (1, [(10, 0)], .null)) := lk_eqE_eq (by decide +kernel)
theorem lk_s98_4_2 : lk_seg 98 [(.iload_n 1, 1, (0, [], .null)), (.aload_n 2, 1, (0, [], .null))] 4 = some 6 := by decide +kernel
theorem lk_i98_6 : lk_ins 98 6 = some (.aastore, 1, (0, [], .null)) := lk_eqE_eq (by decide +kernel)
theorem lk_s98_7_2 : lk_seg 98 [(.aload_n 0, 1, (0, [], .null)), (.aload_n 2, 1, (0, [], .null))] 7 = some 9 := by decide +kernel
theorem lk_i98_9 : lk_ins 98 9 = some (.invokevirtual 183, 3, (2, [(0, 1), (2, 15), (4, 31), (5, 40), (6, 43)], .ref 65)) := lk_eqE_eq (by decide +kernel)
theorem lk_i98_12 : lk_ins 98 12 = some (.invokevirtual 66, 3, (1, [(10, 97)], .ref 43)) := lk_eqE_eq (by decide +kernel)
theorem lk_i98_15 : lk_ins 98 15 = some (.ireturn, 1, (0, [], .null)) := lk_eqE_eq (by decide +kernel)
set_option maxRecDepth 20000 in
theorem E_x_shelve {X : lk_X} {d : Nat} {x1 : Int32} {a0 a2 : Nat} {h : lk_H} {Q : Option Value → lk_H → Prop} (H : lk_fR h a0 1 [(10, 0)] (fun r1 => lk_rs h r1 x1 a2 (fun h2 => lk_vc h2 a2 [(0, 1), (2, 15), (4, 31), (5, 40), (6, 43)] (fun k8 => lk_wxi X d k8 [.ref a2] h2 (fun r4 h3 => lk_vc h3 a0 [(10, 97)] (fun k7 => lk_wxi X d k7 [.ref a0, .int r4] h3 (fun r6 h5 => Q (some (.int r6)) h5))))))) : lk_wx X (d + 1) 98 [.ref a0, .int x1, .ref a2] h Q := by
  refine lk_enter (lo := [.ref a0, .int x1, .ref a2]) lk_M98 rfl (Nat.le_of_ble_eq_true rfl) ?_
  refine lk_wp_seg (lo' := [.ref a0, .int x1, .ref a2]) (st' := [.ref a0]) lk_M98 lk_s98_0_1 rfl ?_
  refine lk_wp_fR lk_i98_1 lk_M98 H (fun r1 H => ?_)
  refine lk_wp_seg (lo' := [.ref a0, .int x1, .ref a2]) (st' := [.ref a2, .int x1, .ref r1]) lk_M98 lk_s98_4_2 rfl ?_
  refine lk_wp_rs lk_i98_6 lk_M98 H (fun h2 H => ?_)
  refine lk_wp_seg (lo' := [.ref a0, .int x1, .ref a2]) (st' := [.ref a2, .ref a0]) lk_M98 lk_s98_7_2 rfl ?_
  refine lk_wp_cv (as := []) (r := [.ref a0]) (a := a2) lk_i98_9 lk_M98 rfl rfl rfl (Nat.le_of_ble_eq_true rfl) H (fun k8 H => lk_gi H (fun r4 h3 H => ?_))
  refine lk_wp_cv (as := [.int r4]) (r := []) (a := a0) lk_i98_12 lk_M98 rfl rfl rfl (Nat.le_of_ble_eq_true rfl) H (fun k7 H => lk_gi H (fun r6 h5 H => ?_))
  exact lk_wp_ret lk_i98_15 lk_M98 rfl H
/-! LonelyDots.findingOfItems(III)I -/
theorem lk_M99 : lk_mt[99]? = some (yX11_findingOfItems, cX11_findingOfItems, 4, ((some FieldType.int))) := rfl
theorem lk_s99_0_1 : lk_seg 99 [(.aload_n 0, 1, (0, [], .null))] 0 = some 1 := by decide +kernel
theorem lk_i99_1 : lk_ins 99 1 = some (.getfield 11, 3, (0, [(10, 0)], .null)) := lk_eqE_eq (by decide +kernel)
theorem lk_s99_4_1 : lk_seg 99 [(.iload_n 1, 1, (0, [], .null))] 4 = some 5 := by decide +kernel
theorem lk_i99_5 : lk_ins 99 5 = some (.aaload, 1, (0, [], .null)) := lk_eqE_eq (by decide +kernel)
theorem lk_i99_6 : lk_ins 99 6 = some (.getfield 69, 3, (1, [(8, 0)], .null)) := lk_eqE_eq (by decide +kernel)
theorem lk_i99_9 : lk_ins 99 9 = some (.ifCond .eq 5, 3, (14, [], .null)) := lk_eqE_eq (by decide +kernel)
theorem lk_s99_14_1 : lk_seg 99 [(.aload_n 0, 1, (0, [], .null))] 14 = some 15 := by decide +kernel
theorem lk_i99_15 : lk_ins 99 15 = some (.getfield 11, 3, (0, [(10, 0)], .null)) := lk_eqE_eq (by decide +kernel)
theorem lk_s99_18_1 : lk_seg 99 [(.iload_n 1, 1, (0, [], .null))] 18 = some 19 := by decide +kernel
theorem lk_i99_19 : lk_ins 99 19 = some (.aaload, 1, (0, [], .null)) := lk_eqE_eq (by decide +kernel)
theorem lk_s99_20_2 : lk_seg 99 [(.iload_n 2, 1, (0, [], .null)), (.iload_n 3, 1, (0, [], .null))] 20 = some 22 := by decide +kernel
theorem lk_i99_22 : lk_ins 99 22 = some (.invokevirtual 73, 3, (1, [(8, 52)], .ref 44)) := lk_eqE_eq (by decide +kernel)
theorem lk_i99_25 : lk_ins 99 25 = some (.ifCond .eq 7, 3, (32, [], .null)) := lk_eqE_eq (by decide +kernel)
theorem lk_s99_32_1 : lk_seg 99 [(.iconst 2, 1, (0, [], .int (2)))] 32 = some 33 := by decide +kernel
theorem lk_i99_33 : lk_ins 99 33 = some (.ireturn, 1, (0, [], .null)) := lk_eqE_eq (by decide +kernel)
theorem lk_s99_28_2 : lk_seg 99 [(.iconst 0, 1, (0, [], .int (0))), (.goto 4, 3, (33, [], .null))] 28 = some 33 := by decide +kernel
theorem lk_s99_12_1 : lk_seg 99 [(.iconst 1, 1, (0, [], .int (1)))] 12 = some 13 := by decide +kernel
theorem lk_i99_13 : lk_ins 99 13 = some (.ireturn, 1, (0, [], .null)) := lk_eqE_eq (by decide +kernel)
set_option maxRecDepth 20000 in
theorem E_x_findingOfItems {X : lk_X} {d : Nat} {x1 x2 x3 : Int32} {a0 : Nat} {h : lk_H} {Q : Option Value → lk_H → Prop} (H : lk_fR h a0 0 [(10, 0)] (fun r1 => lk_ra h r1 x1 (False) (fun r2 => lk_fI h r2 1 [(8, 0)] (fun r3 => (r3 = 0 → lk_fR h a0 0 [(10, 0)] (fun r4 => lk_ra h r4 x1 (False) (fun r5 => lk_vc h r5 [(8, 52)] (fun k8 => lk_wxi X d k8 [.ref r5, .int x2, .int x3] h (fun r7 h6 => (r7 = 0 → Q (some (.int 2)) h6) ∧ (¬ r7 = 0 → Q (some (.int 0)) h6)))))) ∧ (¬ r3 = 0 → Q (some (.int 1)) h))))) : lk_wx X (d + 1) 99 [.ref a0, .int x1, .int x2, .int x3] h Q := by
  refine lk_enter (lo := [.ref a0, .int x1, .int x2, .int x3]) lk_M99 rfl (Nat.le_of_ble_eq_true rfl) ?_
  refine lk_wp_seg (lo' := [.ref a0, .int x1, .int x2, .int x3]) (st' := [.ref a0]) lk_M99 lk_s99_0_1 rfl ?_
  refine lk_wp_fR lk_i99_1 lk_M99 H (fun r1 H => ?_)
  refine lk_wp_seg (lo' := [.ref a0, .int x1, .int x2, .int x3]) (st' := [.int x1, .ref r1]) lk_M99 lk_s99_4_1 rfl ?_
  refine lk_wp_ra lk_i99_5 lk_M99 H ⟨fun H => ?_, fun r2 H => ?_⟩
  · exact H.elim
  · refine lk_wp_fI lk_i99_6 lk_M99 H (fun r3 H => ?_)
    refine lk_wp_if_eq lk_i99_9 lk_M99 H (fun H => ?_) (fun H => ?_)
    · refine lk_wp_seg (lo' := [.ref a0, .int x1, .int x2, .int x3]) (st' := [.ref a0]) lk_M99 lk_s99_14_1 rfl ?_
      refine lk_wp_fR lk_i99_15 lk_M99 H (fun r4 H => ?_)
      refine lk_wp_seg (lo' := [.ref a0, .int x1, .int x2, .int x3]) (st' := [.int x1, .ref r4]) lk_M99 lk_s99_18_1 rfl ?_
      refine lk_wp_ra lk_i99_19 lk_M99 H ⟨fun H => ?_, fun r5 H => ?_⟩
      · refine lk_wp_seg (lo' := [.ref a0, .int x1, .int x2, .int x3]) (st' := [.int x3, .int x2, .null]) lk_M99 lk_s99_20_2 rfl ?_
        exact H.elim
      · refine lk_wp_seg (lo' := [.ref a0, .int x1, .int x2, .int x3]) (st' := [.int x3, .int x2, .ref r5]) lk_M99 lk_s99_20_2 rfl ?_
        refine lk_wp_cv (as := [.int x2, .int x3]) (r := []) (a := r5) lk_i99_22 lk_M99 rfl rfl rfl (Nat.le_of_ble_eq_true rfl) H (fun k8 H => lk_gi H (fun r7 h6 H => ?_))
        refine lk_wp_if_eq lk_i99_25 lk_M99 H (fun H => ?_) (fun H => ?_)
        · refine lk_wp_seg (lo' := [.ref a0, .int x1, .int x2, .int x3]) (st' := [.int 2]) lk_M99 lk_s99_32_1 rfl ?_
          exact lk_wp_ret lk_i99_33 lk_M99 rfl H
        · refine lk_wp_seg (lo' := [.ref a0, .int x1, .int x2, .int x3]) (st' := [.int 0]) lk_M99 lk_s99_28_2 rfl ?_
          exact lk_wp_ret lk_i99_33 lk_M99 rfl H
    · refine lk_wp_seg (lo' := [.ref a0, .int x1, .int x2, .int x3]) (st' := [.int 1]) lk_M99 lk_s99_12_1 rfl ?_
      exact lk_wp_ret lk_i99_13 lk_M99 rfl H
/-! LonelyDots.orderAt(I)LLonelyDots$Order; -/
theorem lk_M100 : lk_mt[100]? = some (yX11_orderAt, cX11_orderAt, 3, ((some (FieldType.object "LonelyDots$Order")))) := rfl
theorem lk_s100_0_1 : lk_seg 100 [(.aload_n 0, 1, (0, [], .null))] 0 = some 1 := by decide +kernel
theorem lk_i100_1 : lk_ins 100 1 = some (.getfield 17, 3, (1, [(10, 0)], .null)) := lk_eqE_eq (by decide +kernel)
theorem lk_s100_4_1 : lk_seg 100 [(.iload_n 1, 1, (0, [], .null))] 4 = some 5 := by decide +kernel
theorem lk_i100_5 : lk_ins 100 5 = some (.aaload, 1, (0, [], .null)) := lk_eqE_eq (by decide +kernel)
theorem lk_s100_6_2 : lk_seg 100 [(.astore_n 2, 1, (0, [], .null)), (.aload_n 2, 1, (0, [], .null))] 6 = some 8 := by decide +kernel
theorem lk_i100_8 : lk_ins 100 8 = some (.instanceof 108, 3, (4, [(0, 1), (2, 0), (4, 1), (5, 0), (6, 0)], .null)) := lk_eqE_eq (by decide +kernel)
theorem lk_i100_11 : lk_ins 100 11 = some (.ifCond .eq 10, 3, (21, [], .null)) := lk_eqE_eq (by decide +kernel)
theorem lk_s100_21_1 : lk_seg 100 [(.aconst_null, 1, (0, [], .null))] 21 = some 22 := by decide +kernel
theorem lk_i100_22 : lk_ins 100 22 = some (.areturn, 1, (0, [], .null)) := lk_eqE_eq (by decide +kernel)
theorem lk_s100_14_1 : lk_seg 100 [(.aload_n 2, 1, (0, [], .null))] 14 = some 15 := by decide +kernel
theorem lk_i100_15 : lk_ins 100 15 = some (.checkcast 108, 3, (4, [(0, 1), (4, 1)], .null)) := lk_eqE_eq (by decide +kernel)
theorem lk_s100_18_1 : lk_seg 100 [(.goto 4, 3, (22, [], .null))] 18 = some 22 := by decide +kernel
set_option maxRecDepth 20000 in
theorem E_x_orderAt {X : lk_X} {d : Nat} {x1 : Int32} {a0 : Nat} {h : lk_H} {Q : Option Value → lk_H → Prop} (H : lk_fR h a0 1 [(10, 0)] (fun r1 => lk_ra h r1 x1 (Q (some (.null)) h) (fun r2 => lk_io h r2 [(0, 1), (2, 0), (4, 1), (5, 0), (6, 0)] (lk_cc h r2 [(0, 1), (4, 1)] (Q (some (.ref r2)) h)) (Q (some (.null)) h)))) : lk_wx X (d + 1) 100 [.ref a0, .int x1] h Q := by
  refine lk_enter (lo := [.ref a0, .int x1, .retAddr 0]) lk_M100 rfl (Nat.le_of_ble_eq_true rfl) ?_
  refine lk_wp_seg (lo' := [.ref a0, .int x1, .retAddr 0]) (st' := [.ref a0]) lk_M100 lk_s100_0_1 rfl ?_
  refine lk_wp_fR lk_i100_1 lk_M100 H (fun r1 H => ?_)
  refine lk_wp_seg (lo' := [.ref a0, .int x1, .retAddr 0]) (st' := [.int x1, .ref r1]) lk_M100 lk_s100_4_1 rfl ?_
  refine lk_wp_ra lk_i100_5 lk_M100 H ⟨fun H => ?_, fun r2 H => ?_⟩
  · refine lk_wp_seg (lo' := [.ref a0, .int x1, .null]) (st' := [.null]) lk_M100 lk_s100_6_2 rfl ?_
    refine lk_wp_one lk_i100_8 lk_M100 rfl (lk_cal0 rfl) rfl ?_
    refine lk_wp_if_eq lk_i100_11 lk_M100 (A := True) (B := False) ⟨fun _ => trivial, fun q => absurd (by decide) q⟩ (fun _ => ?_) (fun q => q.elim)
    refine lk_wp_seg (lo' := [.ref a0, .int x1, .null]) (st' := [.null]) lk_M100 lk_s100_21_1 rfl ?_
    exact lk_wp_ret lk_i100_22 lk_M100 rfl H
  · refine lk_wp_seg (lo' := [.ref a0, .int x1, .ref r2]) (st' := [.ref r2]) lk_M100 lk_s100_6_2 rfl ?_
    refine lk_wp_io lk_i100_8 lk_M100 H ⟨fun H => ?_, fun H => ?_⟩
    · refine lk_wp_if_eq lk_i100_11 lk_M100 (A := False) (B := True) ⟨fun q => absurd q (by decide), fun _ => trivial⟩ (fun q => q.elim) (fun _ => ?_)
      refine lk_wp_seg (lo' := [.ref a0, .int x1, .ref r2]) (st' := [.ref r2]) lk_M100 lk_s100_14_1 rfl ?_
      refine lk_wp_cc lk_i100_15 lk_M100 H (fun H => ?_)
      refine lk_wp_seg (lo' := [.ref a0, .int x1, .ref r2]) (st' := [.ref r2]) lk_M100 lk_s100_18_1 rfl ?_
      exact lk_wp_ret lk_i100_22 lk_M100 rfl H
    · refine lk_wp_if_eq lk_i100_11 lk_M100 (A := True) (B := False) ⟨fun _ => trivial, fun q => absurd (by decide) q⟩ (fun _ => ?_) (fun q => q.elim)
      refine lk_wp_seg (lo' := [.ref a0, .int x1, .ref r2]) (st' := [.null]) lk_M100 lk_s100_21_1 rfl ?_
      exact lk_wp_ret lk_i100_22 lk_M100 rfl H
/-! LonelyDots.findingOfNoOrder(I)I -/
theorem lk_M101 : lk_mt[101]? = some (yX11_findingOfNoOrder, cX11_findingOfNoOrder, 2, ((some FieldType.int))) := rfl
theorem lk_s101_0_1 : lk_seg 101 [(.aload_n 0, 1, (0, [], .null))] 0 = some 1 := by decide +kernel
theorem lk_i101_1 : lk_ins 101 1 = some (.getfield 17, 3, (1, [(10, 0)], .null)) := lk_eqE_eq (by decide +kernel)
theorem lk_s101_4_1 : lk_seg 101 [(.iload_n 1, 1, (0, [], .null))] 4 = some 5 := by decide +kernel
theorem lk_i101_5 : lk_ins 101 5 = some (.aaload, 1, (0, [], .null)) := lk_eqE_eq (by decide +kernel)
theorem lk_i101_6 : lk_ins 101 6 = some (.ifnonnull 7, 3, (13, [], .null)) := lk_eqE_eq (by decide +kernel)
theorem lk_s101_9_2 : lk_seg 101 [(.iconst 1, 1, (0, [], .int (1))), (.goto 4, 3, (14, [], .null))] 9 = some 14 := by decide +kernel
theorem lk_i101_14 : lk_ins 101 14 = some (.ireturn, 1, (0, [], .null)) := lk_eqE_eq (by decide +kernel)
theorem lk_s101_13_1 : lk_seg 101 [(.iconst 3, 1, (0, [], .int (3)))] 13 = some 14 := by decide +kernel
set_option maxRecDepth 20000 in
theorem E_x_findingOfNoOrder {X : lk_X} {d : Nat} {x1 : Int32} {a0 : Nat} {h : lk_H} {Q : Option Value → lk_H → Prop} (H : lk_fR h a0 1 [(10, 0)] (fun r1 => lk_ra h r1 x1 (Q (some (.int 1)) h) (fun r2 => Q (some (.int 3)) h))) : lk_wx X (d + 1) 101 [.ref a0, .int x1] h Q := by
  refine lk_enter (lo := [.ref a0, .int x1]) lk_M101 rfl (Nat.le_of_ble_eq_true rfl) ?_
  refine lk_wp_seg (lo' := [.ref a0, .int x1]) (st' := [.ref a0]) lk_M101 lk_s101_0_1 rfl ?_
  refine lk_wp_fR lk_i101_1 lk_M101 H (fun r1 H => ?_)
  refine lk_wp_seg (lo' := [.ref a0, .int x1]) (st' := [.int x1, .ref r1]) lk_M101 lk_s101_4_1 rfl ?_
  refine lk_wp_ra lk_i101_5 lk_M101 H ⟨fun H => ?_, fun r2 H => ?_⟩
  · refine lk_wp_one lk_i101_6 lk_M101 rfl (lk_cal0 rfl) rfl ?_
    refine lk_wp_seg (lo' := [.ref a0, .int x1]) (st' := [.int 1]) lk_M101 lk_s101_9_2 rfl ?_
    exact lk_wp_ret lk_i101_14 lk_M101 rfl H
  · refine lk_wp_one lk_i101_6 lk_M101 rfl (lk_cal0 rfl) rfl ?_
    refine lk_wp_seg (lo' := [.ref a0, .int x1]) (st' := [.int 3]) lk_M101 lk_s101_13_1 rfl ?_
    exact lk_wp_ret lk_i101_14 lk_M101 rfl H
/-! LonelyDots.isOfKind(LLonelyDots$Thing;I)Z -/
theorem lk_M102 : lk_mt[102]? = some (yX11_isOfKind, cX11_isOfKind, 2, ((some FieldType.boolean))) := rfl
theorem lk_s102_0_1 : lk_seg 102 [(.iload_n 1, 1, (0, [], .null))] 0 = some 1 := by decide +kernel
theorem lk_i102_1 : lk_ins 102 1 = some (.tableswitch 74 0 5 #[39, 49, 54, 59, 64, 69], 39, (75, [(0, 40), (1, 50), (2, 55), (3, 60), (4, 65), (5, 70)], .null)) := lk_eqE_eq (by decide +kernel)
theorem lk_s102_40_1 : lk_seg 102 [(.aload_n 0, 1, (0, [], .null))] 40 = some 41 := by decide +kernel
theorem lk_i102_41 : lk_ins 102 41 = some (.ifnull 7, 3, (48, [], .null)) := lk_eqE_eq (by decide +kernel)
theorem lk_s102_44_2 : lk_seg 102 [(.iconst 1, 1, (0, [], .int (1))), (.goto 4, 3, (49, [], .null))] 44 = some 49 := by decide +kernel
theorem lk_i102_49 : lk_ins 102 49 = some (.ireturn, 1, (0, [], .null)) := lk_eqE_eq (by decide +kernel)
theorem lk_s102_50_1 : lk_seg 102 [(.aload_n 0, 1, (0, [], .null))] 50 = some 51 := by decide +kernel
theorem lk_i102_51 : lk_ins 102 51 = some (.instanceof 108, 3, (4, [(0, 1), (2, 0), (4, 1), (5, 0), (6, 0)], .null)) := lk_eqE_eq (by decide +kernel)
theorem lk_i102_54 : lk_ins 102 54 = some (.ireturn, 1, (0, [], .null)) := lk_eqE_eq (by decide +kernel)
theorem lk_s102_55_1 : lk_seg 102 [(.aload_n 0, 1, (0, [], .null))] 55 = some 56 := by decide +kernel
theorem lk_i102_56 : lk_ins 102 56 = some (.instanceof 175, 3, (0, [(0, 1), (2, 0), (4, 0), (5, 0), (6, 0)], .null)) := lk_eqE_eq (by decide +kernel)
theorem lk_i102_59 : lk_ins 102 59 = some (.ireturn, 1, (0, [], .null)) := lk_eqE_eq (by decide +kernel)
theorem lk_s102_60_1 : lk_seg 102 [(.aload_n 0, 1, (0, [], .null))] 60 = some 61 := by decide +kernel
theorem lk_i102_61 : lk_ins 102 61 = some (.instanceof 122, 3, (2, [(0, 0), (2, 1), (4, 0), (5, 1), (6, 1)], .null)) := lk_eqE_eq (by decide +kernel)
theorem lk_i102_64 : lk_ins 102 64 = some (.ireturn, 1, (0, [], .null)) := lk_eqE_eq (by decide +kernel)
theorem lk_s102_65_1 : lk_seg 102 [(.aload_n 0, 1, (0, [], .null))] 65 = some 66 := by decide +kernel
theorem lk_i102_66 : lk_ins 102 66 = some (.instanceof 246, 3, (6, [(0, 0), (2, 0), (4, 0), (5, 1), (6, 1)], .null)) := lk_eqE_eq (by decide +kernel)
theorem lk_i102_69 : lk_ins 102 69 = some (.ireturn, 1, (0, [], .null)) := lk_eqE_eq (by decide +kernel)
theorem lk_s102_70_1 : lk_seg 102 [(.aload_n 0, 1, (0, [], .null))] 70 = some 71 := by decide +kernel
theorem lk_i102_71 : lk_ins 102 71 = some (.instanceof 248, 3, (5, [(0, 0), (2, 0), (4, 0), (5, 1), (6, 0)], .null)) := lk_eqE_eq (by decide +kernel)
theorem lk_i102_74 : lk_ins 102 74 = some (.ireturn, 1, (0, [], .null)) := lk_eqE_eq (by decide +kernel)
theorem lk_s102_75_1 : lk_seg 102 [(.iconst 0, 1, (0, [], .int (0)))] 75 = some 76 := by decide +kernel
theorem lk_i102_76 : lk_ins 102 76 = some (.ireturn, 1, (0, [], .null)) := lk_eqE_eq (by decide +kernel)
set_option maxRecDepth 20000 in
theorem E_x_isOfKind {X : lk_X} {d : Nat} {x1 : Int32} {a0 : Nat} {h : lk_H} {Q : Option Value → lk_H → Prop} (H : (x1 = Int32.ofNat 0 → Q (some (.int 1)) h) ∧ (¬ x1 = Int32.ofNat 0 → (x1 = Int32.ofNat 1 → lk_io h a0 [(0, 1), (2, 0), (4, 1), (5, 0), (6, 0)] (Q (some (.int 1)) h) (Q (some (.int 0)) h)) ∧ (¬ x1 = Int32.ofNat 1 → (x1 = Int32.ofNat 2 → lk_io h a0 [(0, 1), (2, 0), (4, 0), (5, 0), (6, 0)] (Q (some (.int 1)) h) (Q (some (.int 0)) h)) ∧ (¬ x1 = Int32.ofNat 2 → (x1 = Int32.ofNat 3 → lk_io h a0 [(0, 0), (2, 1), (4, 0), (5, 1), (6, 1)] (Q (some (.int 1)) h) (Q (some (.int 0)) h)) ∧ (¬ x1 = Int32.ofNat 3 → (x1 = Int32.ofNat 4 → lk_io h a0 [(0, 0), (2, 0), (4, 0), (5, 1), (6, 1)] (Q (some (.int 1)) h) (Q (some (.int 0)) h)) ∧ (¬ x1 = Int32.ofNat 4 → (x1 = Int32.ofNat 5 → lk_io h a0 [(0, 0), (2, 0), (4, 0), (5, 1), (6, 0)] (Q (some (.int 1)) h) (Q (some (.int 0)) h)) ∧ (¬ x1 = Int32.ofNat 5 → Q (some (.int 0)) h))))))) : lk_wx X (d + 1) 102 [.ref a0, .int x1] h Q := by
  refine lk_enter (lo := [.ref a0, .int x1]) lk_M102 rfl (Nat.le_of_ble_eq_true rfl) ?_
  refine lk_wp_seg (lo' := [.ref a0, .int x1]) (st' := [.int x1]) lk_M102 lk_s102_0_1 rfl ?_
  refine lk_wp_sw lk_i102_1 lk_M102 ?_
  refine lk_wp_swc H (fun H => ?_) (fun H => ?_)
  · refine lk_wp_seg (lo' := [.ref a0, .int x1]) (st' := [.ref a0]) lk_M102 lk_s102_40_1 rfl ?_
    refine lk_wp_one lk_i102_41 lk_M102 rfl (lk_cal0 rfl) rfl ?_
    refine lk_wp_seg (lo' := [.ref a0, .int x1]) (st' := [.int 1]) lk_M102 lk_s102_44_2 rfl ?_
    exact lk_wp_ret lk_i102_49 lk_M102 rfl H
  · refine lk_wp_swc H (fun H => ?_) (fun H => ?_)
    · refine lk_wp_seg (lo' := [.ref a0, .int x1]) (st' := [.ref a0]) lk_M102 lk_s102_50_1 rfl ?_
      refine lk_wp_io lk_i102_51 lk_M102 H ⟨fun H => ?_, fun H => ?_⟩
      · exact lk_wp_ret lk_i102_54 lk_M102 rfl H
      · exact lk_wp_ret lk_i102_54 lk_M102 rfl H
    · refine lk_wp_swc H (fun H => ?_) (fun H => ?_)
      · refine lk_wp_seg (lo' := [.ref a0, .int x1]) (st' := [.ref a0]) lk_M102 lk_s102_55_1 rfl ?_
        refine lk_wp_io lk_i102_56 lk_M102 H ⟨fun H => ?_, fun H => ?_⟩
        · exact lk_wp_ret lk_i102_59 lk_M102 rfl H
        · exact lk_wp_ret lk_i102_59 lk_M102 rfl H
      · refine lk_wp_swc H (fun H => ?_) (fun H => ?_)
        · refine lk_wp_seg (lo' := [.ref a0, .int x1]) (st' := [.ref a0]) lk_M102 lk_s102_60_1 rfl ?_
          refine lk_wp_io lk_i102_61 lk_M102 H ⟨fun H => ?_, fun H => ?_⟩
          · exact lk_wp_ret lk_i102_64 lk_M102 rfl H
          · exact lk_wp_ret lk_i102_64 lk_M102 rfl H
        · refine lk_wp_swc H (fun H => ?_) (fun H => ?_)
          · refine lk_wp_seg (lo' := [.ref a0, .int x1]) (st' := [.ref a0]) lk_M102 lk_s102_65_1 rfl ?_
            refine lk_wp_io lk_i102_66 lk_M102 H ⟨fun H => ?_, fun H => ?_⟩
            · exact lk_wp_ret lk_i102_69 lk_M102 rfl H
            · exact lk_wp_ret lk_i102_69 lk_M102 rfl H
          · refine lk_wp_swc H (fun H => ?_) (fun H => ?_)
            · refine lk_wp_seg (lo' := [.ref a0, .int x1]) (st' := [.ref a0]) lk_M102 lk_s102_70_1 rfl ?_
              refine lk_wp_io lk_i102_71 lk_M102 H ⟨fun H => ?_, fun H => ?_⟩
              · exact lk_wp_ret lk_i102_74 lk_M102 rfl H
              · exact lk_wp_ret lk_i102_74 lk_M102 rfl H
            · refine lk_wp_seg (lo' := [.ref a0, .int x1]) (st' := [.int 0]) lk_M102 lk_s102_75_1 rfl ?_
              exact lk_wp_ret lk_i102_76 lk_M102 rfl H
/-! LonelyDots.sheetsThere()I -/
theorem lk_M103 : lk_mt[103]? = some (yX11_sheetsThere, cX11_sheetsThere, 3, ((some FieldType.int))) := rfl
theorem lk_s103_0_4 : lk_seg 103 [(.iconst 0, 1, (0, [], .int (0))), (.istore_n 1, 1, (0, [], .null)), (.iconst 0, 1, (0, [], .int (0))), (.istore_n 2, 1, (0, [], .null))] 0 = some 4 := by decide +kernel
theorem lk_s103_4_2 : lk_seg 103 [(.iload_n 2, 1, (0, [], .null)), (.bipush 8, 2, (0, [], .int (8)))] 4 = some 7 := by decide +kernel
theorem lk_i103_7 : lk_ins 103 7 = some (.if_icmp .ge 24, 3, (31, [], .null)) := lk_eqE_eq (by decide +kernel)
theorem lk_s103_31_1 : lk_seg 103 [(.iload_n 1, 1, (0, [], .null))] 31 = some 32 := by decide +kernel
theorem lk_i103_32 : lk_ins 103 32 = some (.ireturn, 1, (0, [], .null)) := lk_eqE_eq (by decide +kernel)
theorem lk_s103_10_1 : lk_seg 103 [(.aload_n 0, 1, (0, [], .null))] 10 = some 11 := by decide +kernel
theorem lk_i103_11 : lk_ins 103 11 = some (.getfield 11, 3, (0, [(10, 0)], .null)) := lk_eqE_eq (by decide +kernel)
theorem lk_s103_14_1 : lk_seg 103 [(.iload_n 2, 1, (0, [], .null))] 14 = some 15 := by decide +kernel
theorem lk_i103_15 : lk_ins 103 15 = some (.aaload, 1, (0, [], .null)) := lk_eqE_eq (by decide +kernel)
theorem lk_i103_16 : lk_ins 103 16 = some (.getfield 69, 3, (1, [(8, 0)], .null)) := lk_eqE_eq (by decide +kernel)
theorem lk_i103_19 : lk_ins 103 19 = some (.ifCond .ne 6, 3, (25, [], .null)) := lk_eqE_eq (by decide +kernel)
theorem lk_s103_25_2 : lk_seg 103 [(.iinc 2 1, 3, (0, [], .int (1))), (.goto (-24), 3, (4, [], .null))] 25 = some 4 := by decide +kernel
theorem lk_s103_22_3 : lk_seg 103 [(.iinc 1 1, 3, (0, [], .int (1))), (.iinc 2 1, 3, (0, [], .int (1))), (.goto (-24), 3, (4, [], .null))] 22 = some 4 := by decide +kernel
set_option maxRecDepth 20000 in
theorem E_x_sheetsThere {X : lk_X} {d : Nat} {a0 : Nat} {h : lk_H} {Q : Option Value → lk_H → Prop} (H : lk_wp X (d + 1) 103 4 [.ref a0, .int 0, .int 0] [] h Q) : lk_wx X (d + 1) 103 [.ref a0] h Q := by
  refine lk_enter (lo := [.ref a0, .retAddr 0, .retAddr 0]) lk_M103 rfl (Nat.le_of_ble_eq_true rfl) ?_
  refine lk_wp_seg (lo' := [.ref a0, .int 0, .int 0]) (st' := []) lk_M103 lk_s103_0_4 rfl ?_
  exact H
set_option maxRecDepth 20000 in
theorem F_x_sheetsThere_4 {X : lk_X} {d : Nat} {x1 x2 : Int32} {a0 : Nat} {h : lk_H} {Q : Option Value → lk_H → Prop} (H : (8 ≤ x2 → Q (some (.int x1)) h) ∧ (¬ 8 ≤ x2 → lk_fR h a0 0 [(10, 0)] (fun r1 => lk_ra h r1 x2 (False) (fun r2 => lk_fI h r2 1 [(8, 0)] (fun r3 => (¬ r3 = 0 → lk_wp X (d + 1) 103 4 [.ref a0, .int x1, .int (x2 + 1)] [] h Q) ∧ (r3 = 0 → lk_wp X (d + 1) 103 4 [.ref a0, .int (x1 + 1), .int (x2 + 1)] [] h Q)))))) : lk_wp X (d + 1) 103 4 [.ref a0, .int x1, .int x2] [] h Q := by
  refine lk_wp_seg (lo' := [.ref a0, .int x1, .int x2]) (st' := [.int 8, .int x2]) lk_M103 lk_s103_4_2 rfl ?_
  refine lk_wp_ic_ge lk_i103_7 lk_M103 H (fun H => ?_) (fun H => ?_)
  · refine lk_wp_seg (lo' := [.ref a0, .int x1, .int x2]) (st' := [.int x1]) lk_M103 lk_s103_31_1 rfl ?_
    exact lk_wp_ret lk_i103_32 lk_M103 rfl H
  · refine lk_wp_seg (lo' := [.ref a0, .int x1, .int x2]) (st' := [.ref a0]) lk_M103 lk_s103_10_1 rfl ?_
    refine lk_wp_fR lk_i103_11 lk_M103 H (fun r1 H => ?_)
    refine lk_wp_seg (lo' := [.ref a0, .int x1, .int x2]) (st' := [.int x2, .ref r1]) lk_M103 lk_s103_14_1 rfl ?_
    refine lk_wp_ra lk_i103_15 lk_M103 H ⟨fun H => ?_, fun r2 H => ?_⟩
    · exact H.elim
    · refine lk_wp_fI lk_i103_16 lk_M103 H (fun r3 H => ?_)
      refine lk_wp_if_ne lk_i103_19 lk_M103 H (fun H => ?_) (fun H => ?_)
      · refine lk_wp_seg (lo' := [.ref a0, .int x1, .int (x2 + 1)]) (st' := []) lk_M103 lk_s103_25_2 rfl ?_
        exact H
      · refine lk_wp_seg (lo' := [.ref a0, .int (x1 + 1), .int (x2 + 1)]) (st' := []) lk_M103 lk_s103_22_3 rfl ?_
        exact H
/-! LonelyDots.thingsOfKind(I)I -/
theorem lk_M104 : lk_mt[104]? = some (yX11_thingsOfKind, cX11_thingsOfKind, 4, ((some FieldType.int))) := rfl
theorem lk_s104_0_4 : lk_seg 104 [(.iconst 0, 1, (0, [], .int (0))), (.istore_n 2, 1, (0, [], .null)), (.iconst 0, 1, (0, [], .int (0))), (.istore_n 3, 1, (0, [], .null))] 0 = some 4 := by decide +kernel
theorem lk_s104_4_2 : lk_seg 104 [(.iload_n 3, 1, (0, [], .null)), (.bipush 10, 2, (0, [], .int (10)))] 4 = some 7 := by decide +kernel
theorem lk_i104_7 : lk_ins 104 7 = some (.if_icmp .ge 25, 3, (32, [], .null)) := lk_eqE_eq (by decide +kernel)
theorem lk_s104_32_1 : lk_seg 104 [(.iload_n 2, 1, (0, [], .null))] 32 = some 33 := by decide +kernel
theorem lk_i104_33 : lk_ins 104 33 = some (.ireturn, 1, (0, [], .null)) := lk_eqE_eq (by decide +kernel)
theorem lk_s104_10_1 : lk_seg 104 [(.aload_n 0, 1, (0, [], .null))] 10 = some 11 := by decide +kernel
theorem lk_i104_11 : lk_ins 104 11 = some (.getfield 17, 3, (1, [(10, 0)], .null)) := lk_eqE_eq (by decide +kernel)
theorem lk_s104_14_1 : lk_seg 104 [(.iload_n 3, 1, (0, [], .null))] 14 = some 15 := by decide +kernel
theorem lk_i104_15 : lk_ins 104 15 = some (.aaload, 1, (0, [], .null)) := lk_eqE_eq (by decide +kernel)
theorem lk_s104_16_1 : lk_seg 104 [(.iload_n 1, 1, (0, [], .null))] 16 = some 17 := by decide +kernel
theorem lk_i104_17 : lk_ins 104 17 = some (.invokestatic 187, 3, (0, [(0, 102)], .ref 66)) := lk_eqE_eq (by decide +kernel)
theorem lk_i104_20 : lk_ins 104 20 = some (.ifCond .eq 6, 3, (26, [], .null)) := lk_eqE_eq (by decide +kernel)
theorem lk_s104_26_2 : lk_seg 104 [(.iinc 3 1, 3, (0, [], .int (1))), (.goto (-25), 3, (4, [], .null))] 26 = some 4 := by decide +kernel
theorem lk_s104_23_3 : lk_seg 104 [(.iinc 2 1, 3, (0, [], .int (1))), (.iinc 3 1, 3, (0, [], .int (1))), (.goto (-25), 3, (4, [], .null))] 23 = some 4 := by decide +kernel
set_option maxRecDepth 20000 in
theorem E_x_thingsOfKind {X : lk_X} {d : Nat} {x1 : Int32} {a0 : Nat} {h : lk_H} {Q : Option Value → lk_H → Prop} (H : lk_wp X (d + 1) 104 4 [.ref a0, .int x1, .int 0, .int 0] [] h Q) : lk_wx X (d + 1) 104 [.ref a0, .int x1] h Q := by
  refine lk_enter (lo := [.ref a0, .int x1, .retAddr 0, .retAddr 0]) lk_M104 rfl (Nat.le_of_ble_eq_true rfl) ?_
  refine lk_wp_seg (lo' := [.ref a0, .int x1, .int 0, .int 0]) (st' := []) lk_M104 lk_s104_0_4 rfl ?_
  exact H
set_option maxRecDepth 20000 in
theorem F_x_thingsOfKind_4 {X : lk_X} {d : Nat} {x1 x2 x3 : Int32} {a0 : Nat} {h : lk_H} {Q : Option Value → lk_H → Prop} (H : (10 ≤ x3 → Q (some (.int x2)) h) ∧ (¬ 10 ≤ x3 → lk_fR h a0 1 [(10, 0)] (fun r1 => lk_ra h r1 x3 (lk_wxi X d 102 [.null, .int x1] h (fun r4 h3 => (r4 = 0 → lk_wp X (d + 1) 104 4 [.ref a0, .int x1, .int x2, .int (x3 + 1)] [] h3 Q) ∧ (¬ r4 = 0 → lk_wp X (d + 1) 104 4 [.ref a0, .int x1, .int (x2 + 1), .int (x3 + 1)] [] h3 Q))) (fun r2 => lk_wxi X d 102 [.ref r2, .int x1] h (fun r6 h5 => (r6 = 0 → lk_wp X (d + 1) 104 4 [.ref a0, .int x1, .int x2, .int (x3 + 1)] [] h5 Q) ∧ (¬ r6 = 0 → lk_wp X (d + 1) 104 4 [.ref a0, .int x1, .int (x2 + 1), .int (x3 + 1)] [] h5 Q)))))) : lk_wp X (d + 1) 104 4 [.ref a0, .int x1, .int x2, .int x3] [] h Q := by
  refine lk_wp_seg (lo' := [.ref a0, .int x1, .int x2, .int x3]) (st' := [.int 10, .int x3]) lk_M104 lk_s104_4_2 rfl ?_
  refine lk_wp_ic_ge lk_i104_7 lk_M104 H (fun H => ?_) (fun H => ?_)
  · refine lk_wp_seg (lo' := [.ref a0, .int x1, .int x2, .int x3]) (st' := [.int x2]) lk_M104 lk_s104_32_1 rfl ?_
    exact lk_wp_ret lk_i104_33 lk_M104 rfl H
  · refine lk_wp_seg (lo' := [.ref a0, .int x1, .int x2, .int x3]) (st' := [.ref a0]) lk_M104 lk_s104_10_1 rfl ?_
    refine lk_wp_fR lk_i104_11 lk_M104 H (fun r1 H => ?_)
    refine lk_wp_seg (lo' := [.ref a0, .int x1, .int x2, .int x3]) (st' := [.int x3, .ref r1]) lk_M104 lk_s104_14_1 rfl ?_
    refine lk_wp_ra lk_i104_15 lk_M104 H ⟨fun H => ?_, fun r2 H => ?_⟩
    · refine lk_wp_seg (lo' := [.ref a0, .int x1, .int x2, .int x3]) (st' := [.int x1, .null]) lk_M104 lk_s104_16_1 rfl ?_
      refine lk_wp_cs (as := [.null, .int x1]) (r := []) lk_i104_17 lk_M104 rfl rfl rfl rfl (Nat.le_of_ble_eq_true rfl) (lk_gi H (fun r4 h3 H => ?_))
      refine lk_wp_if_eq lk_i104_20 lk_M104 H (fun H => ?_) (fun H => ?_)
      · refine lk_wp_seg (lo' := [.ref a0, .int x1, .int x2, .int (x3 + 1)]) (st' := []) lk_M104 lk_s104_26_2 rfl ?_
        exact H
      · refine lk_wp_seg (lo' := [.ref a0, .int x1, .int (x2 + 1), .int (x3 + 1)]) (st' := []) lk_M104 lk_s104_23_3 rfl ?_
        exact H
    · refine lk_wp_seg (lo' := [.ref a0, .int x1, .int x2, .int x3]) (st' := [.int x1, .ref r2]) lk_M104 lk_s104_16_1 rfl ?_
      refine lk_wp_cs (as := [.ref r2, .int x1]) (r := []) lk_i104_17 lk_M104 rfl rfl rfl rfl (Nat.le_of_ble_eq_true rfl) (lk_gi H (fun r6 h5 H => ?_))
      refine lk_wp_if_eq lk_i104_20 lk_M104 H (fun H => ?_) (fun H => ?_)
      · refine lk_wp_seg (lo' := [.ref a0, .int x1, .int x2, .int (x3 + 1)]) (st' := []) lk_M104 lk_s104_26_2 rfl ?_
        exact H
      · refine lk_wp_seg (lo' := [.ref a0, .int x1, .int (x2 + 1), .int (x3 + 1)]) (st' := []) lk_M104 lk_s104_23_3 rfl ?_
        exact H
/-! LonelyDots.lonelyList(I)LLonelyDots$LonelyList; -/
theorem lk_M105 : lk_mt[105]? = some (yX11_lonelyList, cX11_lonelyList, 2, ((some (FieldType.object "LonelyDots$LonelyList")))) := rfl
theorem lk_s105_0_1 : lk_seg 105 [(.aload_n 0, 1, (0, [], .null))] 0 = some 1 := by decide +kernel
theorem lk_i105_1 : lk_ins 105 1 = some (.getfield 37, 3, (4, [(10, 0)], .null)) := lk_eqE_eq (by decide +kernel)
theorem lk_s105_4_1 : lk_seg 105 [(.iload_n 1, 1, (0, [], .null))] 4 = some 5 := by decide +kernel
theorem lk_i105_5 : lk_ins 105 5 = some (.aaload, 1, (0, [], .null)) := lk_eqE_eq (by decide +kernel)
theorem lk_i105_6 : lk_ins 105 6 = some (.ifnonnull 13, 3, (19, [], .null)) := lk_eqE_eq (by decide +kernel)
theorem lk_s105_9_1 : lk_seg 105 [(.aload_n 0, 1, (0, [], .null))] 9 = some 10 := by decide +kernel
theorem lk_i105_10 : lk_ins 105 10 = some (.getfield 37, 3, (4, [(10, 0)], .null)) := lk_eqE_eq (by decide +kernel)
theorem lk_s105_13_2 : lk_seg 105 [(.iload_n 1, 1, (0, [], .null)), (.iload_n 1, 1, (0, [], .null))] 13 = some 15 := by decide +kernel
theorem lk_i105_15 : lk_ins 105 15 = some (.invokestatic 250, 3, (0, [(0, 4)], .ref 78)) := lk_eqE_eq (by decide +kernel)
theorem lk_i105_18 : lk_ins 105 18 = some (.aastore, 1, (0, [], .null)) := lk_eqE_eq (by decide +kernel)
theorem lk_s105_19_1 : lk_seg 105 [(.aload_n 0, 1, (0, [], .null))] 19 = some 20 := by decide +kernel
theorem lk_i105_20 : lk_ins 105 20 = some (.getfield 37, 3, (4, [(10, 0)], .null)) := lk_eqE_eq (by decide +kernel)
theorem lk_s105_23_1 : lk_seg 105 [(.iload_n 1, 1, (0, [], .null))] 23 = some 24 := by decide +kernel
theorem lk_i105_24 : lk_ins 105 24 = some (.aaload, 1, (0, [], .null)) := lk_eqE_eq (by decide +kernel)
theorem lk_i105_25 : lk_ins 105 25 = some (.areturn, 1, (0, [], .null)) := lk_eqE_eq (by decide +kernel)
set_option maxRecDepth 20000 in
theorem E_x_lonelyList {X : lk_X} {d : Nat} {x1 : Int32} {a0 : Nat} {h : lk_H} {Q : Option Value → lk_H → Prop} (H : lk_fR h a0 4 [(10, 0)] (fun r1 => lk_ra h r1 x1 (lk_fR h a0 4 [(10, 0)] (fun r3 => lk_wxr X d 4 [.int x1] h (fun h4 => lk_rn h4 r3 x1 (fun h6 => lk_fR h6 a0 4 [(10, 0)] (fun r7 => lk_ra h6 r7 x1 (Q (some (.null)) h6) (fun r8 => Q (some (.ref r8)) h6)))) (fun r5 h4 => lk_rs h4 r3 x1 r5 (fun h9 => lk_fR h9 a0 4 [(10, 0)] (fun r10 => lk_ra h9 r10 x1 (Q (some (.null)) h9) (fun r11 => Q (some (.ref r11)) h9)))))) (fun r2 => lk_fR h a0 4 [(10, 0)] (fun r12 => lk_ra h r12 x1 (Q (some (.null)) h) (fun r13 => Q (some (.ref r13)) h))))) : lk_wx X (d + 1) 105 [.ref a0, .int x1] h Q := by
  refine lk_enter (lo := [.ref a0, .int x1]) lk_M105 rfl (Nat.le_of_ble_eq_true rfl) ?_
  refine lk_wp_seg (lo' := [.ref a0, .int x1]) (st' := [.ref a0]) lk_M105 lk_s105_0_1 rfl ?_
  refine lk_wp_fR lk_i105_1 lk_M105 H (fun r1 H => ?_)
  refine lk_wp_seg (lo' := [.ref a0, .int x1]) (st' := [.int x1, .ref r1]) lk_M105 lk_s105_4_1 rfl ?_
  refine lk_wp_ra lk_i105_5 lk_M105 H ⟨fun H => ?_, fun r2 H => ?_⟩
  · refine lk_wp_one lk_i105_6 lk_M105 rfl (lk_cal0 rfl) rfl ?_
    refine lk_wp_seg (lo' := [.ref a0, .int x1]) (st' := [.ref a0]) lk_M105 lk_s105_9_1 rfl ?_
    refine lk_wp_fR lk_i105_10 lk_M105 H (fun r3 H => ?_)
    refine lk_wp_seg (lo' := [.ref a0, .int x1]) (st' := [.int x1, .int x1, .ref r3]) lk_M105 lk_s105_13_2 rfl ?_
    refine lk_wp_cs (as := [.int x1]) (r := [.int x1, .ref r3]) lk_i105_15 lk_M105 rfl rfl rfl rfl (Nat.le_of_ble_eq_true rfl) (lk_gr H (fun h4 H => ?_) (fun r5 h4 H => ?_))
    · refine lk_wp_rn lk_i105_18 lk_M105 H (fun h6 H => ?_)
      refine lk_wp_seg (lo' := [.ref a0, .int x1]) (st' := [.ref a0]) lk_M105 lk_s105_19_1 rfl ?_
      refine lk_wp_fR lk_i105_20 lk_M105 H (fun r7 H => ?_)
      refine lk_wp_seg (lo' := [.ref a0, .int x1]) (st' := [.int x1, .ref r7]) lk_M105 lk_s105_23_1 rfl ?_
      refine lk_wp_ra lk_i105_24 lk_M105 H ⟨fun H => ?_, fun r8 H => ?_⟩
      · exact lk_wp_ret lk_i105_25 lk_M105 rfl H
      · exact lk_wp_ret lk_i105_25 lk_M105 rfl H
    · refine lk_wp_rs lk_i105_18 lk_M105 H (fun h9 H => ?_)
      refine lk_wp_seg (lo' := [.ref a0, .int x1]) (st' := [.ref a0]) lk_M105 lk_s105_19_1 rfl ?_
      refine lk_wp_fR lk_i105_20 lk_M105 H (fun r10 H => ?_)
      refine lk_wp_seg (lo' := [.ref a0, .int x1]) (st' := [.int x1, .ref r10]) lk_M105 lk_s105_23_1 rfl ?_
      refine lk_wp_ra lk_i105_24 lk_M105 H ⟨fun H => ?_, fun r11 H => ?_⟩
      · exact lk_wp_ret lk_i105_25 lk_M105 rfl H
      · exact lk_wp_ret lk_i105_25 lk_M105 rfl H
  · refine lk_wp_one lk_i105_6 lk_M105 rfl (lk_cal0 rfl) rfl ?_
    refine lk_wp_seg (lo' := [.ref a0, .int x1]) (st' := [.ref a0]) lk_M105 lk_s105_19_1 rfl ?_
    refine lk_wp_fR lk_i105_20 lk_M105 H (fun r12 H => ?_)
    refine lk_wp_seg (lo' := [.ref a0, .int x1]) (st' := [.int x1, .ref r12]) lk_M105 lk_s105_23_1 rfl ?_
    refine lk_wp_ra lk_i105_24 lk_M105 H ⟨fun H => ?_, fun r13 H => ?_⟩
    · exact lk_wp_ret lk_i105_25 lk_M105 rfl H
    · exact lk_wp_ret lk_i105_25 lk_M105 rfl H
/-! LonelyDots.isPrime(I)Z -/
theorem lk_M106 : lk_mt[106]? = some (yX11_isPrime, cX11_isPrime, 2, ((some FieldType.boolean))) := rfl
theorem lk_s106_0_2 : lk_seg 106 [(.iload_n 0, 1, (0, [], .null)), (.iconst 2, 1, (0, [], .int (2)))] 0 = some 2 := by decide +kernel
theorem lk_i106_2 : lk_ins 106 2 = some (.if_icmp .lt 9, 3, (11, [], .null)) := lk_eqE_eq (by decide +kernel)
theorem lk_s106_11_1 : lk_seg 106 [(.iconst 0, 1, (0, [], .int (0)))] 11 = some 12 := by decide +kernel
theorem lk_i106_12 : lk_ins 106 12 = some (.ireturn, 1, (0, [], .null)) := lk_eqE_eq (by decide +kernel)
theorem lk_s106_5_2 : lk_seg 106 [(.iload_n 0, 1, (0, [], .null)), (.bipush 17, 2, (0, [], .int (17)))] 5 = some 8 := by decide +kernel
theorem lk_i106_8 : lk_ins 106 8 = some (.if_icmp .le 5, 3, (13, [], .null)) := lk_eqE_eq (by decide +kernel)
theorem lk_s106_13_2 : lk_seg 106 [(.iconst 2, 1, (0, [], .int (2))), (.istore_n 1, 1, (0, [], .null))] 13 = some 15 := by decide +kernel
theorem lk_s106_15_2 : lk_seg 106 [(.iload_n 1, 1, (0, [], .null)), (.iload_n 0, 1, (0, [], .null))] 15 = some 17 := by decide +kernel
theorem lk_i106_17 : lk_ins 106 17 = some (.if_icmp .ge 17, 3, (34, [], .null)) := lk_eqE_eq (by decide +kernel)
theorem lk_s106_34_1 : lk_seg 106 [(.iconst 1, 1, (0, [], .int (1)))] 34 = some 35 := by decide +kernel
theorem lk_i106_35 : lk_ins 106 35 = some (.ireturn, 1, (0, [], .null)) := lk_eqE_eq (by decide +kernel)
theorem lk_s106_20_2 : lk_seg 106 [(.iload_n 0, 1, (0, [], .null)), (.iload_n 1, 1, (0, [], .null))] 20 = some 22 := by decide +kernel
theorem lk_i106_22 : lk_ins 106 22 = some (.irem, 1, (0, [], .null)) := lk_eqE_eq (by decide +kernel)
theorem lk_i106_23 : lk_ins 106 23 = some (.ifCond .ne 5, 3, (28, [], .null)) := lk_eqE_eq (by decide +kernel)
theorem lk_s106_28_2 : lk_seg 106 [(.iinc 1 1, 3, (0, [], .int (1))), (.goto (-16), 3, (15, [], .null))] 28 = some 15 := by decide +kernel
theorem lk_s106_26_1 : lk_seg 106 [(.iconst 0, 1, (0, [], .int (0)))] 26 = some 27 := by decide +kernel
theorem lk_i106_27 : lk_ins 106 27 = some (.ireturn, 1, (0, [], .null)) := lk_eqE_eq (by decide +kernel)
set_option maxRecDepth 20000 in
theorem E_x_isPrime {X : lk_X} {d : Nat} {x0 : Int32} {h : lk_H} {Q : Option Value → lk_H → Prop} (H : (x0 < 2 → Q (some (.int 0)) h) ∧ (¬ x0 < 2 → (x0 ≤ 17 → lk_wp X (d + 1) 106 15 [.int x0, .int 2] [] h Q) ∧ (¬ x0 ≤ 17 → Q (some (.int 0)) h))) : lk_wx X (d + 1) 106 [.int x0] h Q := by
  refine lk_enter (lo := [.int x0, .retAddr 0]) lk_M106 rfl (Nat.le_of_ble_eq_true rfl) ?_
  refine lk_wp_seg (lo' := [.int x0, .retAddr 0]) (st' := [.int 2, .int x0]) lk_M106 lk_s106_0_2 rfl ?_
  refine lk_wp_ic_lt lk_i106_2 lk_M106 H (fun H => ?_) (fun H => ?_)
  · refine lk_wp_seg (lo' := [.int x0, .retAddr 0]) (st' := [.int 0]) lk_M106 lk_s106_11_1 rfl ?_
    exact lk_wp_ret lk_i106_12 lk_M106 rfl H
  · refine lk_wp_seg (lo' := [.int x0, .retAddr 0]) (st' := [.int 17, .int x0]) lk_M106 lk_s106_5_2 rfl ?_
    refine lk_wp_ic_le lk_i106_8 lk_M106 H (fun H => ?_) (fun H => ?_)
    · refine lk_wp_seg (lo' := [.int x0, .int 2]) (st' := []) lk_M106 lk_s106_13_2 rfl ?_
      exact H
    · refine lk_wp_seg (lo' := [.int x0, .retAddr 0]) (st' := [.int 0]) lk_M106 lk_s106_11_1 rfl ?_
      exact lk_wp_ret lk_i106_12 lk_M106 rfl H
set_option maxRecDepth 20000 in
theorem F_x_isPrime_15 {X : lk_X} {d : Nat} {x0 x1 : Int32} {h : lk_H} {Q : Option Value → lk_H → Prop} (H : (x0 ≤ x1 → Q (some (.int 1)) h) ∧ (¬ x0 ≤ x1 → ¬ x1 = 0 ∧ ((¬ (x0 - x0 / x1 * x1) = 0 → lk_wp X (d + 1) 106 15 [.int x0, .int (x1 + 1)] [] h Q) ∧ ((x0 - x0 / x1 * x1) = 0 → Q (some (.int 0)) h)))) : lk_wp X (d + 1) 106 15 [.int x0, .int x1] [] h Q := by
  refine lk_wp_seg (lo' := [.int x0, .int x1]) (st' := [.int x0, .int x1]) lk_M106 lk_s106_15_2 rfl ?_
  refine lk_wp_ic_ge lk_i106_17 lk_M106 H (fun H => ?_) (fun H => ?_)
  · refine lk_wp_seg (lo' := [.int x0, .int x1]) (st' := [.int 1]) lk_M106 lk_s106_34_1 rfl ?_
    exact lk_wp_ret lk_i106_35 lk_M106 rfl H
  · refine lk_wp_seg (lo' := [.int x0, .int x1]) (st' := [.int x1, .int x0]) lk_M106 lk_s106_20_2 rfl ?_
    refine lk_wp_rem lk_i106_22 lk_M106 H (fun H => ?_)
    refine lk_wp_if_ne lk_i106_23 lk_M106 H (fun H => ?_) (fun H => ?_)
    · refine lk_wp_seg (lo' := [.int x0, .int (x1 + 1)]) (st' := []) lk_M106 lk_s106_28_2 rfl ?_
      exact H
    · refine lk_wp_seg (lo' := [.int x0, .int x1]) (st' := [.int 0]) lk_M106 lk_s106_26_1 rfl ?_
      exact lk_wp_ret lk_i106_27 lk_M106 rfl H
/-! LonelyDots.isRoot(II)Z -/
theorem lk_M107 : lk_mt[107]? = some (yX11_isRoot, cX11_isRoot, 2, ((some FieldType.boolean))) := rfl
theorem lk_s107_0_2 : lk_seg 107 [(.iload_n 0, 1, (0, [], .null)), (.iconst 1, 1, (0, [], .int (1)))] 0 = some 2 := by decide +kernel
theorem lk_i107_2 : lk_ins 107 2 = some (.if_icmp .lt 24, 3, (26, [], .null)) := lk_eqE_eq (by decide +kernel)
theorem lk_s107_26_1 : lk_seg 107 [(.iconst 0, 1, (0, [], .int (0)))] 26 = some 27 := by decide +kernel
theorem lk_i107_27 : lk_ins 107 27 = some (.ireturn, 1, (0, [], .null)) := lk_eqE_eq (by decide +kernel)
theorem lk_s107_5_2 : lk_seg 107 [(.iload_n 0, 1, (0, [], .null)), (.iload_n 1, 1, (0, [], .null))] 5 = some 7 := by decide +kernel
theorem lk_i107_7 : lk_ins 107 7 = some (.if_icmp .ge 19, 3, (26, [], .null)) := lk_eqE_eq (by decide +kernel)
theorem lk_s107_10_3 : lk_seg 107 [(.iload_n 0, 1, (0, [], .null)), (.iconst 1, 1, (0, [], .int (1))), (.iload_n 1, 1, (0, [], .null))] 10 = some 13 := by decide +kernel
theorem lk_i107_13 : lk_ins 107 13 = some (.invokestatic 253, 3, (0, [(0, 108)], .ref 79)) := lk_eqE_eq (by decide +kernel)
theorem lk_s107_16_3 : lk_seg 107 [(.iload_n 1, 1, (0, [], .null)), (.iconst 1, 1, (0, [], .int (1))), (.isub, 1, (0, [], .null))] 16 = some 19 := by decide +kernel
theorem lk_i107_19 : lk_ins 107 19 = some (.if_icmp .ne 7, 3, (26, [], .null)) := lk_eqE_eq (by decide +kernel)
theorem lk_s107_22_2 : lk_seg 107 [(.iconst 1, 1, (0, [], .int (1))), (.goto 4, 3, (27, [], .null))] 22 = some 27 := by decide +kernel
set_option maxRecDepth 20000 in
theorem E_x_isRoot {X : lk_X} {d : Nat} {x0 x1 : Int32} {h : lk_H} {Q : Option Value → lk_H → Prop} (H : (x0 < 1 → Q (some (.int 0)) h) ∧ (¬ x0 < 1 → (x1 ≤ x0 → Q (some (.int 0)) h) ∧ (¬ x1 ≤ x0 → lk_wxi X d 108 [.int x0, .int 1, .int x1] h (fun r2 h1 => (¬ r2 = (x1 - 1) → Q (some (.int 0)) h1) ∧ (r2 = (x1 - 1) → Q (some (.int 1)) h1))))) : lk_wx X (d + 1) 107 [.int x0, .int x1] h Q := by
  refine lk_enter (lo := [.int x0, .int x1]) lk_M107 rfl (Nat.le_of_ble_eq_true rfl) ?_
  refine lk_wp_seg (lo' := [.int x0, .int x1]) (st' := [.int 1, .int x0]) lk_M107 lk_s107_0_2 rfl ?_
  refine lk_wp_ic_lt lk_i107_2 lk_M107 H (fun H => ?_) (fun H => ?_)
  · refine lk_wp_seg (lo' := [.int x0, .int x1]) (st' := [.int 0]) lk_M107 lk_s107_26_1 rfl ?_
    exact lk_wp_ret lk_i107_27 lk_M107 rfl H
  · refine lk_wp_seg (lo' := [.int x0, .int x1]) (st' := [.int x1, .int x0]) lk_M107 lk_s107_5_2 rfl ?_
    refine lk_wp_ic_ge lk_i107_7 lk_M107 H (fun H => ?_) (fun H => ?_)
    · refine lk_wp_seg (lo' := [.int x0, .int x1]) (st' := [.int 0]) lk_M107 lk_s107_26_1 rfl ?_
      exact lk_wp_ret lk_i107_27 lk_M107 rfl H
    · refine lk_wp_seg (lo' := [.int x0, .int x1]) (st' := [.int x1, .int 1, .int x0]) lk_M107 lk_s107_10_3 rfl ?_
      refine lk_wp_cs (as := [.int x0, .int 1, .int x1]) (r := []) lk_i107_13 lk_M107 rfl rfl rfl rfl (Nat.le_of_ble_eq_true rfl) (lk_gi H (fun r2 h1 H => ?_))
      refine lk_wp_seg (lo' := [.int x0, .int x1]) (st' := [.int (x1 - 1), .int r2]) lk_M107 lk_s107_16_3 rfl ?_
      refine lk_wp_ic_ne lk_i107_19 lk_M107 H (fun H => ?_) (fun H => ?_)
      · refine lk_wp_seg (lo' := [.int x0, .int x1]) (st' := [.int 0]) lk_M107 lk_s107_26_1 rfl ?_
        exact lk_wp_ret lk_i107_27 lk_M107 rfl H
      · refine lk_wp_seg (lo' := [.int x0, .int x1]) (st' := [.int 1]) lk_M107 lk_s107_22_2 rfl ?_
        exact lk_wp_ret lk_i107_27 lk_M107 rfl H
/-! LonelyDots.exponent(III)I -/
theorem lk_M108 : lk_mt[108]? = some (yX11_exponent, cX11_exponent, 5, ((some FieldType.int))) := rfl
theorem lk_s108_0_4 : lk_seg 108 [(.iload_n 0, 1, (0, [], .null)), (.istore_n 3, 1, (0, [], .null)), (.iconst 1, 1, (0, [], .int (1))), (.istore 4, 2, (0, [], .null))] 0 = some 5 := by decide +kernel
theorem lk_s108_5_4 : lk_seg 108 [(.iload 4, 2, (0, [], .null)), (.iload_n 2, 1, (0, [], .null)), (.iconst 1, 1, (0, [], .int (1))), (.isub, 1, (0, [], .null))] 5 = some 10 := by decide +kernel
theorem lk_i108_10 : lk_ins 108 10 = some (.if_icmp .ge 20, 3, (30, [], .null)) := lk_eqE_eq (by decide +kernel)
theorem lk_s108_30_1 : lk_seg 108 [(.iload 4, 2, (0, [], .null))] 30 = some 32 := by decide +kernel
theorem lk_i108_32 : lk_ins 108 32 = some (.ireturn, 1, (0, [], .null)) := lk_eqE_eq (by decide +kernel)
theorem lk_s108_13_2 : lk_seg 108 [(.iload_n 3, 1, (0, [], .null)), (.iload_n 1, 1, (0, [], .null))] 13 = some 15 := by decide +kernel
theorem lk_i108_15 : lk_ins 108 15 = some (.if_icmp .eq 15, 3, (30, [], .null)) := lk_eqE_eq (by decide +kernel)
theorem lk_s108_18_4 : lk_seg 108 [(.iload_n 3, 1, (0, [], .null)), (.iload_n 0, 1, (0, [], .null)), (.imul, 1, (0, [], .null)), (.iload_n 2, 1, (0, [], .null))] 18 = some 22 := by decide +kernel
theorem lk_i108_22 : lk_ins 108 22 = some (.irem, 1, (0, [], .null)) := lk_eqE_eq (by decide +kernel)
theorem lk_s108_23_3 : lk_seg 108 [(.istore_n 3, 1, (0, [], .null)), (.iinc 4 1, 3, (0, [], .int (1))), (.goto (-22), 3, (5, [], .null))] 23 = some 5 := by decide +kernel
set_option maxRecDepth 20000 in
theorem E_x_exponent {X : lk_X} {d : Nat} {x0 x1 x2 : Int32} {h : lk_H} {Q : Option Value → lk_H → Prop} (H : lk_wp X (d + 1) 108 5 [.int x0, .int x1, .int x2, .int x0, .int 1] [] h Q) : lk_wx X (d + 1) 108 [.int x0, .int x1, .int x2] h Q := by
  refine lk_enter (lo := [.int x0, .int x1, .int x2, .retAddr 0, .retAddr 0]) lk_M108 rfl (Nat.le_of_ble_eq_true rfl) ?_
  refine lk_wp_seg (lo' := [.int x0, .int x1, .int x2, .int x0, .int 1]) (st' := []) lk_M108 lk_s108_0_4 rfl ?_
  exact H
set_option maxRecDepth 20000 in
theorem F_x_exponent_5 {X : lk_X} {d : Nat} {x0 x1 x2 x3 x4 : Int32} {h : lk_H} {Q : Option Value → lk_H → Prop} (H : ((x2 - 1) ≤ x4 → Q (some (.int x4)) h) ∧ (¬ (x2 - 1) ≤ x4 → (x3 = x1 → Q (some (.int x4)) h) ∧ (¬ x3 = x1 → ¬ x2 = 0 ∧ (lk_wp X (d + 1) 108 5 [.int x0, .int x1, .int x2, .int ((x3 * x0) - (x3 * x0) / x2 * x2), .int (x4 + 1)] [] h Q)))) : lk_wp X (d + 1) 108 5 [.int x0, .int x1, .int x2, .int x3, .int x4] [] h Q := by
  refine lk_wp_seg (lo' := [.int x0, .int x1, .int x2, .int x3, .int x4]) (st' := [.int (x2 - 1), .int x4]) lk_M108 lk_s108_5_4 rfl ?_
  refine lk_wp_ic_ge lk_i108_10 lk_M108 H (fun H => ?_) (fun H => ?_)
  · refine lk_wp_seg (lo' := [.int x0, .int x1, .int x2, .int x3, .int x4]) (st' := [.int x4]) lk_M108 lk_s108_30_1 rfl ?_
    exact lk_wp_ret lk_i108_32 lk_M108 rfl H
  · refine lk_wp_seg (lo' := [.int x0, .int x1, .int x2, .int x3, .int x4]) (st' := [.int x1, .int x3]) lk_M108 lk_s108_13_2 rfl ?_
    refine lk_wp_ic_eq lk_i108_15 lk_M108 H (fun H => ?_) (fun H => ?_)
    · refine lk_wp_seg (lo' := [.int x0, .int x1, .int x2, .int x3, .int x4]) (st' := [.int x4]) lk_M108 lk_s108_30_1 rfl ?_
      exact lk_wp_ret lk_i108_32 lk_M108 rfl H
    · refine lk_wp_seg (lo' := [.int x0, .int x1, .int x2, .int x3, .int x4]) (st' := [.int x2, .int (x3 * x0)]) lk_M108 lk_s108_18_4 rfl ?_
      refine lk_wp_rem lk_i108_22 lk_M108 H (fun H => ?_)
      refine lk_wp_seg (lo' := [.int x0, .int x1, .int x2, .int ((x3 * x0) - (x3 * x0) / x2 * x2), .int (x4 + 1)]) (st' := []) lk_M108 lk_s108_23_3 rfl ?_
      exact H
/-! LonelyDots.columnsByPowers(III)[I -/
theorem lk_M109 : lk_mt[109]? = some (yX11_columnsByPowers, cX11_columnsByPowers, 6, ((some (FieldType.array FieldType.int)))) := rfl
theorem lk_s109_0_3 : lk_seg 109 [(.iload_n 0, 1, (0, [], .null)), (.iconst 1, 1, (0, [], .int (1))), (.isub, 1, (0, [], .null))] 0 = some 3 := by decide +kernel
theorem lk_i109_3 : lk_ins 109 3 = some (.newarray .int, 2, (0, [], .null)) := lk_eqE_eq (by decide +kernel)
theorem lk_s109_5_5 : lk_seg 109 [(.astore_n 3, 1, (0, [], .null)), (.iconst 1, 1, (0, [], .int (1))), (.istore 4, 2, (0, [], .null)), (.iconst 0, 1, (0, [], .int (0))), (.istore 5, 2, (0, [], .null))] 5 = some 12 := by decide +kernel
theorem lk_s109_12_2 : lk_seg 109 [(.iload 5, 2, (0, [], .null)), (.iload_n 2, 1, (0, [], .null))] 12 = some 15 := by decide +kernel
theorem lk_i109_15 : lk_ins 109 15 = some (.if_icmp .gt 17, 3, (32, [], .null)) := lk_eqE_eq (by decide +kernel)
theorem lk_s109_32_2 : lk_seg 109 [(.iconst 0, 1, (0, [], .int (0))), (.istore 5, 2, (0, [], .null))] 32 = some 35 := by decide +kernel
theorem lk_s109_18_4 : lk_seg 109 [(.iload 4, 2, (0, [], .null)), (.iload_n 1, 1, (0, [], .null)), (.imul, 1, (0, [], .null)), (.iload_n 0, 1, (0, [], .null))] 18 = some 23 := by decide +kernel
theorem lk_i109_23 : lk_ins 109 23 = some (.irem, 1, (0, [], .null)) := lk_eqE_eq (by decide +kernel)
theorem lk_s109_24_3 : lk_seg 109 [(.istore 4, 2, (0, [], .null)), (.iinc 5 1, 3, (0, [], .int (1))), (.goto (-17), 3, (12, [], .null))] 24 = some 12 := by decide +kernel
theorem lk_s109_35_2 : lk_seg 109 [(.iload 5, 2, (0, [], .null)), (.aload_n 3, 1, (0, [], .null))] 35 = some 38 := by decide +kernel
theorem lk_i109_38 : lk_ins 109 38 = some (.arraylength, 1, (0, [], .null)) := lk_eqE_eq (by decide +kernel)
theorem lk_i109_39 : lk_ins 109 39 = some (.if_icmp .ge 25, 3, (64, [], .null)) := lk_eqE_eq (by decide +kernel)
theorem lk_s109_64_1 : lk_seg 109 [(.aload_n 3, 1, (0, [], .null))] 64 = some 65 := by decide +kernel
theorem lk_i109_65 : lk_ins 109 65 = some (.areturn, 1, (0, [], .null)) := lk_eqE_eq (by decide +kernel)
theorem lk_s109_42_5 : lk_seg 109 [(.aload_n 3, 1, (0, [], .null)), (.iload 5, 2, (0, [], .null)), (.iload 4, 2, (0, [], .null)), (.iconst 1, 1, (0, [], .int (1))), (.isub, 1, (0, [], .null))] 42 = some 49 := by decide +kernel
theorem lk_i109_49 : lk_ins 109 49 = some (.iastore, 1, (0, [], .null)) := lk_eqE_eq (by decide +kernel)
theorem lk_s109_50_4 : lk_seg 109 [(.iload 4, 2, (0, [], .null)), (.iload_n 1, 1, (0, [], .null)), (.imul, 1, (0, [], .null)), (.iload_n 0, 1, (0, [], .null))] 50 = some 55 := by decide +kernel
theorem lk_i109_55 : lk_ins 109 55 = some (.irem, 1, (0, [], .null)) := lk_eqE_eq (by decide +kernel)
theorem lk_s109_56_3 : lk_seg 109 [(.istore 4, 2, (0, [], .null)), (.iinc 5 1, 3, (0, [], .int (1))), (.goto (-26), 3, (35, [], .null))] 56 = some 35 := by decide +kernel
set_option maxRecDepth 20000 in
theorem E_x_columnsByPowers {X : lk_X} {d : Nat} {x0 x1 x2 : Int32} {h : lk_H} {Q : Option Value → lk_H → Prop} (H : lk_nw (x0 - 1) (lk_wp X (d + 1) 109 12 [.int x0, .int x1, .int x2, .ref (h.length), .int 1, .int 0] [] (h ++ [.inl (0, ((x0 - 1).toNatClampNeg, .inl (fun _ => 0)))]) Q)) : lk_wx X (d + 1) 109 [.int x0, .int x1, .int x2] h Q := by
  refine lk_enter (lo := [.int x0, .int x1, .int x2, .retAddr 0, .retAddr 0, .retAddr 0]) lk_M109 rfl (Nat.le_of_ble_eq_true rfl) ?_
  refine lk_wp_seg (lo' := [.int x0, .int x1, .int x2, .retAddr 0, .retAddr 0, .retAddr 0]) (st' := [.int (x0 - 1)]) lk_M109 lk_s109_0_3 rfl ?_
  refine lk_wp_new_int lk_i109_3 lk_M109 H (fun H => ?_)
  refine lk_wp_seg (lo' := [.int x0, .int x1, .int x2, .ref (h.length), .int 1, .int 0]) (st' := []) lk_M109 lk_s109_5_5 rfl ?_
  exact H
set_option maxRecDepth 20000 in
theorem F_x_columnsByPowers_12 {X : lk_X} {d : Nat} {x0 x1 x2 x4 x5 : Int32} {a3 : Nat} {h : lk_H} {Q : Option Value → lk_H → Prop} (H : (x2 < x5 → lk_wp X (d + 1) 109 35 [.int x0, .int x1, .retAddr 0, .ref a3, .int x4, .int 0] [] h Q) ∧ (¬ x2 < x5 → ¬ x0 = 0 ∧ (lk_wp X (d + 1) 109 12 [.int x0, .int x1, .int x2, .ref a3, .int ((x4 * x1) - (x4 * x1) / x0 * x0), .int (x5 + 1)] [] h Q))) : lk_wp X (d + 1) 109 12 [.int x0, .int x1, .int x2, .ref a3, .int x4, .int x5] [] h Q := by
  refine lk_wp_seg (lo' := [.int x0, .int x1, .int x2, .ref a3, .int x4, .int x5]) (st' := [.int x2, .int x5]) lk_M109 lk_s109_12_2 rfl ?_
  refine lk_wp_ic_gt lk_i109_15 lk_M109 H (fun H => ?_) (fun H => ?_)
  · refine lk_wp_seg (lo' := [.int x0, .int x1, .int x2, .ref a3, .int x4, .int 0]) (st' := []) lk_M109 lk_s109_32_2 rfl ?_
    exact H.forget (lk_le_s (lk_le_s (lk_le_d (lk_le_s (lk_le_s (lk_le_s lk_le_n))))))
  · refine lk_wp_seg (lo' := [.int x0, .int x1, .int x2, .ref a3, .int x4, .int x5]) (st' := [.int x0, .int (x4 * x1)]) lk_M109 lk_s109_18_4 rfl ?_
    refine lk_wp_rem lk_i109_23 lk_M109 H (fun H => ?_)
    refine lk_wp_seg (lo' := [.int x0, .int x1, .int x2, .ref a3, .int ((x4 * x1) - (x4 * x1) / x0 * x0), .int (x5 + 1)]) (st' := []) lk_M109 lk_s109_24_3 rfl ?_
    exact H
set_option maxRecDepth 20000 in
theorem F_x_columnsByPowers_35 {X : lk_X} {d : Nat} {x0 x1 x4 x5 : Int32} {a3 : Nat} {h : lk_H} {Q : Option Value → lk_H → Prop} (H : lk_al2 h a3 (fun r1 => (r1 ≤ x5 → Q (some (.ref a3)) h) ∧ (¬ r1 ≤ x5 → lk_as h a3 x5 (x4 - 1) (fun h2 => ¬ x0 = 0 ∧ (lk_wp X (d + 1) 109 35 [.int x0, .int x1, .retAddr 0, .ref a3, .int ((x4 * x1) - (x4 * x1) / x0 * x0), .int (x5 + 1)] [] h2 Q))))) : lk_wp X (d + 1) 109 35 [.int x0, .int x1, .retAddr 0, .ref a3, .int x4, .int x5] [] h Q := by
  refine lk_wp_seg (lo' := [.int x0, .int x1, .retAddr 0, .ref a3, .int x4, .int x5]) (st' := [.ref a3, .int x5]) lk_M109 lk_s109_35_2 rfl ?_
  refine lk_wp_al lk_i109_38 lk_M109 H (fun r1 H => ?_)
  refine lk_wp_ic_ge lk_i109_39 lk_M109 H (fun H => ?_) (fun H => ?_)
  · refine lk_wp_seg (lo' := [.int x0, .int x1, .retAddr 0, .ref a3, .int x4, .int x5]) (st' := [.ref a3]) lk_M109 lk_s109_64_1 rfl ?_
    exact lk_wp_ret lk_i109_65 lk_M109 rfl H
  · refine lk_wp_seg (lo' := [.int x0, .int x1, .retAddr 0, .ref a3, .int x4, .int x5]) (st' := [.int (x4 - 1), .int x5, .ref a3]) lk_M109 lk_s109_42_5 rfl ?_
    refine lk_wp_as lk_i109_49 lk_M109 H (fun h2 H => ?_)
    refine lk_wp_seg (lo' := [.int x0, .int x1, .retAddr 0, .ref a3, .int x4, .int x5]) (st' := [.int x0, .int (x4 * x1)]) lk_M109 lk_s109_50_4 rfl ?_
    refine lk_wp_rem lk_i109_55 lk_M109 H (fun H => ?_)
    refine lk_wp_seg (lo' := [.int x0, .int x1, .retAddr 0, .ref a3, .int ((x4 * x1) - (x4 * x1) / x0 * x0), .int (x5 + 1)]) (st' := []) lk_M109 lk_s109_56_3 rfl ?_
    exact H
/-! LonelyDots.columnsBySums(III)[I -/
theorem lk_M110 : lk_mt[110]? = some (yX11_columnsBySums, cX11_columnsBySums, 6, ((some (FieldType.array FieldType.int)))) := rfl
theorem lk_s110_0_3 : lk_seg 110 [(.iload_n 0, 1, (0, [], .null)), (.iconst 2, 1, (0, [], .int (2))), (.isub, 1, (0, [], .null))] 0 = some 3 := by decide +kernel
theorem lk_i110_3 : lk_ins 110 3 = some (.newarray .int, 2, (0, [], .null)) := lk_eqE_eq (by decide +kernel)
theorem lk_s110_5_5 : lk_seg 110 [(.astore_n 3, 1, (0, [], .null)), (.iload_n 1, 1, (0, [], .null)), (.istore 4, 2, (0, [], .null)), (.iconst 0, 1, (0, [], .int (0))), (.istore 5, 2, (0, [], .null))] 5 = some 12 := by decide +kernel
theorem lk_s110_12_2 : lk_seg 110 [(.iload 5, 2, (0, [], .null)), (.aload_n 3, 1, (0, [], .null))] 12 = some 15 := by decide +kernel
theorem lk_i110_15 : lk_ins 110 15 = some (.arraylength, 1, (0, [], .null)) := lk_eqE_eq (by decide +kernel)
theorem lk_i110_16 : lk_ins 110 16 = some (.if_icmp .ge 34, 3, (50, [], .null)) := lk_eqE_eq (by decide +kernel)
theorem lk_s110_50_1 : lk_seg 110 [(.aload_n 3, 1, (0, [], .null))] 50 = some 51 := by decide +kernel
theorem lk_i110_51 : lk_ins 110 51 = some (.areturn, 1, (0, [], .null)) := lk_eqE_eq (by decide +kernel)
theorem lk_s110_19_9 : lk_seg 110 [(.aload_n 3, 1, (0, [], .null)), (.iload 5, 2, (0, [], .null)), (.iload_n 2, 1, (0, [], .null)), (.iload_n 0, 1, (0, [], .null)), (.iconst 1, 1, (0, [], .int (1))), (.iadd, 1, (0, [], .null)), (.iload 4, 2, (0, [], .null)), (.isub, 1, (0, [], .null)), (.iload_n 0, 1, (0, [], .null))] 19 = some 30 := by decide +kernel
theorem lk_i110_30 : lk_ins 110 30 = some (.invokestatic 253, 3, (0, [(0, 108)], .ref 79)) := lk_eqE_eq (by decide +kernel)
theorem lk_s110_33_2 : lk_seg 110 [(.iconst 1, 1, (0, [], .int (1))), (.isub, 1, (0, [], .null))] 33 = some 35 := by decide +kernel
theorem lk_i110_35 : lk_ins 110 35 = some (.iastore, 1, (0, [], .null)) := lk_eqE_eq (by decide +kernel)
theorem lk_s110_36_4 : lk_seg 110 [(.iload 4, 2, (0, [], .null)), (.iload_n 1, 1, (0, [], .null)), (.imul, 1, (0, [], .null)), (.iload_n 0, 1, (0, [], .null))] 36 = some 41 := by decide +kernel
theorem lk_i110_41 : lk_ins 110 41 = some (.irem, 1, (0, [], .null)) := lk_eqE_eq (by decide +kernel)
theorem lk_s110_42_3 : lk_seg 110 [(.istore 4, 2, (0, [], .null)), (.iinc 5 1, 3, (0, [], .int (1))), (.goto (-35), 3, (12, [], .null))] 42 = some 12 := by decide +kernel
set_option maxRecDepth 20000 in
theorem E_x_columnsBySums {X : lk_X} {d : Nat} {x0 x1 x2 : Int32} {h : lk_H} {Q : Option Value → lk_H → Prop} (H : lk_nw (x0 - 2) (lk_wp X (d + 1) 110 12 [.int x0, .int x1, .int x2, .ref (h.length), .int x1, .int 0] [] (h ++ [.inl (0, ((x0 - 2).toNatClampNeg, .inl (fun _ => 0)))]) Q)) : lk_wx X (d + 1) 110 [.int x0, .int x1, .int x2] h Q := by
  refine lk_enter (lo := [.int x0, .int x1, .int x2, .retAddr 0, .retAddr 0, .retAddr 0]) lk_M110 rfl (Nat.le_of_ble_eq_true rfl) ?_
  refine lk_wp_seg (lo' := [.int x0, .int x1, .int x2, .retAddr 0, .retAddr 0, .retAddr 0]) (st' := [.int (x0 - 2)]) lk_M110 lk_s110_0_3 rfl ?_
  refine lk_wp_new_int lk_i110_3 lk_M110 H (fun H => ?_)
  refine lk_wp_seg (lo' := [.int x0, .int x1, .int x2, .ref (h.length), .int x1, .int 0]) (st' := []) lk_M110 lk_s110_5_5 rfl ?_
  exact H
set_option maxRecDepth 20000 in
theorem F_x_columnsBySums_12 {X : lk_X} {d : Nat} {x0 x1 x2 x4 x5 : Int32} {a3 : Nat} {h : lk_H} {Q : Option Value → lk_H → Prop} (H : lk_al2 h a3 (fun r1 => (r1 ≤ x5 → Q (some (.ref a3)) h) ∧ (¬ r1 ≤ x5 → lk_wxi X d 108 [.int x2, .int ((x0 + 1) - x4), .int x0] h (fun r3 h2 => lk_as h2 a3 x5 (r3 - 1) (fun h4 => ¬ x0 = 0 ∧ (lk_wp X (d + 1) 110 12 [.int x0, .int x1, .int x2, .ref a3, .int ((x4 * x1) - (x4 * x1) / x0 * x0), .int (x5 + 1)] [] h4 Q)))))) : lk_wp X (d + 1) 110 12 [.int x0, .int x1, .int x2, .ref a3, .int x4, .int x5] [] h Q := by
  refine lk_wp_seg (lo' := [.int x0, .int x1, .int x2, .ref a3, .int x4, .int x5]) (st' := [.ref a3, .int x5]) lk_M110 lk_s110_12_2 rfl ?_
  refine lk_wp_al lk_i110_15 lk_M110 H (fun r1 H => ?_)
  refine lk_wp_ic_ge lk_i110_16 lk_M110 H (fun H => ?_) (fun H => ?_)
  · refine lk_wp_seg (lo' := [.int x0, .int x1, .int x2, .ref a3, .int x4, .int x5]) (st' := [.ref a3]) lk_M110 lk_s110_50_1 rfl ?_
    exact lk_wp_ret lk_i110_51 lk_M110 rfl H
  · refine lk_wp_seg (lo' := [.int x0, .int x1, .int x2, .ref a3, .int x4, .int x5]) (st' := [.int x0, .int ((x0 + 1) - x4), .int x2, .int x5, .ref a3]) lk_M110 lk_s110_19_9 rfl ?_
    refine lk_wp_cs (as := [.int x2, .int ((x0 + 1) - x4), .int x0]) (r := [.int x5, .ref a3]) lk_i110_30 lk_M110 rfl rfl rfl rfl (Nat.le_of_ble_eq_true rfl) (lk_gi H (fun r3 h2 H => ?_))
    refine lk_wp_seg (lo' := [.int x0, .int x1, .int x2, .ref a3, .int x4, .int x5]) (st' := [.int (r3 - 1), .int x5, .ref a3]) lk_M110 lk_s110_33_2 rfl ?_
    refine lk_wp_as lk_i110_35 lk_M110 H (fun h4 H => ?_)
    refine lk_wp_seg (lo' := [.int x0, .int x1, .int x2, .ref a3, .int x4, .int x5]) (st' := [.int x0, .int (x4 * x1)]) lk_M110 lk_s110_36_4 rfl ?_
    refine lk_wp_rem lk_i110_41 lk_M110 H (fun H => ?_)
    refine lk_wp_seg (lo' := [.int x0, .int x1, .int x2, .ref a3, .int ((x4 * x1) - (x4 * x1) / x0 * x0), .int (x5 + 1)]) (st' := []) lk_M110 lk_s110_42_3 rfl ?_
    exact H
