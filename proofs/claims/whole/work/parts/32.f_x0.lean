/-! LonelyDots.<init>()V -/
theorem lk_M65 : lk_mt[65]? = some (yX11_init, cX11_init, 2, ((none))) := rfl
theorem lk_s65_0_1 : lk_seg 65 [(.aload_n 0, 1, (0, [], .null))] 0 = some 1 := by decide +kernel
theorem lk_i65_1 : lk_ins 65 1 = some (.invokespecial 1, 3, (100, [], .null)) := lk_eqE_eq (by decide +kernel)
theorem lk_s65_4_2 : lk_seg 65 [(.aload_n 0, 1, (0, [], .null)), (.bipush 8, 2, (0, [], .int (8)))] 4 = some 7 := by decide +kernel
theorem lk_i65_7 : lk_ins 65 7 = some (.anewarray 9, 3, (2, [], .null)) := lk_eqE_eq (by decide +kernel)
theorem lk_i65_10 : lk_ins 65 10 = some (.putfield 11, 3, (0, [(10, 0)], .null)) := lk_eqE_eq (by decide +kernel)
theorem lk_s65_13_2 : lk_seg 65 [(.aload_n 0, 1, (0, [], .null)), (.bipush 10, 2, (0, [], .int (10)))] 13 = some 16 := by decide +kernel
theorem lk_i65_16 : lk_ins 65 16 = some (.anewarray 15, 3, (3, [], .null)) := lk_eqE_eq (by decide +kernel)
theorem lk_i65_19 : lk_ins 65 19 = some (.putfield 17, 3, (1, [(10, 0)], .null)) := lk_eqE_eq (by decide +kernel)
theorem lk_s65_22_1 : lk_seg 65 [(.aload_n 0, 1, (0, [], .null))] 22 = some 23 := by decide +kernel
theorem lk_i65_23 : lk_ins 65 23 = some (.new 21, 3, (9, [], .null)) := lk_eqE_eq (by decide +kernel)
theorem lk_s65_26_1 : lk_seg 65 [(.dup, 1, (0, [], .null))] 26 = some 27 := by decide +kernel
theorem lk_i65_27 : lk_ins 65 27 = some (.invokespecial 23, 3, (4, [(0, 61)], .ref 36)) := lk_eqE_eq (by decide +kernel)
theorem lk_i65_30 : lk_ins 65 30 = some (.putfield 24, 3, (2, [(10, 0)], .null)) := lk_eqE_eq (by decide +kernel)
theorem lk_s65_33_1 : lk_seg 65 [(.aload_n 0, 1, (0, [], .null))] 33 = some 34 := by decide +kernel
theorem lk_i65_34 : lk_ins 65 34 = some (.new 28, 3, (3, [], .null)) := lk_eqE_eq (by decide +kernel)
theorem lk_s65_37_1 : lk_seg 65 [(.dup, 1, (0, [], .null))] 37 = some 38 := by decide +kernel
theorem lk_i65_38 : lk_ins 65 38 = some (.invokespecial 30, 3, (4, [(0, 19)], .ref 37)) := lk_eqE_eq (by decide +kernel)
theorem lk_i65_41 : lk_ins 65 41 = some (.putfield 31, 3, (3, [(10, 0)], .null)) := lk_eqE_eq (by decide +kernel)
theorem lk_s65_44_2 : lk_seg 65 [(.aload_n 0, 1, (0, [], .null)), (.bipush 8, 2, (0, [], .int (8)))] 44 = some 47 := by decide +kernel
theorem lk_i65_47 : lk_ins 65 47 = some (.anewarray 35, 3, (4, [], .null)) := lk_eqE_eq (by decide +kernel)
theorem lk_i65_50 : lk_ins 65 50 = some (.putfield 37, 3, (4, [(10, 0)], .null)) := lk_eqE_eq (by decide +kernel)
theorem lk_s65_53_1 : lk_seg 65 [(.aload_n 0, 1, (0, [], .null))] 53 = some 54 := by decide +kernel
theorem lk_i65_54 : lk_ins 65 54 = some (.new 41, 3, (7, [], .null)) := lk_eqE_eq (by decide +kernel)
theorem lk_s65_57_1 : lk_seg 65 [(.dup, 1, (0, [], .null))] 57 = some 58 := by decide +kernel
theorem lk_i65_58 : lk_ins 65 58 = some (.invokespecial 43, 3, (3, [(0, 45)], .ref 38)) := lk_eqE_eq (by decide +kernel)
theorem lk_i65_61 : lk_ins 65 61 = some (.putfield 44, 3, (5, [(10, 0)], .null)) := lk_eqE_eq (by decide +kernel)
theorem lk_s65_64_2 : lk_seg 65 [(.aload_n 0, 1, (0, [], .null)), (.iconst 0, 1, (0, [], .int (0)))] 64 = some 66 := by decide +kernel
theorem lk_i65_66 : lk_ins 65 66 = some (.putfield 48, 3, (6, [(10, 0)], .null)) := lk_eqE_eq (by decide +kernel)
theorem lk_s65_69_2 : lk_seg 65 [(.iconst 0, 1, (0, [], .int (0))), (.istore_n 1, 1, (0, [], .null))] 69 = some 71 := by decide +kernel
theorem lk_s65_71_2 : lk_seg 65 [(.iload_n 1, 1, (0, [], .null)), (.bipush 8, 2, (0, [], .int (8)))] 71 = some 74 := by decide +kernel
theorem lk_i65_74 : lk_ins 65 74 = some (.if_icmp .ge 22, 3, (96, [], .null)) := lk_eqE_eq (by decide +kernel)
theorem lk_i65_96 : lk_ins 65 96 = some (.return_, 1, (0, [], .null)) := lk_eqE_eq (by decide +kernel)
theorem lk_s65_77_1 : lk_seg 65 [(.aload_n 0, 1, (0, [], .null))] 77 = some 78 := by decide +kernel
theorem lk_i65_78 : lk_ins 65 78 = some (.getfield 11, 3, (0, [(10, 0)], .null)) := lk_eqE_eq (by decide +kernel)
theorem lk_s65_81_1 : lk_seg 65 [(.iload_n 1, 1, (0, [], .null))] 81 = some 82 := by decide +kernel
theorem lk_i65_82 : lk_ins 65 82 = some (.new 9, 3, (8, [], .null)) := lk_eqE_eq (by decide +kernel)
theorem lk_s65_85_1 : lk_seg 65 [(.dup, 1, (0, [], .null))] 85 = some 86 := by decide +kernel
theorem lk_i65_86 : lk_ins 65 86 = some (.invokespecial 52, 3, (4, [(0, 50)], .ref 39)) := lk_eqE_eq (by decide +kernel)
theorem lk_i65_89 : lk_ins 65 89 = some (.aastore, 1, (0, [], .null)) := lk_eqE_eq (by decide +kernel)
theorem lk_s65_90_2 : lk_seg 65 [(.iinc 1 1, 3, (0, [], .int (1))), (.goto (-22), 3, (71, [], .null))] 90 = some 71 := by decide +kernel
set_option maxRecDepth 20000 in
theorem E_x_init {X : lk_X} {d : Nat} {a0 : Nat} {h : lk_H} {Q : Option Value → lk_H → Prop} (H : lk_nw (8 : Int32) (lk_pf ((h ++ [.inl (2, ((8 : Int32).toNatClampNeg, .inr (.inr (.inr (.inr (fun _ => none))))))])) a0 0 [(10, 0)] (.ref (h.length)) (fun h1 => lk_nw (10 : Int32) (lk_pf ((h1 ++ [.inl (3, ((10 : Int32).toNatClampNeg, .inr (.inr (.inr (.inr (fun _ => none))))))])) a0 1 [(10, 0)] (.ref (h1.length)) (fun h2 => lk_ob ((h2 ++ [.inr (9, [.null, .int 0])])) h2.length (lk_wxv X d 61 [.ref (h2.length)] ((h2 ++ [.inr (9, [.null, .int 0])])) (fun h3 => lk_pf h3 a0 2 [(10, 0)] (.ref (h2.length)) (fun h4 => lk_ob ((h4 ++ [.inr (3, [.null, .null])])) h4.length (lk_wxv X d 19 [.ref (h4.length)] ((h4 ++ [.inr (3, [.null, .null])])) (fun h5 => lk_pf h5 a0 3 [(10, 0)] (.ref (h4.length)) (fun h6 => lk_nw (8 : Int32) (lk_pf ((h6 ++ [.inl (4, ((8 : Int32).toNatClampNeg, .inr (.inr (.inr (.inr (fun _ => none))))))])) a0 4 [(10, 0)] (.ref (h6.length)) (fun h7 => lk_ob ((h7 ++ [.inr (7, [.null, .null, .null, .int 0])])) h7.length (lk_wxv X d 45 [.ref (h7.length)] ((h7 ++ [.inr (7, [.null, .null, .null, .int 0])])) (fun h8 => lk_pf h8 a0 5 [(10, 0)] (.ref (h7.length)) (fun h9 => lk_pf h9 a0 6 [(10, 0)] (.int 0) (fun h10 => lk_wp X (d + 1) 65 71 [.ref a0, .int 0] [] h10 Q))))))))))))))))) : lk_wx X (d + 1) 65 [.ref a0] h Q := by
  refine lk_enter (lo := [.ref a0, .retAddr 0]) lk_M65 rfl (Nat.le_of_ble_eq_true rfl) ?_
  refine lk_wp_seg (lo' := [.ref a0, .retAddr 0]) (st' := [.ref a0]) lk_M65 lk_s65_0_1 rfl ?_
  refine lk_wp_one lk_i65_1 lk_M65 rfl rfl rfl ?_
  refine lk_wp_seg (lo' := [.ref a0, .retAddr 0]) (st' := [.int 8, .ref a0]) lk_M65 lk_s65_4_2 rfl ?_
  refine lk_wp_newq lk_i65_7 lk_M65 ⟨by decide, H⟩ (fun H => ?_)
  refine lk_wp_pf lk_i65_10 lk_M65 H (fun h1 H => ?_)
  refine lk_wp_seg (lo' := [.ref a0, .retAddr 0]) (st' := [.int 10, .ref a0]) lk_M65 lk_s65_13_2 rfl ?_
  refine lk_wp_newq lk_i65_16 lk_M65 ⟨by decide, H⟩ (fun H => ?_)
  refine lk_wp_pf lk_i65_19 lk_M65 H (fun h2 H => ?_)
  refine lk_wp_seg (lo' := [.ref a0, .retAddr 0]) (st' := [.ref a0]) lk_M65 lk_s65_22_1 rfl ?_
  refine lk_wp_new lk_i65_23 lk_M65 rfl ?_
  refine lk_wp_seg (lo' := [.ref a0, .retAddr 0]) (st' := [.ref (h2.length), .ref (h2.length), .ref a0]) lk_M65 lk_s65_26_1 rfl ?_
  refine lk_wp_cp (as := []) (r := [.ref (h2.length), .ref a0]) (a := h2.length) lk_i65_27 lk_M65 rfl rfl rfl rfl (Nat.le_of_ble_eq_true rfl) H (fun H => lk_gv H (fun h3 H => ?_))
  refine lk_wp_pf lk_i65_30 lk_M65 H (fun h4 H => ?_)
  refine lk_wp_seg (lo' := [.ref a0, .retAddr 0]) (st' := [.ref a0]) lk_M65 lk_s65_33_1 rfl ?_
  refine lk_wp_new lk_i65_34 lk_M65 rfl ?_
  refine lk_wp_seg (lo' := [.ref a0, .retAddr 0]) (st' := [.ref (h4.length), .ref (h4.length), .ref a0]) lk_M65 lk_s65_37_1 rfl ?_
  refine lk_wp_cp (as := []) (r := [.ref (h4.length), .ref a0]) (a := h4.length) lk_i65_38 lk_M65 rfl rfl rfl rfl (Nat.le_of_ble_eq_true rfl) H (fun H => lk_gv H (fun h5 H => ?_))
  refine lk_wp_pf lk_i65_41 lk_M65 H (fun h6 H => ?_)
  refine lk_wp_seg (lo' := [.ref a0, .retAddr 0]) (st' := [.int 8, .ref a0]) lk_M65 lk_s65_44_2 rfl ?_
  refine lk_wp_newq lk_i65_47 lk_M65 ⟨by decide, H⟩ (fun H => ?_)
  refine lk_wp_pf lk_i65_50 lk_M65 H (fun h7 H => ?_)
  refine lk_wp_seg (lo' := [.ref a0, .retAddr 0]) (st' := [.ref a0]) lk_M65 lk_s65_53_1 rfl ?_
  refine lk_wp_new lk_i65_54 lk_M65 rfl ?_
  refine lk_wp_seg (lo' := [.ref a0, .retAddr 0]) (st' := [.ref (h7.length), .ref (h7.length), .ref a0]) lk_M65 lk_s65_57_1 rfl ?_
  refine lk_wp_cp (as := []) (r := [.ref (h7.length), .ref a0]) (a := h7.length) lk_i65_58 lk_M65 rfl rfl rfl rfl (Nat.le_of_ble_eq_true rfl) H (fun H => lk_gv H (fun h8 H => ?_))
  refine lk_wp_pf lk_i65_61 lk_M65 H (fun h9 H => ?_)
  refine lk_wp_seg (lo' := [.ref a0, .retAddr 0]) (st' := [.int 0, .ref a0]) lk_M65 lk_s65_64_2 rfl ?_
  refine lk_wp_pf lk_i65_66 lk_M65 H (fun h10 H => ?_)
  refine lk_wp_seg (lo' := [.ref a0, .int 0]) (st' := []) lk_M65 lk_s65_69_2 rfl ?_
  exact H
set_option maxRecDepth 20000 in
theorem F_x_init_71 {X : lk_X} {d : Nat} {x1 : Int32} {a0 : Nat} {h : lk_H} {Q : Option Value → lk_H → Prop} (H : (8 ≤ x1 → Q none h) ∧ (¬ 8 ≤ x1 → lk_fR h a0 0 [(10, 0)] (fun r1 => lk_ob ((h ++ [.inr (8, [.null, .int 0, .int 0, .int 0])])) h.length (lk_wxv X d 50 [.ref (h.length)] ((h ++ [.inr (8, [.null, .int 0, .int 0, .int 0])])) (fun h2 => lk_rs h2 r1 x1 h.length (fun h3 => lk_wp X (d + 1) 65 71 [.ref a0, .int (x1 + 1)] [] h3 Q)))))) : lk_wp X (d + 1) 65 71 [.ref a0, .int x1] [] h Q := by
  refine lk_wp_seg (lo' := [.ref a0, .int x1]) (st' := [.int 8, .int x1]) lk_M65 lk_s65_71_2 rfl ?_
  refine lk_wp_ic_ge lk_i65_74 lk_M65 H (fun H => ?_) (fun H => ?_)
  · exact lk_wp_ret lk_i65_96 lk_M65 rfl H
  · refine lk_wp_seg (lo' := [.ref a0, .int x1]) (st' := [.ref a0]) lk_M65 lk_s65_77_1 rfl ?_
    refine lk_wp_fR lk_i65_78 lk_M65 H (fun r1 H => ?_)
    refine lk_wp_seg (lo' := [.ref a0, .int x1]) (st' := [.int x1, .ref r1]) lk_M65 lk_s65_81_1 rfl ?_
    refine lk_wp_new lk_i65_82 lk_M65 rfl ?_
    refine lk_wp_seg (lo' := [.ref a0, .int x1]) (st' := [.ref (h.length), .ref (h.length), .int x1, .ref r1]) lk_M65 lk_s65_85_1 rfl ?_
    refine lk_wp_cp (as := []) (r := [.ref (h.length), .int x1, .ref r1]) (a := h.length) lk_i65_86 lk_M65 rfl rfl rfl rfl (Nat.le_of_ble_eq_true rfl) H (fun H => lk_gv H (fun h2 H => ?_))
    refine lk_wp_rs lk_i65_89 lk_M65 H (fun h3 H => ?_)
    refine lk_wp_seg (lo' := [.ref a0, .int (x1 + 1)]) (st' := []) lk_M65 lk_s65_90_2 rfl ?_
    exact H
/-! LonelyDots.sheet(III)I -/
theorem lk_M66 : lk_mt[66]? = some (yX11_sheet, cX11_sheet, 4, ((some FieldType.int))) := rfl
theorem lk_s66_0_1 : lk_seg 66 [(.iload_n 1, 1, (0, [], .null))] 0 = some 1 := by decide +kernel
theorem lk_i66_1 : lk_ins 66 1 = some (.invokestatic 53, 3, (0, [(0, 94)], .ref 40)) := lk_eqE_eq (by decide +kernel)
theorem lk_i66_4 : lk_ins 66 4 = some (.ifCond .eq 18, 3, (22, [], .null)) := lk_eqE_eq (by decide +kernel)
theorem lk_s66_22_1 : lk_seg 66 [(.ldc 57, 2, (0, [], .int (-1000001)))] 22 = some 24 := by decide +kernel
theorem lk_i66_24 : lk_ins 66 24 = some (.ireturn, 1, (0, [], .null)) := lk_eqE_eq (by decide +kernel)
theorem lk_s66_7_1 : lk_seg 66 [(.iload_n 2, 1, (0, [], .null))] 7 = some 8 := by decide +kernel
theorem lk_i66_8 : lk_ins 66 8 = some (.ifCond .lt 14, 3, (22, [], .null)) := lk_eqE_eq (by decide +kernel)
theorem lk_s66_11_2 : lk_seg 66 [(.iload_n 2, 1, (0, [], .null)), (.iconst 3, 1, (0, [], .int (3)))] 11 = some 13 := by decide +kernel
theorem lk_i66_13 : lk_ins 66 13 = some (.if_icmp .ge 9, 3, (22, [], .null)) := lk_eqE_eq (by decide +kernel)
theorem lk_s66_16_2 : lk_seg 66 [(.iload_n 3, 1, (0, [], .null)), (.bipush 60, 2, (0, [], .int (60)))] 16 = some 19 := by decide +kernel
theorem lk_i66_19 : lk_ins 66 19 = some (.if_icmp .le 6, 3, (25, [], .null)) := lk_eqE_eq (by decide +kernel)
theorem lk_s66_25_1 : lk_seg 66 [(.iload_n 3, 1, (0, [], .null))] 25 = some 26 := by decide +kernel
theorem lk_i66_26 : lk_ins 66 26 = some (.ifCond .ge 9, 3, (35, [], .null)) := lk_eqE_eq (by decide +kernel)
theorem lk_s66_35_1 : lk_seg 66 [(.aload_n 0, 1, (0, [], .null))] 35 = some 36 := by decide +kernel
theorem lk_i66_36 : lk_ins 66 36 = some (.getfield 11, 3, (0, [(10, 0)], .null)) := lk_eqE_eq (by decide +kernel)
theorem lk_s66_39_1 : lk_seg 66 [(.iload_n 1, 1, (0, [], .null))] 39 = some 40 := by decide +kernel
theorem lk_i66_40 : lk_ins 66 40 = some (.aaload, 1, (0, [], .null)) := lk_eqE_eq (by decide +kernel)
theorem lk_s66_41_2 : lk_seg 66 [(.iload_n 2, 1, (0, [], .null)), (.iload_n 3, 1, (0, [], .null))] 41 = some 43 := by decide +kernel
theorem lk_i66_43 : lk_ins 66 43 = some (.invokevirtual 62, 3, (1, [(8, 51)], .ref 42)) := lk_eqE_eq (by decide +kernel)
theorem lk_s66_46_2 : lk_seg 66 [(.aload_n 0, 1, (0, [], .null)), (.iload_n 3, 1, (0, [], .null))] 46 = some 48 := by decide +kernel
theorem lk_i66_48 : lk_ins 66 48 = some (.invokevirtual 66, 3, (1, [(10, 97)], .ref 43)) := lk_eqE_eq (by decide +kernel)
theorem lk_i66_51 : lk_ins 66 51 = some (.ireturn, 1, (0, [], .null)) := lk_eqE_eq (by decide +kernel)
theorem lk_s66_29_2 : lk_seg 66 [(.aload_n 0, 1, (0, [], .null)), (.iconst 4, 1, (0, [], .int (4)))] 29 = some 31 := by decide +kernel
theorem lk_i66_31 : lk_ins 66 31 = some (.invokevirtual 58, 3, (1, [(10, 96)], .ref 41)) := lk_eqE_eq (by decide +kernel)
theorem lk_i66_34 : lk_ins 66 34 = some (.ireturn, 1, (0, [], .null)) := lk_eqE_eq (by decide +kernel)
set_option maxRecDepth 20000 in
theorem E_x_sheet {X : lk_X} {d : Nat} {x1 x2 x3 : Int32} {a0 : Nat} {h : lk_H} {Q : Option Value → lk_H → Prop} (H : lk_wxi X d 94 [.int x1] h (fun r2 h1 => (r2 = 0 → Q (some (.int ((-1000001)))) h1) ∧ (¬ r2 = 0 → (x2 < 0 → Q (some (.int ((-1000001)))) h1) ∧ (¬ x2 < 0 → (3 ≤ x2 → Q (some (.int ((-1000001)))) h1) ∧ (¬ 3 ≤ x2 → (x3 ≤ 60 → (0 ≤ x3 → lk_fR h1 a0 0 [(10, 0)] (fun r3 => lk_ra h1 r3 x1 (False) (fun r4 => lk_vc h1 r4 [(8, 51)] (fun k9 => lk_wxv X d k9 [.ref r4, .int x2, .int x3] h1 (fun h5 => lk_vc h5 a0 [(10, 97)] (fun k8 => lk_wxi X d k8 [.ref a0, .int x3] h5 (fun r7 h6 => Q (some (.int r7)) h6))))))) ∧ (¬ 0 ≤ x3 → lk_vc h1 a0 [(10, 96)] (fun k12 => lk_wxi X d k12 [.ref a0, .int 4] h1 (fun r11 h10 => Q (some (.int r11)) h10)))) ∧ (¬ x3 ≤ 60 → Q (some (.int ((-1000001)))) h1)))))) : lk_wx X (d + 1) 66 [.ref a0, .int x1, .int x2, .int x3] h Q := by
  refine lk_enter (lo := [.ref a0, .int x1, .int x2, .int x3]) lk_M66 rfl (Nat.le_of_ble_eq_true rfl) ?_
  refine lk_wp_seg (lo' := [.ref a0, .int x1, .int x2, .int x3]) (st' := [.int x1]) lk_M66 lk_s66_0_1 rfl ?_
  refine lk_wp_cs (as := [.int x1]) (r := []) lk_i66_1 lk_M66 rfl rfl rfl rfl (Nat.le_of_ble_eq_true rfl) (lk_gi H (fun r2 h1 H => ?_))
  refine lk_wp_if_eq lk_i66_4 lk_M66 H (fun H => ?_) (fun H => ?_)
  · refine lk_wp_seg (lo' := [.ref a0, .int x1, .int x2, .int x3]) (st' := [.int ((-1000001))]) lk_M66 lk_s66_22_1 rfl ?_
    exact lk_wp_ret lk_i66_24 lk_M66 rfl H
  · refine lk_wp_seg (lo' := [.ref a0, .int x1, .int x2, .int x3]) (st' := [.int x2]) lk_M66 lk_s66_7_1 rfl ?_
    refine lk_wp_if_lt lk_i66_8 lk_M66 H (fun H => ?_) (fun H => ?_)
    · refine lk_wp_seg (lo' := [.ref a0, .int x1, .int x2, .int x3]) (st' := [.int ((-1000001))]) lk_M66 lk_s66_22_1 rfl ?_
      exact lk_wp_ret lk_i66_24 lk_M66 rfl H
    · refine lk_wp_seg (lo' := [.ref a0, .int x1, .int x2, .int x3]) (st' := [.int 3, .int x2]) lk_M66 lk_s66_11_2 rfl ?_
      refine lk_wp_ic_ge lk_i66_13 lk_M66 H (fun H => ?_) (fun H => ?_)
      · refine lk_wp_seg (lo' := [.ref a0, .int x1, .int x2, .int x3]) (st' := [.int ((-1000001))]) lk_M66 lk_s66_22_1 rfl ?_
        exact lk_wp_ret lk_i66_24 lk_M66 rfl H
      · refine lk_wp_seg (lo' := [.ref a0, .int x1, .int x2, .int x3]) (st' := [.int 60, .int x3]) lk_M66 lk_s66_16_2 rfl ?_
        refine lk_wp_ic_le lk_i66_19 lk_M66 H (fun H => ?_) (fun H => ?_)
        · refine lk_wp_seg (lo' := [.ref a0, .int x1, .int x2, .int x3]) (st' := [.int x3]) lk_M66 lk_s66_25_1 rfl ?_
          refine lk_wp_if_ge lk_i66_26 lk_M66 H (fun H => ?_) (fun H => ?_)
          · refine lk_wp_seg (lo' := [.ref a0, .int x1, .int x2, .int x3]) (st' := [.ref a0]) lk_M66 lk_s66_35_1 rfl ?_
            refine lk_wp_fR lk_i66_36 lk_M66 H (fun r3 H => ?_)
            refine lk_wp_seg (lo' := [.ref a0, .int x1, .int x2, .int x3]) (st' := [.int x1, .ref r3]) lk_M66 lk_s66_39_1 rfl ?_
            refine lk_wp_ra lk_i66_40 lk_M66 H ⟨fun H => ?_, fun r4 H => ?_⟩
            · refine lk_wp_seg (lo' := [.ref a0, .int x1, .int x2, .int x3]) (st' := [.int x3, .int x2, .null]) lk_M66 lk_s66_41_2 rfl ?_
              exact H.elim
            · refine lk_wp_seg (lo' := [.ref a0, .int x1, .int x2, .int x3]) (st' := [.int x3, .int x2, .ref r4]) lk_M66 lk_s66_41_2 rfl ?_
              refine lk_wp_cv (as := [.int x2, .int x3]) (r := []) (a := r4) lk_i66_43 lk_M66 rfl rfl rfl (Nat.le_of_ble_eq_true rfl) H (fun k9 H => lk_gv H (fun h5 H => ?_))
              refine lk_wp_seg (lo' := [.ref a0, .int x1, .int x2, .int x3]) (st' := [.int x3, .ref a0]) lk_M66 lk_s66_46_2 rfl ?_
              refine lk_wp_cv (as := [.int x3]) (r := []) (a := a0) lk_i66_48 lk_M66 rfl rfl rfl (Nat.le_of_ble_eq_true rfl) H (fun k8 H => lk_gi H (fun r7 h6 H => ?_))
              exact lk_wp_ret lk_i66_51 lk_M66 rfl H
          · refine lk_wp_seg (lo' := [.ref a0, .int x1, .int x2, .int x3]) (st' := [.int 4, .ref a0]) lk_M66 lk_s66_29_2 rfl ?_
            refine lk_wp_cv (as := [.int 4]) (r := []) (a := a0) lk_i66_31 lk_M66 rfl rfl rfl (Nat.le_of_ble_eq_true rfl) H (fun k12 H => lk_gi H (fun r11 h10 H => ?_))
            exact lk_wp_ret lk_i66_34 lk_M66 rfl H
        · refine lk_wp_seg (lo' := [.ref a0, .int x1, .int x2, .int x3]) (st' := [.int ((-1000001))]) lk_M66 lk_s66_22_1 rfl ?_
          exact lk_wp_ret lk_i66_24 lk_M66 rfl H
/-! LonelyDots.set(III)I -/
theorem lk_M67 : lk_mt[67]? = some (yX11_set, cX11_set, 5, ((some FieldType.int))) := rfl
theorem lk_s67_0_1 : lk_seg 67 [(.iload_n 1, 1, (0, [], .null))] 0 = some 1 := by decide +kernel
theorem lk_i67_1 : lk_ins 67 1 = some (.invokestatic 53, 3, (0, [(0, 94)], .ref 40)) := lk_eqE_eq (by decide +kernel)
theorem lk_i67_4 : lk_ins 67 4 = some (.ifCond .ne 6, 3, (10, [], .null)) := lk_eqE_eq (by decide +kernel)
theorem lk_s67_10_1 : lk_seg 67 [(.aload_n 0, 1, (0, [], .null))] 10 = some 11 := by decide +kernel
theorem lk_i67_11 : lk_ins 67 11 = some (.getfield 11, 3, (0, [(10, 0)], .null)) := lk_eqE_eq (by decide +kernel)
theorem lk_s67_14_1 : lk_seg 67 [(.iload_n 1, 1, (0, [], .null))] 14 = some 15 := by decide +kernel
theorem lk_i67_15 : lk_ins 67 15 = some (.aaload, 1, (0, [], .null)) := lk_eqE_eq (by decide +kernel)
theorem lk_s67_16_2 : lk_seg 67 [(.astore 4, 2, (0, [], .null)), (.aload 4, 2, (0, [], .null))] 16 = some 20 := by decide +kernel
theorem lk_i67_20 : lk_ins 67 20 = some (.getfield 69, 3, (1, [(8, 0)], .null)) := lk_eqE_eq (by decide +kernel)
theorem lk_i67_23 : lk_ins 67 23 = some (.ifCond .eq 9, 3, (32, [], .null)) := lk_eqE_eq (by decide +kernel)
theorem lk_s67_32_3 : lk_seg 67 [(.aload 4, 2, (0, [], .null)), (.iload_n 2, 1, (0, [], .null)), (.iconst 1, 1, (0, [], .int (1)))] 32 = some 36 := by decide +kernel
theorem lk_i67_36 : lk_ins 67 36 = some (.invokevirtual 73, 3, (1, [(8, 52)], .ref 44)) := lk_eqE_eq (by decide +kernel)
theorem lk_i67_39 : lk_ins 67 39 = some (.ifCond .ne 9, 3, (48, [], .null)) := lk_eqE_eq (by decide +kernel)
theorem lk_s67_48_1 : lk_seg 67 [(.aload 4, 2, (0, [], .null))] 48 = some 50 := by decide +kernel
theorem lk_i67_50 : lk_ins 67 50 = some (.getfield 77, 3, (0, [(8, 0)], .null)) := lk_eqE_eq (by decide +kernel)
theorem lk_s67_53_3 : lk_seg 67 [(.iload_n 2, 1, (0, [], .null)), (.aload 4, 2, (0, [], .null)), (.iload_n 3, 1, (0, [], .null))] 53 = some 57 := by decide +kernel
theorem lk_i67_57 : lk_ins 67 57 = some (.invokevirtual 81, 3, (1, [(8, 53)], .ref 45)) := lk_eqE_eq (by decide +kernel)
theorem lk_i67_60 : lk_ins 67 60 = some (.iastore, 1, (0, [], .null)) := lk_eqE_eq (by decide +kernel)
theorem lk_s67_61_2 : lk_seg 67 [(.aload_n 0, 1, (0, [], .null)), (.aload 4, 2, (0, [], .null))] 61 = some 64 := by decide +kernel
theorem lk_i67_64 : lk_ins 67 64 = some (.getfield 77, 3, (0, [(8, 0)], .null)) := lk_eqE_eq (by decide +kernel)
theorem lk_s67_67_1 : lk_seg 67 [(.iload_n 2, 1, (0, [], .null))] 67 = some 68 := by decide +kernel
theorem lk_i67_68 : lk_ins 67 68 = some (.iaload, 1, (0, [], .null)) := lk_eqE_eq (by decide +kernel)
theorem lk_i67_69 : lk_ins 67 69 = some (.invokevirtual 66, 3, (1, [(10, 97)], .ref 43)) := lk_eqE_eq (by decide +kernel)
theorem lk_i67_72 : lk_ins 67 72 = some (.ireturn, 1, (0, [], .null)) := lk_eqE_eq (by decide +kernel)
theorem lk_s67_42_2 : lk_seg 67 [(.aload_n 0, 1, (0, [], .null)), (.iconst 2, 1, (0, [], .int (2)))] 42 = some 44 := by decide +kernel
theorem lk_i67_44 : lk_ins 67 44 = some (.invokevirtual 58, 3, (1, [(10, 96)], .ref 41)) := lk_eqE_eq (by decide +kernel)
theorem lk_i67_47 : lk_ins 67 47 = some (.ireturn, 1, (0, [], .null)) := lk_eqE_eq (by decide +kernel)
theorem lk_s67_26_2 : lk_seg 67 [(.aload_n 0, 1, (0, [], .null)), (.iconst 1, 1, (0, [], .int (1)))] 26 = some 28 := by decide +kernel
theorem lk_i67_28 : lk_ins 67 28 = some (.invokevirtual 58, 3, (1, [(10, 96)], .ref 41)) := lk_eqE_eq (by decide +kernel)
theorem lk_i67_31 : lk_ins 67 31 = some (.ireturn, 1, (0, [], .null)) := lk_eqE_eq (by decide +kernel)
theorem lk_s67_7_1 : lk_seg 67 [(.ldc 57, 2, (0, [], .int (-1000001)))] 7 = some 9 := by decide +kernel
theorem lk_i67_9 : lk_ins 67 9 = some (.ireturn, 1, (0, [], .null)) := lk_eqE_eq (by decide +kernel)
set_option maxRecDepth 20000 in
theorem E_x_set {X : lk_X} {d : Nat} {x1 x2 x3 : Int32} {a0 : Nat} {h : lk_H} {Q : Option Value → lk_H → Prop} (H : lk_wxi X d 94 [.int x1] h (fun r2 h1 => (¬ r2 = 0 → lk_fR h1 a0 0 [(10, 0)] (fun r3 => lk_ra h1 r3 x1 (False) (fun r4 => lk_fI h1 r4 1 [(8, 0)] (fun r5 => (r5 = 0 → lk_vc h1 r4 [(8, 52)] (fun k21 => lk_wxi X d k21 [.ref r4, .int x2, .int 1] h1 (fun r7 h6 => (¬ r7 = 0 → lk_fR h6 r4 0 [(8, 0)] (fun r8 => lk_vc h6 r4 [(8, 53)] (fun k17 => lk_wxi X d k17 [.ref r4, .int x3] h6 (fun r10 h9 => lk_as h9 r8 x2 r10 (fun h11 => lk_fR h11 r4 0 [(8, 0)] (fun r12 => lk_ai h11 r12 x2 (fun r13 => lk_vc h11 a0 [(10, 97)] (fun k16 => lk_wxi X d k16 [.ref a0, .int r13] h11 (fun r15 h14 => Q (some (.int r15)) h14))))))))) ∧ (r7 = 0 → lk_vc h6 a0 [(10, 96)] (fun k20 => lk_wxi X d k20 [.ref a0, .int 2] h6 (fun r19 h18 => Q (some (.int r19)) h18)))))) ∧ (¬ r5 = 0 → lk_vc h1 a0 [(10, 96)] (fun k24 => lk_wxi X d k24 [.ref a0, .int 1] h1 (fun r23 h22 => Q (some (.int r23)) h22))))))) ∧ (r2 = 0 → Q (some (.int ((-1000001)))) h1))) : lk_wx X (d + 1) 67 [.ref a0, .int x1, .int x2, .int x3] h Q := by
  refine lk_enter (lo := [.ref a0, .int x1, .int x2, .int x3, .retAddr 0]) lk_M67 rfl (Nat.le_of_ble_eq_true rfl) ?_
  refine lk_wp_seg (lo' := [.ref a0, .int x1, .int x2, .int x3, .retAddr 0]) (st' := [.int x1]) lk_M67 lk_s67_0_1 rfl ?_
  refine lk_wp_cs (as := [.int x1]) (r := []) lk_i67_1 lk_M67 rfl rfl rfl rfl (Nat.le_of_ble_eq_true rfl) (lk_gi H (fun r2 h1 H => ?_))
  refine lk_wp_if_ne lk_i67_4 lk_M67 H (fun H => ?_) (fun H => ?_)
  · refine lk_wp_seg (lo' := [.ref a0, .int x1, .int x2, .int x3, .retAddr 0]) (st' := [.ref a0]) lk_M67 lk_s67_10_1 rfl ?_
    refine lk_wp_fR lk_i67_11 lk_M67 H (fun r3 H => ?_)
    refine lk_wp_seg (lo' := [.ref a0, .int x1, .int x2, .int x3, .retAddr 0]) (st' := [.int x1, .ref r3]) lk_M67 lk_s67_14_1 rfl ?_
    refine lk_wp_ra lk_i67_15 lk_M67 H ⟨fun H => ?_, fun r4 H => ?_⟩
    · refine lk_wp_seg (lo' := [.ref a0, .int x1, .int x2, .int x3, .null]) (st' := [.null]) lk_M67 lk_s67_16_2 rfl ?_
      exact H.elim
    · refine lk_wp_seg (lo' := [.ref a0, .int x1, .int x2, .int x3, .ref r4]) (st' := [.ref r4]) lk_M67 lk_s67_16_2 rfl ?_
      refine lk_wp_fI lk_i67_20 lk_M67 H (fun r5 H => ?_)
      refine lk_wp_if_eq lk_i67_23 lk_M67 H (fun H => ?_) (fun H => ?_)
      · refine lk_wp_seg (lo' := [.ref a0, .int x1, .int x2, .int x3, .ref r4]) (st' := [.int 1, .int x2, .ref r4]) lk_M67 lk_s67_32_3 rfl ?_
        refine lk_wp_cv (as := [.int x2, .int 1]) (r := []) (a := r4) lk_i67_36 lk_M67 rfl rfl rfl (Nat.le_of_ble_eq_true rfl) H (fun k21 H => lk_gi H (fun r7 h6 H => ?_))
        refine lk_wp_if_ne lk_i67_39 lk_M67 H (fun H => ?_) (fun H => ?_)
        · refine lk_wp_seg (lo' := [.ref a0, .int x1, .int x2, .int x3, .ref r4]) (st' := [.ref r4]) lk_M67 lk_s67_48_1 rfl ?_
          refine lk_wp_fR lk_i67_50 lk_M67 H (fun r8 H => ?_)
          refine lk_wp_seg (lo' := [.ref a0, .int x1, .int x2, .int x3, .ref r4]) (st' := [.int x3, .ref r4, .int x2, .ref r8]) lk_M67 lk_s67_53_3 rfl ?_
          refine lk_wp_cv (as := [.int x3]) (r := [.int x2, .ref r8]) (a := r4) lk_i67_57 lk_M67 rfl rfl rfl (Nat.le_of_ble_eq_true rfl) H (fun k17 H => lk_gi H (fun r10 h9 H => ?_))
          refine lk_wp_as lk_i67_60 lk_M67 H (fun h11 H => ?_)
          refine lk_wp_seg (lo' := [.ref a0, .int x1, .int x2, .int x3, .ref r4]) (st' := [.ref r4, .ref a0]) lk_M67 lk_s67_61_2 rfl ?_
          refine lk_wp_fR lk_i67_64 lk_M67 H (fun r12 H => ?_)
          refine lk_wp_seg (lo' := [.ref a0, .int x1, .int x2, .int x3, .ref r4]) (st' := [.int x2, .ref r12, .ref a0]) lk_M67 lk_s67_67_1 rfl ?_
          refine lk_wp_ai lk_i67_68 lk_M67 H (fun r13 H => ?_)
          refine lk_wp_cv (as := [.int r13]) (r := []) (a := a0) lk_i67_69 lk_M67 rfl rfl rfl (Nat.le_of_ble_eq_true rfl) H (fun k16 H => lk_gi H (fun r15 h14 H => ?_))
          exact lk_wp_ret lk_i67_72 lk_M67 rfl H
        · refine lk_wp_seg (lo' := [.ref a0, .int x1, .int x2, .int x3, .ref r4]) (st' := [.int 2, .ref a0]) lk_M67 lk_s67_42_2 rfl ?_
          refine lk_wp_cv (as := [.int 2]) (r := []) (a := a0) lk_i67_44 lk_M67 rfl rfl rfl (Nat.le_of_ble_eq_true rfl) H (fun k20 H => lk_gi H (fun r19 h18 H => ?_))
          exact lk_wp_ret lk_i67_47 lk_M67 rfl H
      · refine lk_wp_seg (lo' := [.ref a0, .int x1, .int x2, .int x3, .ref r4]) (st' := [.int 1, .ref a0]) lk_M67 lk_s67_26_2 rfl ?_
        refine lk_wp_cv (as := [.int 1]) (r := []) (a := a0) lk_i67_28 lk_M67 rfl rfl rfl (Nat.le_of_ble_eq_true rfl) H (fun k24 H => lk_gi H (fun r23 h22 H => ?_))
        exact lk_wp_ret lk_i67_31 lk_M67 rfl H
  · refine lk_wp_seg (lo' := [.ref a0, .int x1, .int x2, .int x3, .retAddr 0]) (st' := [.int ((-1000001))]) lk_M67 lk_s67_7_1 rfl ?_
    exact lk_wp_ret lk_i67_9 lk_M67 rfl H
/-! LonelyDots.copy(IIIII)I -/
theorem lk_M68 : lk_mt[68]? = some (yX11_copy, cX11_copy, 8, ((some FieldType.int))) := rfl
theorem lk_s68_0_1 : lk_seg 68 [(.iload_n 1, 1, (0, [], .null))] 0 = some 1 := by decide +kernel
theorem lk_i68_1 : lk_ins 68 1 = some (.invokestatic 53, 3, (0, [(0, 94)], .ref 40)) := lk_eqE_eq (by decide +kernel)
theorem lk_i68_4 : lk_ins 68 4 = some (.ifCond .eq 10, 3, (14, [], .null)) := lk_eqE_eq (by decide +kernel)
theorem lk_s68_14_1 : lk_seg 68 [(.ldc 57, 2, (0, [], .int (-1000001)))] 14 = some 16 := by decide +kernel
theorem lk_i68_16 : lk_ins 68 16 = some (.ireturn, 1, (0, [], .null)) := lk_eqE_eq (by decide +kernel)
theorem lk_s68_7_1 : lk_seg 68 [(.iload_n 3, 1, (0, [], .null))] 7 = some 8 := by decide +kernel
theorem lk_i68_8 : lk_ins 68 8 = some (.invokestatic 53, 3, (0, [(0, 94)], .ref 40)) := lk_eqE_eq (by decide +kernel)
theorem lk_i68_11 : lk_ins 68 11 = some (.ifCond .ne 6, 3, (17, [], .null)) := lk_eqE_eq (by decide +kernel)
theorem lk_s68_17_1 : lk_seg 68 [(.aload_n 0, 1, (0, [], .null))] 17 = some 18 := by decide +kernel
theorem lk_i68_18 : lk_ins 68 18 = some (.getfield 11, 3, (0, [(10, 0)], .null)) := lk_eqE_eq (by decide +kernel)
theorem lk_s68_21_1 : lk_seg 68 [(.iload_n 1, 1, (0, [], .null))] 21 = some 22 := by decide +kernel
theorem lk_i68_22 : lk_ins 68 22 = some (.aaload, 1, (0, [], .null)) := lk_eqE_eq (by decide +kernel)
theorem lk_s68_23_2 : lk_seg 68 [(.astore 6, 2, (0, [], .null)), (.aload_n 0, 1, (0, [], .null))] 23 = some 26 := by decide +kernel
theorem lk_i68_26 : lk_ins 68 26 = some (.getfield 11, 3, (0, [(10, 0)], .null)) := lk_eqE_eq (by decide +kernel)
theorem lk_s68_29_1 : lk_seg 68 [(.iload_n 3, 1, (0, [], .null))] 29 = some 30 := by decide +kernel
theorem lk_i68_30 : lk_ins 68 30 = some (.aaload, 1, (0, [], .null)) := lk_eqE_eq (by decide +kernel)
theorem lk_s68_31_2 : lk_seg 68 [(.astore 7, 2, (0, [], .null)), (.aload 6, 2, (0, [], .null))] 31 = some 35 := by decide +kernel
theorem lk_i68_35 : lk_ins 68 35 = some (.getfield 69, 3, (1, [(8, 0)], .null)) := lk_eqE_eq (by decide +kernel)
theorem lk_i68_38 : lk_ins 68 38 = some (.ifCond .ne 11, 3, (49, [], .null)) := lk_eqE_eq (by decide +kernel)
theorem lk_s68_49_2 : lk_seg 68 [(.aload_n 0, 1, (0, [], .null)), (.iconst 1, 1, (0, [], .int (1)))] 49 = some 51 := by decide +kernel
theorem lk_i68_51 : lk_ins 68 51 = some (.invokevirtual 58, 3, (1, [(10, 96)], .ref 41)) := lk_eqE_eq (by decide +kernel)
theorem lk_i68_54 : lk_ins 68 54 = some (.ireturn, 1, (0, [], .null)) := lk_eqE_eq (by decide +kernel)
theorem lk_s68_41_1 : lk_seg 68 [(.aload 7, 2, (0, [], .null))] 41 = some 43 := by decide +kernel
theorem lk_i68_43 : lk_ins 68 43 = some (.getfield 69, 3, (1, [(8, 0)], .null)) := lk_eqE_eq (by decide +kernel)
theorem lk_i68_46 : lk_ins 68 46 = some (.ifCond .eq 9, 3, (55, [], .null)) := lk_eqE_eq (by decide +kernel)
theorem lk_s68_55_1 : lk_seg 68 [(.aload 6, 2, (0, [], .null))] 55 = some 57 := by decide +kernel
theorem lk_i68_57 : lk_ins 68 57 = some (.getfield 84, 3, (2, [(8, 0)], .null)) := lk_eqE_eq (by decide +kernel)
theorem lk_s68_60_1 : lk_seg 68 [(.aload 7, 2, (0, [], .null))] 60 = some 62 := by decide +kernel
theorem lk_i68_62 : lk_ins 68 62 = some (.getfield 84, 3, (2, [(8, 0)], .null)) := lk_eqE_eq (by decide +kernel)
theorem lk_i68_65 : lk_ins 68 65 = some (.if_icmp .eq 9, 3, (74, [], .null)) := lk_eqE_eq (by decide +kernel)
theorem lk_s68_74_3 : lk_seg 68 [(.aload 6, 2, (0, [], .null)), (.iload_n 2, 1, (0, [], .null)), (.iload 5, 2, (0, [], .null))] 74 = some 79 := by decide +kernel
theorem lk_i68_79 : lk_ins 68 79 = some (.invokevirtual 73, 3, (1, [(8, 52)], .ref 44)) := lk_eqE_eq (by decide +kernel)
theorem lk_i68_82 : lk_ins 68 82 = some (.ifCond .eq 15, 3, (97, [], .null)) := lk_eqE_eq (by decide +kernel)
theorem lk_s68_97_2 : lk_seg 68 [(.aload_n 0, 1, (0, [], .null)), (.iconst 2, 1, (0, [], .int (2)))] 97 = some 99 := by decide +kernel
theorem lk_i68_99 : lk_ins 68 99 = some (.invokevirtual 58, 3, (1, [(10, 96)], .ref 41)) := lk_eqE_eq (by decide +kernel)
theorem lk_i68_102 : lk_ins 68 102 = some (.ireturn, 1, (0, [], .null)) := lk_eqE_eq (by decide +kernel)
theorem lk_s68_85_3 : lk_seg 68 [(.aload 7, 2, (0, [], .null)), (.iload 4, 2, (0, [], .null)), (.iload 5, 2, (0, [], .null))] 85 = some 91 := by decide +kernel
theorem lk_i68_91 : lk_ins 68 91 = some (.invokevirtual 73, 3, (1, [(8, 52)], .ref 44)) := lk_eqE_eq (by decide +kernel)
theorem lk_i68_94 : lk_ins 68 94 = some (.ifCond .ne 9, 3, (103, [], .null)) := lk_eqE_eq (by decide +kernel)
theorem lk_s68_103_1 : lk_seg 68 [(.aload 6, 2, (0, [], .null))] 103 = some 105 := by decide +kernel
theorem lk_i68_105 : lk_ins 68 105 = some (.getfield 77, 3, (0, [(8, 0)], .null)) := lk_eqE_eq (by decide +kernel)
theorem lk_s68_108_2 : lk_seg 68 [(.iload_n 2, 1, (0, [], .null)), (.aload 7, 2, (0, [], .null))] 108 = some 111 := by decide +kernel
theorem lk_i68_111 : lk_ins 68 111 = some (.getfield 77, 3, (0, [(8, 0)], .null)) := lk_eqE_eq (by decide +kernel)
theorem lk_s68_114_2 : lk_seg 68 [(.iload 4, 2, (0, [], .null)), (.iload 5, 2, (0, [], .null))] 114 = some 118 := by decide +kernel
theorem lk_i68_118 : lk_ins 68 118 = some (.invokestatic 87, 3, (101, [], .null)) := lk_eqE_eq (by decide +kernel)
theorem lk_s68_121_2 : lk_seg 68 [(.aload_n 0, 1, (0, [], .null)), (.iload 5, 2, (0, [], .null))] 121 = some 124 := by decide +kernel
theorem lk_i68_124 : lk_ins 68 124 = some (.invokevirtual 66, 3, (1, [(10, 97)], .ref 43)) := lk_eqE_eq (by decide +kernel)
theorem lk_i68_127 : lk_ins 68 127 = some (.ireturn, 1, (0, [], .null)) := lk_eqE_eq (by decide +kernel)
theorem lk_s68_68_2 : lk_seg 68 [(.aload_n 0, 1, (0, [], .null)), (.iconst 5, 1, (0, [], .int (5)))] 68 = some 70 := by decide +kernel
theorem lk_i68_70 : lk_ins 68 70 = some (.invokevirtual 58, 3, (1, [(10, 96)], .ref 41)) := lk_eqE_eq (by decide +kernel)
theorem lk_i68_73 : lk_ins 68 73 = some (.ireturn, 1, (0, [], .null)) := lk_eqE_eq (by decide +kernel)
set_option maxRecDepth 20000 in
theorem E_x_copy {X : lk_X} {d : Nat} {x1 x2 x3 x4 x5 : Int32} {a0 : Nat} {h : lk_H} {Q : Option Value → lk_H → Prop} (H : lk_wxi X d 94 [.int x1] h (fun r2 h1 => (r2 = 0 → Q (some (.int ((-1000001)))) h1) ∧ (¬ r2 = 0 → lk_wxi X d 94 [.int x3] h1 (fun r4 h3 => (¬ r4 = 0 → lk_fR h3 a0 0 [(10, 0)] (fun r5 => lk_ra h3 r5 x1 (lk_fR h3 a0 0 [(10, 0)] (fun r7 => lk_ra h3 r7 x3 (False) (fun r8 => False))) (fun r6 => lk_fR h3 a0 0 [(10, 0)] (fun r9 => lk_ra h3 r9 x3 (lk_fI h3 r6 1 [(8, 0)] (fun r11 => (¬ r11 = 0 → lk_vc h3 a0 [(10, 96)] (fun k14 => lk_wxi X d k14 [.ref a0, .int 1] h3 (fun r13 h12 => Q (some (.int r13)) h12))) ∧ (r11 = 0 → False))) (fun r10 => lk_fI h3 r6 1 [(8, 0)] (fun r15 => (¬ r15 = 0 → lk_vc h3 a0 [(10, 96)] (fun k18 => lk_wxi X d k18 [.ref a0, .int 1] h3 (fun r17 h16 => Q (some (.int r17)) h16))) ∧ (r15 = 0 → lk_fI h3 r10 1 [(8, 0)] (fun r19 => (r19 = 0 → lk_fI h3 r6 2 [(8, 0)] (fun r20 => lk_fI h3 r10 2 [(8, 0)] (fun r21 => (r20 = r21 → lk_vc h3 r6 [(8, 52)] (fun k39 => lk_wxi X d k39 [.ref r6, .int x2, .int x5] h3 (fun r23 h22 => (r23 = 0 → lk_vc h22 a0 [(10, 96)] (fun k26 => lk_wxi X d k26 [.ref a0, .int 2] h22 (fun r25 h24 => Q (some (.int r25)) h24))) ∧ (¬ r23 = 0 → lk_vc h22 r10 [(8, 52)] (fun k38 => lk_wxi X d k38 [.ref r10, .int x4, .int x5] h22 (fun r28 h27 => (¬ r28 = 0 → lk_fR h27 r6 0 [(8, 0)] (fun r29 => lk_fR h27 r10 0 [(8, 0)] (fun r30 => lk_ac h27 r29 x2 r30 x4 x5 (fun h31 => lk_vc h31 a0 [(10, 97)] (fun k34 => lk_wxi X d k34 [.ref a0, .int x5] h31 (fun r33 h32 => Q (some (.int r33)) h32)))))) ∧ (r28 = 0 → lk_vc h27 a0 [(10, 96)] (fun k37 => lk_wxi X d k37 [.ref a0, .int 2] h27 (fun r36 h35 => Q (some (.int r36)) h35))))))))) ∧ (¬ r20 = r21 → lk_vc h3 a0 [(10, 96)] (fun k42 => lk_wxi X d k42 [.ref a0, .int 5] h3 (fun r41 h40 => Q (some (.int r41)) h40)))))) ∧ (¬ r19 = 0 → lk_vc h3 a0 [(10, 96)] (fun k45 => lk_wxi X d k45 [.ref a0, .int 1] h3 (fun r44 h43 => Q (some (.int r44)) h43))))))))))) ∧ (r4 = 0 → Q (some (.int ((-1000001)))) h3))))) : lk_wx X (d + 1) 68 [.ref a0, .int x1, .int x2, .int x3, .int x4, .int x5] h Q := by
  refine lk_enter (lo := [.ref a0, .int x1, .int x2, .int x3, .int x4, .int x5, .retAddr 0, .retAddr 0]) lk_M68 rfl (Nat.le_of_ble_eq_true rfl) ?_
  refine lk_wp_seg (lo' := [.ref a0, .int x1, .int x2, .int x3, .int x4, .int x5, .retAddr 0, .retAddr 0]) (st' := [.int x1]) lk_M68 lk_s68_0_1 rfl ?_
  refine lk_wp_cs (as := [.int x1]) (r := []) lk_i68_1 lk_M68 rfl rfl rfl rfl (Nat.le_of_ble_eq_true rfl) (lk_gi H (fun r2 h1 H => ?_))
  refine lk_wp_if_eq lk_i68_4 lk_M68 H (fun H => ?_) (fun H => ?_)
  · refine lk_wp_seg (lo' := [.ref a0, .int x1, .int x2, .int x3, .int x4, .int x5, .retAddr 0, .retAddr 0]) (st' := [.int ((-1000001))]) lk_M68 lk_s68_14_1 rfl ?_
    exact lk_wp_ret lk_i68_16 lk_M68 rfl H
  · refine lk_wp_seg (lo' := [.ref a0, .int x1, .int x2, .int x3, .int x4, .int x5, .retAddr 0, .retAddr 0]) (st' := [.int x3]) lk_M68 lk_s68_7_1 rfl ?_
    refine lk_wp_cs (as := [.int x3]) (r := []) lk_i68_8 lk_M68 rfl rfl rfl rfl (Nat.le_of_ble_eq_true rfl) (lk_gi H (fun r4 h3 H => ?_))
    refine lk_wp_if_ne lk_i68_11 lk_M68 H (fun H => ?_) (fun H => ?_)
    · refine lk_wp_seg (lo' := [.ref a0, .int x1, .int x2, .int x3, .int x4, .int x5, .retAddr 0, .retAddr 0]) (st' := [.ref a0]) lk_M68 lk_s68_17_1 rfl ?_
      refine lk_wp_fR lk_i68_18 lk_M68 H (fun r5 H => ?_)
      refine lk_wp_seg (lo' := [.ref a0, .int x1, .int x2, .int x3, .int x4, .int x5, .retAddr 0, .retAddr 0]) (st' := [.int x1, .ref r5]) lk_M68 lk_s68_21_1 rfl ?_
      refine lk_wp_ra lk_i68_22 lk_M68 H ⟨fun H => ?_, fun r6 H => ?_⟩
      · refine lk_wp_seg (lo' := [.ref a0, .int x1, .int x2, .int x3, .int x4, .int x5, .null, .retAddr 0]) (st' := [.ref a0]) lk_M68 lk_s68_23_2 rfl ?_
        refine lk_wp_fR lk_i68_26 lk_M68 H (fun r7 H => ?_)
        refine lk_wp_seg (lo' := [.ref a0, .int x1, .int x2, .int x3, .int x4, .int x5, .null, .retAddr 0]) (st' := [.int x3, .ref r7]) lk_M68 lk_s68_29_1 rfl ?_
        refine lk_wp_ra lk_i68_30 lk_M68 H ⟨fun H => ?_, fun r8 H => ?_⟩
        · refine lk_wp_seg (lo' := [.ref a0, .int x1, .int x2, .int x3, .int x4, .int x5, .null, .null]) (st' := [.null]) lk_M68 lk_s68_31_2 rfl ?_
          exact H.elim
        · refine lk_wp_seg (lo' := [.ref a0, .int x1, .int x2, .int x3, .int x4, .int x5, .null, .ref r8]) (st' := [.null]) lk_M68 lk_s68_31_2 rfl ?_
          exact H.elim
      · refine lk_wp_seg (lo' := [.ref a0, .int x1, .int x2, .int x3, .int x4, .int x5, .ref r6, .retAddr 0]) (st' := [.ref a0]) lk_M68 lk_s68_23_2 rfl ?_
        refine lk_wp_fR lk_i68_26 lk_M68 H (fun r9 H => ?_)
        refine lk_wp_seg (lo' := [.ref a0, .int x1, .int x2, .int x3, .int x4, .int x5, .ref r6, .retAddr 0]) (st' := [.int x3, .ref r9]) lk_M68 lk_s68_29_1 rfl ?_
        refine lk_wp_ra lk_i68_30 lk_M68 H ⟨fun H => ?_, fun r10 H => ?_⟩
        · refine lk_wp_seg (lo' := [.ref a0, .int x1, .int x2, .int x3, .int x4, .int x5, .ref r6, .null]) (st' := [.ref r6]) lk_M68 lk_s68_31_2 rfl ?_
          refine lk_wp_fI lk_i68_35 lk_M68 H (fun r11 H => ?_)
          refine lk_wp_if_ne lk_i68_38 lk_M68 H (fun H => ?_) (fun H => ?_)
          · refine lk_wp_seg (lo' := [.ref a0, .int x1, .int x2, .int x3, .int x4, .int x5, .ref r6, .null]) (st' := [.int 1, .ref a0]) lk_M68 lk_s68_49_2 rfl ?_
            refine lk_wp_cv (as := [.int 1]) (r := []) (a := a0) lk_i68_51 lk_M68 rfl rfl rfl (Nat.le_of_ble_eq_true rfl) H (fun k14 H => lk_gi H (fun r13 h12 H => ?_))
            exact lk_wp_ret lk_i68_54 lk_M68 rfl H
          · refine lk_wp_seg (lo' := [.ref a0, .int x1, .int x2, .int x3, .int x4, .int x5, .ref r6, .null]) (st' := [.null]) lk_M68 lk_s68_41_1 rfl ?_
            exact H.elim
        · refine lk_wp_seg (lo' := [.ref a0, .int x1, .int x2, .int x3, .int x4, .int x5, .ref r6, .ref r10]) (st' := [.ref r6]) lk_M68 lk_s68_31_2 rfl ?_
          refine lk_wp_fI lk_i68_35 lk_M68 H (fun r15 H => ?_)
          refine lk_wp_if_ne lk_i68_38 lk_M68 H (fun H => ?_) (fun H => ?_)
          · refine lk_wp_seg (lo' := [.ref a0, .int x1, .int x2, .int x3, .int x4, .int x5, .ref r6, .ref r10]) (st' := [.int 1, .ref a0]) lk_M68 lk_s68_49_2 rfl ?_
            refine lk_wp_cv (as := [.int 1]) (r := []) (a := a0) lk_i68_51 lk_M68 rfl rfl rfl (Nat.le_of_ble_eq_true rfl) H (fun k18 H => lk_gi H (fun r17 h16 H => ?_))
            exact lk_wp_ret lk_i68_54 lk_M68 rfl H
          · refine lk_wp_seg (lo' := [.ref a0, .int x1, .int x2, .int x3, .int x4, .int x5, .ref r6, .ref r10]) (st' := [.ref r10]) lk_M68 lk_s68_41_1 rfl ?_
            refine lk_wp_fI lk_i68_43 lk_M68 H (fun r19 H => ?_)
            refine lk_wp_if_eq lk_i68_46 lk_M68 H (fun H => ?_) (fun H => ?_)
            · refine lk_wp_seg (lo' := [.ref a0, .int x1, .int x2, .int x3, .int x4, .int x5, .ref r6, .ref r10]) (st' := [.ref r6]) lk_M68 lk_s68_55_1 rfl ?_
              refine lk_wp_fI lk_i68_57 lk_M68 H (fun r20 H => ?_)
              refine lk_wp_seg (lo' := [.ref a0, .int x1, .int x2, .int x3, .int x4, .int x5, .ref r6, .ref r10]) (st' := [.ref r10, .int r20]) lk_M68 lk_s68_60_1 rfl ?_
              refine lk_wp_fI lk_i68_62 lk_M68 H (fun r21 H => ?_)
              refine lk_wp_ic_eq lk_i68_65 lk_M68 H (fun H => ?_) (fun H => ?_)
              · refine lk_wp_seg (lo' := [.ref a0, .int x1, .int x2, .int x3, .int x4, .int x5, .ref r6, .ref r10]) (st' := [.int x5, .int x2, .ref r6]) lk_M68 lk_s68_74_3 rfl ?_
                refine lk_wp_cv (as := [.int x2, .int x5]) (r := []) (a := r6) lk_i68_79 lk_M68 rfl rfl rfl (Nat.le_of_ble_eq_true rfl) H (fun k39 H => lk_gi H (fun r23 h22 H => ?_))
                refine lk_wp_if_eq lk_i68_82 lk_M68 H (fun H => ?_) (fun H => ?_)
                · refine lk_wp_seg (lo' := [.ref a0, .int x1, .int x2, .int x3, .int x4, .int x5, .ref r6, .ref r10]) (st' := [.int 2, .ref a0]) lk_M68 lk_s68_97_2 rfl ?_
                  refine lk_wp_cv (as := [.int 2]) (r := []) (a := a0) lk_i68_99 lk_M68 rfl rfl rfl (Nat.le_of_ble_eq_true rfl) H (fun k26 H => lk_gi H (fun r25 h24 H => ?_))
                  exact lk_wp_ret lk_i68_102 lk_M68 rfl H
                · refine lk_wp_seg (lo' := [.ref a0, .int x1, .int x2, .int x3, .int x4, .int x5, .ref r6, .ref r10]) (st' := [.int x5, .int x4, .ref r10]) lk_M68 lk_s68_85_3 rfl ?_
                  refine lk_wp_cv (as := [.int x4, .int x5]) (r := []) (a := r10) lk_i68_91 lk_M68 rfl rfl rfl (Nat.le_of_ble_eq_true rfl) H (fun k38 H => lk_gi H (fun r28 h27 H => ?_))
                  refine lk_wp_if_ne lk_i68_94 lk_M68 H (fun H => ?_) (fun H => ?_)
                  · refine lk_wp_seg (lo' := [.ref a0, .int x1, .int x2, .int x3, .int x4, .int x5, .ref r6, .ref r10]) (st' := [.ref r6]) lk_M68 lk_s68_103_1 rfl ?_
                    refine lk_wp_fR lk_i68_105 lk_M68 H (fun r29 H => ?_)
                    refine lk_wp_seg (lo' := [.ref a0, .int x1, .int x2, .int x3, .int x4, .int x5, .ref r6, .ref r10]) (st' := [.ref r10, .int x2, .ref r29]) lk_M68 lk_s68_108_2 rfl ?_
                    refine lk_wp_fR lk_i68_111 lk_M68 H (fun r30 H => ?_)
                    refine lk_wp_seg (lo' := [.ref a0, .int x1, .int x2, .int x3, .int x4, .int x5, .ref r6, .ref r10]) (st' := [.int x5, .int x4, .ref r30, .int x2, .ref r29]) lk_M68 lk_s68_114_2 rfl ?_
                    refine lk_wp_ac lk_i68_118 lk_M68 rfl rfl (Nat.le_of_ble_eq_true rfl) H (fun h31 H => ?_)
                    refine lk_wp_seg (lo' := [.ref a0, .int x1, .int x2, .int x3, .int x4, .int x5, .ref r6, .ref r10]) (st' := [.int x5, .ref a0]) lk_M68 lk_s68_121_2 rfl ?_
                    refine lk_wp_cv (as := [.int x5]) (r := []) (a := a0) lk_i68_124 lk_M68 rfl rfl rfl (Nat.le_of_ble_eq_true rfl) H (fun k34 H => lk_gi H (fun r33 h32 H => ?_))
                    exact lk_wp_ret lk_i68_127 lk_M68 rfl H
                  · refine lk_wp_seg (lo' := [.ref a0, .int x1, .int x2, .int x3, .int x4, .int x5, .ref r6, .ref r10]) (st' := [.int 2, .ref a0]) lk_M68 lk_s68_97_2 rfl ?_
                    refine lk_wp_cv (as := [.int 2]) (r := []) (a := a0) lk_i68_99 lk_M68 rfl rfl rfl (Nat.le_of_ble_eq_true rfl) H (fun k37 H => lk_gi H (fun r36 h35 H => ?_))
                    exact lk_wp_ret lk_i68_102 lk_M68 rfl H
              · refine lk_wp_seg (lo' := [.ref a0, .int x1, .int x2, .int x3, .int x4, .int x5, .ref r6, .ref r10]) (st' := [.int 5, .ref a0]) lk_M68 lk_s68_68_2 rfl ?_
                refine lk_wp_cv (as := [.int 5]) (r := []) (a := a0) lk_i68_70 lk_M68 rfl rfl rfl (Nat.le_of_ble_eq_true rfl) H (fun k42 H => lk_gi H (fun r41 h40 H => ?_))
                exact lk_wp_ret lk_i68_73 lk_M68 rfl H
            · refine lk_wp_seg (lo' := [.ref a0, .int x1, .int x2, .int x3, .int x4, .int x5, .ref r6, .ref r10]) (st' := [.int 1, .ref a0]) lk_M68 lk_s68_49_2 rfl ?_
              refine lk_wp_cv (as := [.int 1]) (r := []) (a := a0) lk_i68_51 lk_M68 rfl rfl rfl (Nat.le_of_ble_eq_true rfl) H (fun k45 H => lk_gi H (fun r44 h43 H => ?_))
              exact lk_wp_ret lk_i68_54 lk_M68 rfl H
    · refine lk_wp_seg (lo' := [.ref a0, .int x1, .int x2, .int x3, .int x4, .int x5, .retAddr 0, .retAddr 0]) (st' := [.int ((-1000001))]) lk_M68 lk_s68_14_1 rfl ?_
      exact lk_wp_ret lk_i68_16 lk_M68 rfl H
/-! LonelyDots.drop(I)I -/
theorem lk_M69 : lk_mt[69]? = some (yX11_drop, cX11_drop, 3, ((some FieldType.int))) := rfl
theorem lk_s69_0_1 : lk_seg 69 [(.iload_n 1, 1, (0, [], .null))] 0 = some 1 := by decide +kernel
theorem lk_i69_1 : lk_ins 69 1 = some (.invokestatic 53, 3, (0, [(0, 94)], .ref 40)) := lk_eqE_eq (by decide +kernel)
theorem lk_i69_4 : lk_ins 69 4 = some (.ifCond .ne 6, 3, (10, [], .null)) := lk_eqE_eq (by decide +kernel)
theorem lk_s69_10_1 : lk_seg 69 [(.aload_n 0, 1, (0, [], .null))] 10 = some 11 := by decide +kernel
theorem lk_i69_11 : lk_ins 69 11 = some (.getfield 11, 3, (0, [(10, 0)], .null)) := lk_eqE_eq (by decide +kernel)
theorem lk_s69_14_1 : lk_seg 69 [(.iload_n 1, 1, (0, [], .null))] 14 = some 15 := by decide +kernel
theorem lk_i69_15 : lk_ins 69 15 = some (.aaload, 1, (0, [], .null)) := lk_eqE_eq (by decide +kernel)
theorem lk_s69_16_2 : lk_seg 69 [(.astore_n 2, 1, (0, [], .null)), (.aload_n 2, 1, (0, [], .null))] 16 = some 18 := by decide +kernel
theorem lk_i69_18 : lk_ins 69 18 = some (.getfield 69, 3, (1, [(8, 0)], .null)) := lk_eqE_eq (by decide +kernel)
theorem lk_i69_21 : lk_ins 69 21 = some (.ifCond .eq 9, 3, (30, [], .null)) := lk_eqE_eq (by decide +kernel)
theorem lk_s69_30_2 : lk_seg 69 [(.aload_n 2, 1, (0, [], .null)), (.iconst 1, 1, (0, [], .int (1)))] 30 = some 32 := by decide +kernel
theorem lk_i69_32 : lk_ins 69 32 = some (.putfield 69, 3, (1, [(8, 0)], .null)) := lk_eqE_eq (by decide +kernel)
theorem lk_s69_35_2 : lk_seg 69 [(.aload_n 0, 1, (0, [], .null)), (.aload_n 2, 1, (0, [], .null))] 35 = some 37 := by decide +kernel
theorem lk_i69_37 : lk_ins 69 37 = some (.getfield 93, 3, (3, [(8, 0)], .null)) := lk_eqE_eq (by decide +kernel)
theorem lk_i69_40 : lk_ins 69 40 = some (.invokevirtual 66, 3, (1, [(10, 97)], .ref 43)) := lk_eqE_eq (by decide +kernel)
theorem lk_i69_43 : lk_ins 69 43 = some (.ireturn, 1, (0, [], .null)) := lk_eqE_eq (by decide +kernel)
theorem lk_s69_24_2 : lk_seg 69 [(.aload_n 0, 1, (0, [], .null)), (.iconst 1, 1, (0, [], .int (1)))] 24 = some 26 := by decide +kernel
theorem lk_i69_26 : lk_ins 69 26 = some (.invokevirtual 58, 3, (1, [(10, 96)], .ref 41)) := lk_eqE_eq (by decide +kernel)
theorem lk_i69_29 : lk_ins 69 29 = some (.ireturn, 1, (0, [], .null)) := lk_eqE_eq (by decide +kernel)
theorem lk_s69_7_1 : lk_seg 69 [(.ldc 57, 2, (0, [], .int (-1000001)))] 7 = some 9 := by decide +kernel
theorem lk_i69_9 : lk_ins 69 9 = some (.ireturn, 1, (0, [], .null)) := lk_eqE_eq (by decide +kernel)
set_option maxRecDepth 20000 in
theorem E_x_drop {X : lk_X} {d : Nat} {x1 : Int32} {a0 : Nat} {h : lk_H} {Q : Option Value → lk_H → Prop} (H : lk_wxi X d 94 [.int x1] h (fun r2 h1 => (¬ r2 = 0 → lk_fR h1 a0 0 [(10, 0)] (fun r3 => lk_ra h1 r3 x1 (False) (fun r4 => lk_fI h1 r4 1 [(8, 0)] (fun r5 => (r5 = 0 → lk_pf h1 r4 1 [(8, 0)] (.int 1) (fun h6 => lk_fI h6 r4 3 [(8, 0)] (fun r7 => lk_vc h6 a0 [(10, 97)] (fun k10 => lk_wxi X d k10 [.ref a0, .int r7] h6 (fun r9 h8 => Q (some (.int r9)) h8))))) ∧ (¬ r5 = 0 → lk_vc h1 a0 [(10, 96)] (fun k13 => lk_wxi X d k13 [.ref a0, .int 1] h1 (fun r12 h11 => Q (some (.int r12)) h11))))))) ∧ (r2 = 0 → Q (some (.int ((-1000001)))) h1))) : lk_wx X (d + 1) 69 [.ref a0, .int x1] h Q := by
  refine lk_enter (lo := [.ref a0, .int x1, .retAddr 0]) lk_M69 rfl (Nat.le_of_ble_eq_true rfl) ?_
  refine lk_wp_seg (lo' := [.ref a0, .int x1, .retAddr 0]) (st' := [.int x1]) lk_M69 lk_s69_0_1 rfl ?_
  refine lk_wp_cs (as := [.int x1]) (r := []) lk_i69_1 lk_M69 rfl rfl rfl rfl (Nat.le_of_ble_eq_true rfl) (lk_gi H (fun r2 h1 H => ?_))
  refine lk_wp_if_ne lk_i69_4 lk_M69 H (fun H => ?_) (fun H => ?_)
  · refine lk_wp_seg (lo' := [.ref a0, .int x1, .retAddr 0]) (st' := [.ref a0]) lk_M69 lk_s69_10_1 rfl ?_
    refine lk_wp_fR lk_i69_11 lk_M69 H (fun r3 H => ?_)
    refine lk_wp_seg (lo' := [.ref a0, .int x1, .retAddr 0]) (st' := [.int x1, .ref r3]) lk_M69 lk_s69_14_1 rfl ?_
    refine lk_wp_ra lk_i69_15 lk_M69 H ⟨fun H => ?_, fun r4 H => ?_⟩
    · refine lk_wp_seg (lo' := [.ref a0, .int x1, .null]) (st' := [.null]) lk_M69 lk_s69_16_2 rfl ?_
      exact H.elim
    · refine lk_wp_seg (lo' := [.ref a0, .int x1, .ref r4]) (st' := [.ref r4]) lk_M69 lk_s69_16_2 rfl ?_
      refine lk_wp_fI lk_i69_18 lk_M69 H (fun r5 H => ?_)
      refine lk_wp_if_eq lk_i69_21 lk_M69 H (fun H => ?_) (fun H => ?_)
      · refine lk_wp_seg (lo' := [.ref a0, .int x1, .ref r4]) (st' := [.int 1, .ref r4]) lk_M69 lk_s69_30_2 rfl ?_
        refine lk_wp_pf lk_i69_32 lk_M69 H (fun h6 H => ?_)
        refine lk_wp_seg (lo' := [.ref a0, .int x1, .ref r4]) (st' := [.ref r4, .ref a0]) lk_M69 lk_s69_35_2 rfl ?_
        refine lk_wp_fI lk_i69_37 lk_M69 H (fun r7 H => ?_)
        refine lk_wp_cv (as := [.int r7]) (r := []) (a := a0) lk_i69_40 lk_M69 rfl rfl rfl (Nat.le_of_ble_eq_true rfl) H (fun k10 H => lk_gi H (fun r9 h8 H => ?_))
        exact lk_wp_ret lk_i69_43 lk_M69 rfl H
      · refine lk_wp_seg (lo' := [.ref a0, .int x1, .ref r4]) (st' := [.int 1, .ref a0]) lk_M69 lk_s69_24_2 rfl ?_
        refine lk_wp_cv (as := [.int 1]) (r := []) (a := a0) lk_i69_26 lk_M69 rfl rfl rfl (Nat.le_of_ble_eq_true rfl) H (fun k13 H => lk_gi H (fun r12 h11 H => ?_))
        exact lk_wp_ret lk_i69_29 lk_M69 rfl H
  · refine lk_wp_seg (lo' := [.ref a0, .int x1, .retAddr 0]) (st' := [.int ((-1000001))]) lk_M69 lk_s69_7_1 rfl ?_
    exact lk_wp_ret lk_i69_9 lk_M69 rfl H
/-! LonelyDots.order(IIII)I -/
theorem lk_M70 : lk_mt[70]? = some (yX11_order, cX11_order, 7, ((some FieldType.int))) := rfl
theorem lk_s70_0_1 : lk_seg 70 [(.iload_n 1, 1, (0, [], .null))] 0 = some 1 := by decide +kernel
theorem lk_i70_1 : lk_ins 70 1 = some (.invokestatic 96, 3, (0, [(0, 95)], .ref 46)) := lk_eqE_eq (by decide +kernel)
theorem lk_i70_4 : lk_ins 70 4 = some (.ifCond .eq 23, 3, (27, [], .null)) := lk_eqE_eq (by decide +kernel)
theorem lk_s70_27_1 : lk_seg 70 [(.ldc 57, 2, (0, [], .int (-1000001)))] 27 = some 29 := by decide +kernel
theorem lk_i70_29 : lk_ins 70 29 = some (.ireturn, 1, (0, [], .null)) := lk_eqE_eq (by decide +kernel)
theorem lk_s70_7_1 : lk_seg 70 [(.iload_n 2, 1, (0, [], .null))] 7 = some 8 := by decide +kernel
theorem lk_i70_8 : lk_ins 70 8 = some (.invokestatic 53, 3, (0, [(0, 94)], .ref 40)) := lk_eqE_eq (by decide +kernel)
theorem lk_i70_11 : lk_ins 70 11 = some (.ifCond .eq 16, 3, (27, [], .null)) := lk_eqE_eq (by decide +kernel)
theorem lk_s70_14_2 : lk_seg 70 [(.iload 4, 2, (0, [], .null)), (.iconst 1, 1, (0, [], .int (1)))] 14 = some 17 := by decide +kernel
theorem lk_i70_17 : lk_ins 70 17 = some (.if_icmp .lt 10, 3, (27, [], .null)) := lk_eqE_eq (by decide +kernel)
theorem lk_s70_20_2 : lk_seg 70 [(.iload 4, 2, (0, [], .null)), (.bipush 16, 2, (0, [], .int (16)))] 20 = some 24 := by decide +kernel
theorem lk_i70_24 : lk_ins 70 24 = some (.if_icmp .le 6, 3, (30, [], .null)) := lk_eqE_eq (by decide +kernel)
theorem lk_s70_30_4 : lk_seg 70 [(.aload_n 0, 1, (0, [], .null)), (.iload_n 2, 1, (0, [], .null)), (.iload_n 3, 1, (0, [], .null)), (.iload 4, 2, (0, [], .null))] 30 = some 35 := by decide +kernel
theorem lk_i70_35 : lk_ins 70 35 = some (.invokevirtual 99, 3, (1, [(10, 99)], .ref 47)) := lk_eqE_eq (by decide +kernel)
theorem lk_s70_38_2 : lk_seg 70 [(.istore 5, 2, (0, [], .null)), (.iload 5, 2, (0, [], .null))] 38 = some 42 := by decide +kernel
theorem lk_i70_42 : lk_ins 70 42 = some (.ifCond .eq 10, 3, (52, [], .null)) := lk_eqE_eq (by decide +kernel)
theorem lk_s70_52_1 : lk_seg 70 [(.aload_n 0, 1, (0, [], .null))] 52 = some 53 := by decide +kernel
theorem lk_i70_53 : lk_ins 70 53 = some (.getfield 11, 3, (0, [(10, 0)], .null)) := lk_eqE_eq (by decide +kernel)
theorem lk_s70_56_1 : lk_seg 70 [(.iload_n 2, 1, (0, [], .null))] 56 = some 57 := by decide +kernel
theorem lk_i70_57 : lk_ins 70 57 = some (.aaload, 1, (0, [], .null)) := lk_eqE_eq (by decide +kernel)
theorem lk_s70_58_2 : lk_seg 70 [(.iload_n 3, 1, (0, [], .null)), (.iload 4, 2, (0, [], .null))] 58 = some 61 := by decide +kernel
theorem lk_i70_61 : lk_ins 70 61 = some (.invokevirtual 103, 3, (1, [(8, 54)], .ref 48)) := lk_eqE_eq (by decide +kernel)
theorem lk_s70_64_2 : lk_seg 70 [(.astore 6, 2, (0, [], .null)), (.aload 6, 2, (0, [], .null))] 64 = some 68 := by decide +kernel
theorem lk_i70_68 : lk_ins 70 68 = some (.invokestatic 107, 3, (0, [(0, 29)], .ref 49)) := lk_eqE_eq (by decide +kernel)
theorem lk_i70_71 : lk_ins 70 71 = some (.ifCond .eq 16, 3, (87, [], .null)) := lk_eqE_eq (by decide +kernel)
theorem lk_s70_87_1 : lk_seg 70 [(.ldc 57, 2, (0, [], .int (-1000001)))] 87 = some 89 := by decide +kernel
theorem lk_i70_89 : lk_ins 70 89 = some (.ireturn, 1, (0, [], .null)) := lk_eqE_eq (by decide +kernel)
theorem lk_s70_74_3 : lk_seg 70 [(.aload_n 0, 1, (0, [], .null)), (.iload_n 1, 1, (0, [], .null)), (.aload 6, 2, (0, [], .null))] 74 = some 78 := by decide +kernel
theorem lk_i70_78 : lk_ins 70 78 = some (.invokestatic 113, 3, (0, [(0, 28)], .ref 50)) := lk_eqE_eq (by decide +kernel)
theorem lk_i70_81 : lk_ins 70 81 = some (.invokevirtual 117, 3, (1, [(10, 98)], .ref 51)) := lk_eqE_eq (by decide +kernel)
theorem lk_s70_84_1 : lk_seg 70 [(.goto 5, 3, (89, [], .null))] 84 = some 89 := by decide +kernel
theorem lk_s70_45_2 : lk_seg 70 [(.aload_n 0, 1, (0, [], .null)), (.iload 5, 2, (0, [], .null))] 45 = some 48 := by decide +kernel
theorem lk_i70_48 : lk_ins 70 48 = some (.invokevirtual 58, 3, (1, [(10, 96)], .ref 41)) := lk_eqE_eq (by decide +kernel)
theorem lk_i70_51 : lk_ins 70 51 = some (.ireturn, 1, (0, [], .null)) := lk_eqE_eq (by decide +kernel)
set_option maxRecDepth 20000 in
theorem E_x_order {X : lk_X} {d : Nat} {x1 x2 x3 x4 : Int32} {a0 : Nat} {h : lk_H} {Q : Option Value → lk_H → Prop} (H : lk_wxi X d 95 [.int x1] h (fun r2 h1 => (r2 = 0 → Q (some (.int ((-1000001)))) h1) ∧ (¬ r2 = 0 → lk_wxi X d 94 [.int x2] h1 (fun r4 h3 => (r4 = 0 → Q (some (.int ((-1000001)))) h3) ∧ (¬ r4 = 0 → (x4 < 1 → Q (some (.int ((-1000001)))) h3) ∧ (¬ x4 < 1 → (x4 ≤ 16 → lk_vc h3 a0 [(10, 99)] (fun k35 => lk_wxi X d k35 [.ref a0, .int x2, .int x3, .int x4] h3 (fun r6 h5 => (r6 = 0 → lk_fR h5 a0 0 [(10, 0)] (fun r7 => lk_ra h5 r7 x2 (False) (fun r8 => lk_vc h5 r8 [(8, 54)] (fun k31 => lk_wxr X d k31 [.ref r8, .int x3, .int x4] h5 (fun h9 => lk_wxi X d 29 [.null] h9 (fun r12 h11 => (r12 = 0 → Q (some (.int ((-1000001)))) h11) ∧ (¬ r12 = 0 → lk_wxr X d 28 [.null] h11 (fun h13 => lk_vc h13 a0 [(10, 98)] (fun k17 => lk_wxi X d k17 [.ref a0, .int x1, .null] h13 (fun r16 h15 => Q (some (.int r16)) h15))) (fun r14 h13 => lk_vc h13 a0 [(10, 98)] (fun k20 => lk_wxi X d k20 [.ref a0, .int x1, .ref r14] h13 (fun r19 h18 => Q (some (.int r19)) h18)))))) (fun r10 h9 => lk_wxi X d 29 [.ref r10] h9 (fun r22 h21 => (r22 = 0 → Q (some (.int ((-1000001)))) h21) ∧ (¬ r22 = 0 → lk_wxr X d 28 [.ref r10] h21 (fun h23 => lk_vc h23 a0 [(10, 98)] (fun k27 => lk_wxi X d k27 [.ref a0, .int x1, .null] h23 (fun r26 h25 => Q (some (.int r26)) h25))) (fun r24 h23 => lk_vc h23 a0 [(10, 98)] (fun k30 => lk_wxi X d k30 [.ref a0, .int x1, .ref r24] h23 (fun r29 h28 => Q (some (.int r29)) h28)))))))))) ∧ (¬ r6 = 0 → lk_vc h5 a0 [(10, 96)] (fun k34 => lk_wxi X d k34 [.ref a0, .int r6] h5 (fun r33 h32 => Q (some (.int r33)) h32)))))) ∧ (¬ x4 ≤ 16 → Q (some (.int ((-1000001)))) h3))))))) : lk_wx X (d + 1) 70 [.ref a0, .int x1, .int x2, .int x3, .int x4] h Q := by
  refine lk_enter (lo := [.ref a0, .int x1, .int x2, .int x3, .int x4, .retAddr 0, .retAddr 0]) lk_M70 rfl (Nat.le_of_ble_eq_true rfl) ?_
  refine lk_wp_seg (lo' := [.ref a0, .int x1, .int x2, .int x3, .int x4, .retAddr 0, .retAddr 0]) (st' := [.int x1]) lk_M70 lk_s70_0_1 rfl ?_
  refine lk_wp_cs (as := [.int x1]) (r := []) lk_i70_1 lk_M70 rfl rfl rfl rfl (Nat.le_of_ble_eq_true rfl) (lk_gi H (fun r2 h1 H => ?_))
  refine lk_wp_if_eq lk_i70_4 lk_M70 H (fun H => ?_) (fun H => ?_)
  · refine lk_wp_seg (lo' := [.ref a0, .int x1, .int x2, .int x3, .int x4, .retAddr 0, .retAddr 0]) (st' := [.int ((-1000001))]) lk_M70 lk_s70_27_1 rfl ?_
    exact lk_wp_ret lk_i70_29 lk_M70 rfl H
  · refine lk_wp_seg (lo' := [.ref a0, .int x1, .int x2, .int x3, .int x4, .retAddr 0, .retAddr 0]) (st' := [.int x2]) lk_M70 lk_s70_7_1 rfl ?_
    refine lk_wp_cs (as := [.int x2]) (r := []) lk_i70_8 lk_M70 rfl rfl rfl rfl (Nat.le_of_ble_eq_true rfl) (lk_gi H (fun r4 h3 H => ?_))
    refine lk_wp_if_eq lk_i70_11 lk_M70 H (fun H => ?_) (fun H => ?_)
    · refine lk_wp_seg (lo' := [.ref a0, .int x1, .int x2, .int x3, .int x4, .retAddr 0, .retAddr 0]) (st' := [.int ((-1000001))]) lk_M70 lk_s70_27_1 rfl ?_
      exact lk_wp_ret lk_i70_29 lk_M70 rfl H
    · refine lk_wp_seg (lo' := [.ref a0, .int x1, .int x2, .int x3, .int x4, .retAddr 0, .retAddr 0]) (st' := [.int 1, .int x4]) lk_M70 lk_s70_14_2 rfl ?_
      refine lk_wp_ic_lt lk_i70_17 lk_M70 H (fun H => ?_) (fun H => ?_)
      · refine lk_wp_seg (lo' := [.ref a0, .int x1, .int x2, .int x3, .int x4, .retAddr 0, .retAddr 0]) (st' := [.int ((-1000001))]) lk_M70 lk_s70_27_1 rfl ?_
        exact lk_wp_ret lk_i70_29 lk_M70 rfl H
      · refine lk_wp_seg (lo' := [.ref a0, .int x1, .int x2, .int x3, .int x4, .retAddr 0, .retAddr 0]) (st' := [.int 16, .int x4]) lk_M70 lk_s70_20_2 rfl ?_
        refine lk_wp_ic_le lk_i70_24 lk_M70 H (fun H => ?_) (fun H => ?_)
        · refine lk_wp_seg (lo' := [.ref a0, .int x1, .int x2, .int x3, .int x4, .retAddr 0, .retAddr 0]) (st' := [.int x4, .int x3, .int x2, .ref a0]) lk_M70 lk_s70_30_4 rfl ?_
          refine lk_wp_cv (as := [.int x2, .int x3, .int x4]) (r := []) (a := a0) lk_i70_35 lk_M70 rfl rfl rfl (Nat.le_of_ble_eq_true rfl) H (fun k35 H => lk_gi H (fun r6 h5 H => ?_))
          refine lk_wp_seg (lo' := [.ref a0, .int x1, .int x2, .int x3, .int x4, .int r6, .retAddr 0]) (st' := [.int r6]) lk_M70 lk_s70_38_2 rfl ?_
          refine lk_wp_if_eq lk_i70_42 lk_M70 H (fun H => ?_) (fun H => ?_)
          · refine lk_wp_seg (lo' := [.ref a0, .int x1, .int x2, .int x3, .int x4, .int r6, .retAddr 0]) (st' := [.ref a0]) lk_M70 lk_s70_52_1 rfl ?_
            refine lk_wp_fR lk_i70_53 lk_M70 H (fun r7 H => ?_)
            refine lk_wp_seg (lo' := [.ref a0, .int x1, .int x2, .int x3, .int x4, .int r6, .retAddr 0]) (st' := [.int x2, .ref r7]) lk_M70 lk_s70_56_1 rfl ?_
            refine lk_wp_ra lk_i70_57 lk_M70 H ⟨fun H => ?_, fun r8 H => ?_⟩
            · refine lk_wp_seg (lo' := [.ref a0, .int x1, .int x2, .int x3, .int x4, .int r6, .retAddr 0]) (st' := [.int x4, .int x3, .null]) lk_M70 lk_s70_58_2 rfl ?_
              exact H.elim
            · refine lk_wp_seg (lo' := [.ref a0, .int x1, .int x2, .int x3, .int x4, .int r6, .retAddr 0]) (st' := [.int x4, .int x3, .ref r8]) lk_M70 lk_s70_58_2 rfl ?_
              refine lk_wp_cv (as := [.int x3, .int x4]) (r := []) (a := r8) lk_i70_61 lk_M70 rfl rfl rfl (Nat.le_of_ble_eq_true rfl) H (fun k31 H => lk_gr H (fun h9 H => ?_) (fun r10 h9 H => ?_))
              · refine lk_wp_seg (lo' := [.ref a0, .int x1, .int x2, .int x3, .int x4, .int r6, .null]) (st' := [.null]) lk_M70 lk_s70_64_2 rfl ?_
                refine lk_wp_cs (as := [.null]) (r := []) lk_i70_68 lk_M70 rfl rfl rfl rfl (Nat.le_of_ble_eq_true rfl) (lk_gi H (fun r12 h11 H => ?_))
                refine lk_wp_if_eq lk_i70_71 lk_M70 H (fun H => ?_) (fun H => ?_)
                · refine lk_wp_seg (lo' := [.ref a0, .int x1, .int x2, .int x3, .int x4, .int r6, .null]) (st' := [.int ((-1000001))]) lk_M70 lk_s70_87_1 rfl ?_
                  exact lk_wp_ret lk_i70_89 lk_M70 rfl H
                · refine lk_wp_seg (lo' := [.ref a0, .int x1, .int x2, .int x3, .int x4, .int r6, .null]) (st' := [.null, .int x1, .ref a0]) lk_M70 lk_s70_74_3 rfl ?_
                  refine lk_wp_cs (as := [.null]) (r := [.int x1, .ref a0]) lk_i70_78 lk_M70 rfl rfl rfl rfl (Nat.le_of_ble_eq_true rfl) (lk_gr H (fun h13 H => ?_) (fun r14 h13 H => ?_))
                  · refine lk_wp_cv (as := [.int x1, .null]) (r := []) (a := a0) lk_i70_81 lk_M70 rfl rfl rfl (Nat.le_of_ble_eq_true rfl) H (fun k17 H => lk_gi H (fun r16 h15 H => ?_))
                    refine lk_wp_seg (lo' := [.ref a0, .int x1, .int x2, .int x3, .int x4, .int r6, .null]) (st' := [.int r16]) lk_M70 lk_s70_84_1 rfl ?_
                    exact lk_wp_ret lk_i70_89 lk_M70 rfl H
                  · refine lk_wp_cv (as := [.int x1, .ref r14]) (r := []) (a := a0) lk_i70_81 lk_M70 rfl rfl rfl (Nat.le_of_ble_eq_true rfl) H (fun k20 H => lk_gi H (fun r19 h18 H => ?_))
                    refine lk_wp_seg (lo' := [.ref a0, .int x1, .int x2, .int x3, .int x4, .int r6, .null]) (st' := [.int r19]) lk_M70 lk_s70_84_1 rfl ?_
                    exact lk_wp_ret lk_i70_89 lk_M70 rfl H
              · refine lk_wp_seg (lo' := [.ref a0, .int x1, .int x2, .int x3, .int x4, .int r6, .ref r10]) (st' := [.ref r10]) lk_M70 lk_s70_64_2 rfl ?_
                refine lk_wp_cs (as := [.ref r10]) (r := []) lk_i70_68 lk_M70 rfl rfl rfl rfl (Nat.le_of_ble_eq_true rfl) (lk_gi H (fun r22 h21 H => ?_))
                refine lk_wp_if_eq lk_i70_71 lk_M70 H (fun H => ?_) (fun H => ?_)
                · refine lk_wp_seg (lo' := [.ref a0, .int x1, .int x2, .int x3, .int x4, .int r6, .ref r10]) (st' := [.int ((-1000001))]) lk_M70 lk_s70_87_1 rfl ?_
                  exact lk_wp_ret lk_i70_89 lk_M70 rfl H
                · refine lk_wp_seg (lo' := [.ref a0, .int x1, .int x2, .int x3, .int x4, .int r6, .ref r10]) (st' := [.ref r10, .int x1, .ref a0]) lk_M70 lk_s70_74_3 rfl ?_
                  refine lk_wp_cs (as := [.ref r10]) (r := [.int x1, .ref a0]) lk_i70_78 lk_M70 rfl rfl rfl rfl (Nat.le_of_ble_eq_true rfl) (lk_gr H (fun h23 H => ?_) (fun r24 h23 H => ?_))
                  · refine lk_wp_cv (as := [.int x1, .null]) (r := []) (a := a0) lk_i70_81 lk_M70 rfl rfl rfl (Nat.le_of_ble_eq_true rfl) H (fun k27 H => lk_gi H (fun r26 h25 H => ?_))
                    refine lk_wp_seg (lo' := [.ref a0, .int x1, .int x2, .int x3, .int x4, .int r6, .ref r10]) (st' := [.int r26]) lk_M70 lk_s70_84_1 rfl ?_
                    exact lk_wp_ret lk_i70_89 lk_M70 rfl H
                  · refine lk_wp_cv (as := [.int x1, .ref r24]) (r := []) (a := a0) lk_i70_81 lk_M70 rfl rfl rfl (Nat.le_of_ble_eq_true rfl) H (fun k30 H => lk_gi H (fun r29 h28 H => ?_))
                    refine lk_wp_seg (lo' := [.ref a0, .int x1, .int x2, .int x3, .int x4, .int r6, .ref r10]) (st' := [.int r29]) lk_M70 lk_s70_84_1 rfl ?_
                    exact lk_wp_ret lk_i70_89 lk_M70 rfl H
          · refine lk_wp_seg (lo' := [.ref a0, .int x1, .int x2, .int x3, .int x4, .int r6, .retAddr 0]) (st' := [.int r6, .ref a0]) lk_M70 lk_s70_45_2 rfl ?_
            refine lk_wp_cv (as := [.int r6]) (r := []) (a := a0) lk_i70_48 lk_M70 rfl rfl rfl (Nat.le_of_ble_eq_true rfl) H (fun k34 H => lk_gi H (fun r33 h32 H => ?_))
            exact lk_wp_ret lk_i70_51 lk_M70 rfl H
        · refine lk_wp_seg (lo' := [.ref a0, .int x1, .int x2, .int x3, .int x4, .retAddr 0, .retAddr 0]) (st' := [.int ((-1000001))]) lk_M70 lk_s70_27_1 rfl ?_
          exact lk_wp_ret lk_i70_29 lk_M70 rfl H
/-! LonelyDots.marks(IIII)I -/
theorem lk_M71 : lk_mt[71]? = some (yX11_marks, cX11_marks, 7, ((some FieldType.int))) := rfl
theorem lk_s71_0_1 : lk_seg 71 [(.iload_n 1, 1, (0, [], .null))] 0 = some 1 := by decide +kernel
theorem lk_i71_1 : lk_ins 71 1 = some (.invokestatic 96, 3, (0, [(0, 95)], .ref 46)) := lk_eqE_eq (by decide +kernel)
theorem lk_i71_4 : lk_ins 71 4 = some (.ifCond .eq 23, 3, (27, [], .null)) := lk_eqE_eq (by decide +kernel)
theorem lk_s71_27_1 : lk_seg 71 [(.ldc 57, 2, (0, [], .int (-1000001)))] 27 = some 29 := by decide +kernel
theorem lk_i71_29 : lk_ins 71 29 = some (.ireturn, 1, (0, [], .null)) := lk_eqE_eq (by decide +kernel)
theorem lk_s71_7_1 : lk_seg 71 [(.iload_n 2, 1, (0, [], .null))] 7 = some 8 := by decide +kernel
theorem lk_i71_8 : lk_ins 71 8 = some (.invokestatic 53, 3, (0, [(0, 94)], .ref 40)) := lk_eqE_eq (by decide +kernel)
theorem lk_i71_11 : lk_ins 71 11 = some (.ifCond .eq 16, 3, (27, [], .null)) := lk_eqE_eq (by decide +kernel)
theorem lk_s71_14_2 : lk_seg 71 [(.iload 4, 2, (0, [], .null)), (.iconst 1, 1, (0, [], .int (1)))] 14 = some 17 := by decide +kernel
theorem lk_i71_17 : lk_ins 71 17 = some (.if_icmp .lt 10, 3, (27, [], .null)) := lk_eqE_eq (by decide +kernel)
theorem lk_s71_20_2 : lk_seg 71 [(.iload 4, 2, (0, [], .null)), (.bipush 12, 2, (0, [], .int (12)))] 20 = some 24 := by decide +kernel
theorem lk_i71_24 : lk_ins 71 24 = some (.if_icmp .le 6, 3, (30, [], .null)) := lk_eqE_eq (by decide +kernel)
theorem lk_s71_30_4 : lk_seg 71 [(.aload_n 0, 1, (0, [], .null)), (.iload_n 2, 1, (0, [], .null)), (.iload_n 3, 1, (0, [], .null)), (.iload 4, 2, (0, [], .null))] 30 = some 35 := by decide +kernel
theorem lk_i71_35 : lk_ins 71 35 = some (.invokevirtual 99, 3, (1, [(10, 99)], .ref 47)) := lk_eqE_eq (by decide +kernel)
theorem lk_s71_38_2 : lk_seg 71 [(.istore 5, 2, (0, [], .null)), (.iload 5, 2, (0, [], .null))] 38 = some 42 := by decide +kernel
theorem lk_i71_42 : lk_ins 71 42 = some (.ifCond .eq 10, 3, (52, [], .null)) := lk_eqE_eq (by decide +kernel)
theorem lk_s71_52_1 : lk_seg 71 [(.aload_n 0, 1, (0, [], .null))] 52 = some 53 := by decide +kernel
theorem lk_i71_53 : lk_ins 71 53 = some (.getfield 11, 3, (0, [(10, 0)], .null)) := lk_eqE_eq (by decide +kernel)
theorem lk_s71_56_1 : lk_seg 71 [(.iload_n 2, 1, (0, [], .null))] 56 = some 57 := by decide +kernel
theorem lk_i71_57 : lk_ins 71 57 = some (.aaload, 1, (0, [], .null)) := lk_eqE_eq (by decide +kernel)
theorem lk_s71_58_2 : lk_seg 71 [(.iload_n 3, 1, (0, [], .null)), (.iload 4, 2, (0, [], .null))] 58 = some 61 := by decide +kernel
theorem lk_i71_61 : lk_ins 71 61 = some (.invokevirtual 103, 3, (1, [(8, 54)], .ref 48)) := lk_eqE_eq (by decide +kernel)
theorem lk_s71_64_2 : lk_seg 71 [(.astore 6, 2, (0, [], .null)), (.aload 6, 2, (0, [], .null))] 64 = some 68 := by decide +kernel
theorem lk_i71_68 : lk_ins 71 68 = some (.invokestatic 121, 3, (0, [(0, 13)], .ref 52)) := lk_eqE_eq (by decide +kernel)
theorem lk_i71_71 : lk_ins 71 71 = some (.ifCond .eq 16, 3, (87, [], .null)) := lk_eqE_eq (by decide +kernel)
theorem lk_s71_87_1 : lk_seg 71 [(.ldc 57, 2, (0, [], .int (-1000001)))] 87 = some 89 := by decide +kernel
theorem lk_i71_89 : lk_ins 71 89 = some (.ireturn, 1, (0, [], .null)) := lk_eqE_eq (by decide +kernel)
theorem lk_s71_74_3 : lk_seg 71 [(.aload_n 0, 1, (0, [], .null)), (.iload_n 1, 1, (0, [], .null)), (.aload 6, 2, (0, [], .null))] 74 = some 78 := by decide +kernel
theorem lk_i71_78 : lk_ins 71 78 = some (.invokestatic 126, 3, (0, [(0, 12)], .ref 53)) := lk_eqE_eq (by decide +kernel)
theorem lk_i71_81 : lk_ins 71 81 = some (.invokevirtual 117, 3, (1, [(10, 98)], .ref 51)) := lk_eqE_eq (by decide +kernel)
theorem lk_s71_84_1 : lk_seg 71 [(.goto 5, 3, (89, [], .null))] 84 = some 89 := by decide +kernel
theorem lk_s71_45_2 : lk_seg 71 [(.aload_n 0, 1, (0, [], .null)), (.iload 5, 2, (0, [], .null))] 45 = some 48 := by decide +kernel
theorem lk_i71_48 : lk_ins 71 48 = some (.invokevirtual 58, 3, (1, [(10, 96)], .ref 41)) := lk_eqE_eq (by decide +kernel)
theorem lk_i71_51 : lk_ins 71 51 = some (.ireturn, 1, (0, [], .null)) := lk_eqE_eq (by decide +kernel)
set_option maxRecDepth 20000 in
theorem E_x_marks {X : lk_X} {d : Nat} {x1 x2 x3 x4 : Int32} {a0 : Nat} {h : lk_H} {Q : Option Value → lk_H → Prop} (H : lk_wxi X d 95 [.int x1] h (fun r2 h1 => (r2 = 0 → Q (some (.int ((-1000001)))) h1) ∧ (¬ r2 = 0 → lk_wxi X d 94 [.int x2] h1 (fun r4 h3 => (r4 = 0 → Q (some (.int ((-1000001)))) h3) ∧ (¬ r4 = 0 → (x4 < 1 → Q (some (.int ((-1000001)))) h3) ∧ (¬ x4 < 1 → (x4 ≤ 12 → lk_vc h3 a0 [(10, 99)] (fun k35 => lk_wxi X d k35 [.ref a0, .int x2, .int x3, .int x4] h3 (fun r6 h5 => (r6 = 0 → lk_fR h5 a0 0 [(10, 0)] (fun r7 => lk_ra h5 r7 x2 (False) (fun r8 => lk_vc h5 r8 [(8, 54)] (fun k31 => lk_wxr X d k31 [.ref r8, .int x3, .int x4] h5 (fun h9 => lk_wxi X d 13 [.null] h9 (fun r12 h11 => (r12 = 0 → Q (some (.int ((-1000001)))) h11) ∧ (¬ r12 = 0 → lk_wxr X d 12 [.null] h11 (fun h13 => lk_vc h13 a0 [(10, 98)] (fun k17 => lk_wxi X d k17 [.ref a0, .int x1, .null] h13 (fun r16 h15 => Q (some (.int r16)) h15))) (fun r14 h13 => lk_vc h13 a0 [(10, 98)] (fun k20 => lk_wxi X d k20 [.ref a0, .int x1, .ref r14] h13 (fun r19 h18 => Q (some (.int r19)) h18)))))) (fun r10 h9 => lk_wxi X d 13 [.ref r10] h9 (fun r22 h21 => (r22 = 0 → Q (some (.int ((-1000001)))) h21) ∧ (¬ r22 = 0 → lk_wxr X d 12 [.ref r10] h21 (fun h23 => lk_vc h23 a0 [(10, 98)] (fun k27 => lk_wxi X d k27 [.ref a0, .int x1, .null] h23 (fun r26 h25 => Q (some (.int r26)) h25))) (fun r24 h23 => lk_vc h23 a0 [(10, 98)] (fun k30 => lk_wxi X d k30 [.ref a0, .int x1, .ref r24] h23 (fun r29 h28 => Q (some (.int r29)) h28)))))))))) ∧ (¬ r6 = 0 → lk_vc h5 a0 [(10, 96)] (fun k34 => lk_wxi X d k34 [.ref a0, .int r6] h5 (fun r33 h32 => Q (some (.int r33)) h32)))))) ∧ (¬ x4 ≤ 12 → Q (some (.int ((-1000001)))) h3))))))) : lk_wx X (d + 1) 71 [.ref a0, .int x1, .int x2, .int x3, .int x4] h Q := by
  refine lk_enter (lo := [.ref a0, .int x1, .int x2, .int x3, .int x4, .retAddr 0, .retAddr 0]) lk_M71 rfl (Nat.le_of_ble_eq_true rfl) ?_
  refine lk_wp_seg (lo' := [.ref a0, .int x1, .int x2, .int x3, .int x4, .retAddr 0, .retAddr 0]) (st' := [.int x1]) lk_M71 lk_s71_0_1 rfl ?_
  refine lk_wp_cs (as := [.int x1]) (r := []) lk_i71_1 lk_M71 rfl rfl rfl rfl (Nat.le_of_ble_eq_true rfl) (lk_gi H (fun r2 h1 H => ?_))
  refine lk_wp_if_eq lk_i71_4 lk_M71 H (fun H => ?_) (fun H => ?_)
  · refine lk_wp_seg (lo' := [.ref a0, .int x1, .int x2, .int x3, .int x4, .retAddr 0, .retAddr 0]) (st' := [.int ((-1000001))]) lk_M71 lk_s71_27_1 rfl ?_
    exact lk_wp_ret lk_i71_29 lk_M71 rfl H
  · refine lk_wp_seg (lo' := [.ref a0, .int x1, .int x2, .int x3, .int x4, .retAddr 0, .retAddr 0]) (st' := [.int x2]) lk_M71 lk_s71_7_1 rfl ?_
    refine lk_wp_cs (as := [.int x2]) (r := []) lk_i71_8 lk_M71 rfl rfl rfl rfl (Nat.le_of_ble_eq_true rfl) (lk_gi H (fun r4 h3 H => ?_))
    refine lk_wp_if_eq lk_i71_11 lk_M71 H (fun H => ?_) (fun H => ?_)
    · refine lk_wp_seg (lo' := [.ref a0, .int x1, .int x2, .int x3, .int x4, .retAddr 0, .retAddr 0]) (st' := [.int ((-1000001))]) lk_M71 lk_s71_27_1 rfl ?_
      exact lk_wp_ret lk_i71_29 lk_M71 rfl H
    · refine lk_wp_seg (lo' := [.ref a0, .int x1, .int x2, .int x3, .int x4, .retAddr 0, .retAddr 0]) (st' := [.int 1, .int x4]) lk_M71 lk_s71_14_2 rfl ?_
      refine lk_wp_ic_lt lk_i71_17 lk_M71 H (fun H => ?_) (fun H => ?_)
      · refine lk_wp_seg (lo' := [.ref a0, .int x1, .int x2, .int x3, .int x4, .retAddr 0, .retAddr 0]) (st' := [.int ((-1000001))]) lk_M71 lk_s71_27_1 rfl ?_
        exact lk_wp_ret lk_i71_29 lk_M71 rfl H
      · refine lk_wp_seg (lo' := [.ref a0, .int x1, .int x2, .int x3, .int x4, .retAddr 0, .retAddr 0]) (st' := [.int 12, .int x4]) lk_M71 lk_s71_20_2 rfl ?_
        refine lk_wp_ic_le lk_i71_24 lk_M71 H (fun H => ?_) (fun H => ?_)
        · refine lk_wp_seg (lo' := [.ref a0, .int x1, .int x2, .int x3, .int x4, .retAddr 0, .retAddr 0]) (st' := [.int x4, .int x3, .int x2, .ref a0]) lk_M71 lk_s71_30_4 rfl ?_
          refine lk_wp_cv (as := [.int x2, .int x3, .int x4]) (r := []) (a := a0) lk_i71_35 lk_M71 rfl rfl rfl (Nat.le_of_ble_eq_true rfl) H (fun k35 H => lk_gi H (fun r6 h5 H => ?_))
          refine lk_wp_seg (lo' := [.ref a0, .int x1, .int x2, .int x3, .int x4, .int r6, .retAddr 0]) (st' := [.int r6]) lk_M71 lk_s71_38_2 rfl ?_
          refine lk_wp_if_eq lk_i71_42 lk_M71 H (fun H => ?_) (fun H => ?_)
          · refine lk_wp_seg (lo' := [.ref a0, .int x1, .int x2, .int x3, .int x4, .int r6, .retAddr 0]) (st' := [.ref a0]) lk_M71 lk_s71_52_1 rfl ?_
            refine lk_wp_fR lk_i71_53 lk_M71 H (fun r7 H => ?_)
            refine lk_wp_seg (lo' := [.ref a0, .int x1, .int x2, .int x3, .int x4, .int r6, .retAddr 0]) (st' := [.int x2, .ref r7]) lk_M71 lk_s71_56_1 rfl ?_
            refine lk_wp_ra lk_i71_57 lk_M71 H ⟨fun H => ?_, fun r8 H => ?_⟩
            · refine lk_wp_seg (lo' := [.ref a0, .int x1, .int x2, .int x3, .int x4, .int r6, .retAddr 0]) (st' := [.int x4, .int x3, .null]) lk_M71 lk_s71_58_2 rfl ?_
              exact H.elim
            · refine lk_wp_seg (lo' := [.ref a0, .int x1, .int x2, .int x3, .int x4, .int r6, .retAddr 0]) (st' := [.int x4, .int x3, .ref r8]) lk_M71 lk_s71_58_2 rfl ?_
              refine lk_wp_cv (as := [.int x3, .int x4]) (r := []) (a := r8) lk_i71_61 lk_M71 rfl rfl rfl (Nat.le_of_ble_eq_true rfl) H (fun k31 H => lk_gr H (fun h9 H => ?_) (fun r10 h9 H => ?_))
              · refine lk_wp_seg (lo' := [.ref a0, .int x1, .int x2, .int x3, .int x4, .int r6, .null]) (st' := [.null]) lk_M71 lk_s71_64_2 rfl ?_
                refine lk_wp_cs (as := [.null]) (r := []) lk_i71_68 lk_M71 rfl rfl rfl rfl (Nat.le_of_ble_eq_true rfl) (lk_gi H (fun r12 h11 H => ?_))
                refine lk_wp_if_eq lk_i71_71 lk_M71 H (fun H => ?_) (fun H => ?_)
                · refine lk_wp_seg (lo' := [.ref a0, .int x1, .int x2, .int x3, .int x4, .int r6, .null]) (st' := [.int ((-1000001))]) lk_M71 lk_s71_87_1 rfl ?_
                  exact lk_wp_ret lk_i71_89 lk_M71 rfl H
                · refine lk_wp_seg (lo' := [.ref a0, .int x1, .int x2, .int x3, .int x4, .int r6, .null]) (st' := [.null, .int x1, .ref a0]) lk_M71 lk_s71_74_3 rfl ?_
                  refine lk_wp_cs (as := [.null]) (r := [.int x1, .ref a0]) lk_i71_78 lk_M71 rfl rfl rfl rfl (Nat.le_of_ble_eq_true rfl) (lk_gr H (fun h13 H => ?_) (fun r14 h13 H => ?_))
                  · refine lk_wp_cv (as := [.int x1, .null]) (r := []) (a := a0) lk_i71_81 lk_M71 rfl rfl rfl (Nat.le_of_ble_eq_true rfl) H (fun k17 H => lk_gi H (fun r16 h15 H => ?_))
                    refine lk_wp_seg (lo' := [.ref a0, .int x1, .int x2, .int x3, .int x4, .int r6, .null]) (st' := [.int r16]) lk_M71 lk_s71_84_1 rfl ?_
                    exact lk_wp_ret lk_i71_89 lk_M71 rfl H
                  · refine lk_wp_cv (as := [.int x1, .ref r14]) (r := []) (a := a0) lk_i71_81 lk_M71 rfl rfl rfl (Nat.le_of_ble_eq_true rfl) H (fun k20 H => lk_gi H (fun r19 h18 H => ?_))
                    refine lk_wp_seg (lo' := [.ref a0, .int x1, .int x2, .int x3, .int x4, .int r6, .null]) (st' := [.int r19]) lk_M71 lk_s71_84_1 rfl ?_
                    exact lk_wp_ret lk_i71_89 lk_M71 rfl H
              · refine lk_wp_seg (lo' := [.ref a0, .int x1, .int x2, .int x3, .int x4, .int r6, .ref r10]) (st' := [.ref r10]) lk_M71 lk_s71_64_2 rfl ?_
                refine lk_wp_cs (as := [.ref r10]) (r := []) lk_i71_68 lk_M71 rfl rfl rfl rfl (Nat.le_of_ble_eq_true rfl) (lk_gi H (fun r22 h21 H => ?_))
                refine lk_wp_if_eq lk_i71_71 lk_M71 H (fun H => ?_) (fun H => ?_)
                · refine lk_wp_seg (lo' := [.ref a0, .int x1, .int x2, .int x3, .int x4, .int r6, .ref r10]) (st' := [.int ((-1000001))]) lk_M71 lk_s71_87_1 rfl ?_
                  exact lk_wp_ret lk_i71_89 lk_M71 rfl H
                · refine lk_wp_seg (lo' := [.ref a0, .int x1, .int x2, .int x3, .int x4, .int r6, .ref r10]) (st' := [.ref r10, .int x1, .ref a0]) lk_M71 lk_s71_74_3 rfl ?_
                  refine lk_wp_cs (as := [.ref r10]) (r := [.int x1, .ref a0]) lk_i71_78 lk_M71 rfl rfl rfl rfl (Nat.le_of_ble_eq_true rfl) (lk_gr H (fun h23 H => ?_) (fun r24 h23 H => ?_))
                  · refine lk_wp_cv (as := [.int x1, .null]) (r := []) (a := a0) lk_i71_81 lk_M71 rfl rfl rfl (Nat.le_of_ble_eq_true rfl) H (fun k27 H => lk_gi H (fun r26 h25 H => ?_))
                    refine lk_wp_seg (lo' := [.ref a0, .int x1, .int x2, .int x3, .int x4, .int r6, .ref r10]) (st' := [.int r26]) lk_M71 lk_s71_84_1 rfl ?_
                    exact lk_wp_ret lk_i71_89 lk_M71 rfl H
                  · refine lk_wp_cv (as := [.int x1, .ref r24]) (r := []) (a := a0) lk_i71_81 lk_M71 rfl rfl rfl (Nat.le_of_ble_eq_true rfl) H (fun k30 H => lk_gi H (fun r29 h28 H => ?_))
                    refine lk_wp_seg (lo' := [.ref a0, .int x1, .int x2, .int x3, .int x4, .int r6, .ref r10]) (st' := [.int r29]) lk_M71 lk_s71_84_1 rfl ?_
                    exact lk_wp_ret lk_i71_89 lk_M71 rfl H
          · refine lk_wp_seg (lo' := [.ref a0, .int x1, .int x2, .int x3, .int x4, .int r6, .retAddr 0]) (st' := [.int r6, .ref a0]) lk_M71 lk_s71_45_2 rfl ?_
            refine lk_wp_cv (as := [.int r6]) (r := []) (a := a0) lk_i71_48 lk_M71 rfl rfl rfl (Nat.le_of_ble_eq_true rfl) H (fun k34 H => lk_gi H (fun r33 h32 H => ?_))
            exact lk_wp_ret lk_i71_51 lk_M71 rfl H
        · refine lk_wp_seg (lo' := [.ref a0, .int x1, .int x2, .int x3, .int x4, .retAddr 0, .retAddr 0]) (st' := [.int ((-1000001))]) lk_M71 lk_s71_27_1 rfl ?_
          exact lk_wp_ret lk_i71_29 lk_M71 rfl H
/-! LonelyDots.powers(IIII)I -/
theorem lk_M72 : lk_mt[72]? = some (yX11_powers, cX11_powers, 5, ((some FieldType.int))) := rfl
theorem lk_s72_0_1 : lk_seg 72 [(.iload_n 1, 1, (0, [], .null))] 0 = some 1 := by decide +kernel
theorem lk_i72_1 : lk_ins 72 1 = some (.invokestatic 96, 3, (0, [(0, 95)], .ref 46)) := lk_eqE_eq (by decide +kernel)
theorem lk_i72_4 : lk_ins 72 4 = some (.ifCond .eq 35, 3, (39, [], .null)) := lk_eqE_eq (by decide +kernel)
theorem lk_s72_39_1 : lk_seg 72 [(.ldc 57, 2, (0, [], .int (-1000001)))] 39 = some 41 := by decide +kernel
theorem lk_i72_41 : lk_ins 72 41 = some (.ireturn, 1, (0, [], .null)) := lk_eqE_eq (by decide +kernel)
theorem lk_s72_7_2 : lk_seg 72 [(.iload_n 2, 1, (0, [], .null)), (.iconst 3, 1, (0, [], .int (3)))] 7 = some 9 := by decide +kernel
theorem lk_i72_9 : lk_ins 72 9 = some (.if_icmp .lt 30, 3, (39, [], .null)) := lk_eqE_eq (by decide +kernel)
theorem lk_s72_12_1 : lk_seg 72 [(.iload_n 2, 1, (0, [], .null))] 12 = some 13 := by decide +kernel
theorem lk_i72_13 : lk_ins 72 13 = some (.invokestatic 129, 3, (0, [(0, 106)], .ref 54)) := lk_eqE_eq (by decide +kernel)
theorem lk_i72_16 : lk_ins 72 16 = some (.ifCond .eq 23, 3, (39, [], .null)) := lk_eqE_eq (by decide +kernel)
theorem lk_s72_19_2 : lk_seg 72 [(.iload_n 3, 1, (0, [], .null)), (.iload_n 2, 1, (0, [], .null))] 19 = some 21 := by decide +kernel
theorem lk_i72_21 : lk_ins 72 21 = some (.invokestatic 132, 3, (0, [(0, 107)], .ref 55)) := lk_eqE_eq (by decide +kernel)
theorem lk_i72_24 : lk_ins 72 24 = some (.ifCond .eq 15, 3, (39, [], .null)) := lk_eqE_eq (by decide +kernel)
theorem lk_s72_27_1 : lk_seg 72 [(.iload 4, 2, (0, [], .null))] 27 = some 29 := by decide +kernel
theorem lk_i72_29 : lk_ins 72 29 = some (.ifCond .lt 10, 3, (39, [], .null)) := lk_eqE_eq (by decide +kernel)
theorem lk_s72_32_2 : lk_seg 72 [(.iload 4, 2, (0, [], .null)), (.bipush 15, 2, (0, [], .int (15)))] 32 = some 36 := by decide +kernel
theorem lk_i72_36 : lk_ins 72 36 = some (.if_icmp .le 6, 3, (42, [], .null)) := lk_eqE_eq (by decide +kernel)
theorem lk_s72_42_5 : lk_seg 72 [(.aload_n 0, 1, (0, [], .null)), (.iload_n 1, 1, (0, [], .null)), (.iload_n 2, 1, (0, [], .null)), (.iload_n 3, 1, (0, [], .null)), (.iload 4, 2, (0, [], .null))] 42 = some 48 := by decide +kernel
theorem lk_i72_48 : lk_ins 72 48 = some (.invokestatic 135, 3, (0, [(0, 109)], .ref 56)) := lk_eqE_eq (by decide +kernel)
theorem lk_i72_51 : lk_ins 72 51 = some (.invokestatic 113, 3, (0, [(0, 28)], .ref 50)) := lk_eqE_eq (by decide +kernel)
theorem lk_i72_54 : lk_ins 72 54 = some (.invokevirtual 117, 3, (1, [(10, 98)], .ref 51)) := lk_eqE_eq (by decide +kernel)
theorem lk_i72_57 : lk_ins 72 57 = some (.ireturn, 1, (0, [], .null)) := lk_eqE_eq (by decide +kernel)
set_option maxRecDepth 20000 in
theorem E_x_powers {X : lk_X} {d : Nat} {x1 x2 x3 x4 : Int32} {a0 : Nat} {h : lk_H} {Q : Option Value → lk_H → Prop} (H : lk_wxi X d 95 [.int x1] h (fun r2 h1 => (r2 = 0 → Q (some (.int ((-1000001)))) h1) ∧ (¬ r2 = 0 → (x2 < 3 → Q (some (.int ((-1000001)))) h1) ∧ (¬ x2 < 3 → lk_wxi X d 106 [.int x2] h1 (fun r4 h3 => (r4 = 0 → Q (some (.int ((-1000001)))) h3) ∧ (¬ r4 = 0 → lk_wxi X d 107 [.int x3, .int x2] h3 (fun r6 h5 => (r6 = 0 → Q (some (.int ((-1000001)))) h5) ∧ (¬ r6 = 0 → (x4 < 0 → Q (some (.int ((-1000001)))) h5) ∧ (¬ x4 < 0 → (x4 ≤ 15 → lk_wxr X d 109 [.int x2, .int x3, .int x4] h5 (fun h7 => lk_wxr X d 28 [.null] h7 (fun h9 => lk_vc h9 a0 [(10, 98)] (fun k13 => lk_wxi X d k13 [.ref a0, .int x1, .null] h9 (fun r12 h11 => Q (some (.int r12)) h11))) (fun r10 h9 => lk_vc h9 a0 [(10, 98)] (fun k16 => lk_wxi X d k16 [.ref a0, .int x1, .ref r10] h9 (fun r15 h14 => Q (some (.int r15)) h14)))) (fun r8 h7 => lk_wxr X d 28 [.ref r8] h7 (fun h17 => lk_vc h17 a0 [(10, 98)] (fun k21 => lk_wxi X d k21 [.ref a0, .int x1, .null] h17 (fun r20 h19 => Q (some (.int r20)) h19))) (fun r18 h17 => lk_vc h17 a0 [(10, 98)] (fun k24 => lk_wxi X d k24 [.ref a0, .int x1, .ref r18] h17 (fun r23 h22 => Q (some (.int r23)) h22))))) ∧ (¬ x4 ≤ 15 → Q (some (.int ((-1000001)))) h5)))))))))) : lk_wx X (d + 1) 72 [.ref a0, .int x1, .int x2, .int x3, .int x4] h Q := by
  refine lk_enter (lo := [.ref a0, .int x1, .int x2, .int x3, .int x4]) lk_M72 rfl (Nat.le_of_ble_eq_true rfl) ?_
  refine lk_wp_seg (lo' := [.ref a0, .int x1, .int x2, .int x3, .int x4]) (st' := [.int x1]) lk_M72 lk_s72_0_1 rfl ?_
  refine lk_wp_cs (as := [.int x1]) (r := []) lk_i72_1 lk_M72 rfl rfl rfl rfl (Nat.le_of_ble_eq_true rfl) (lk_gi H (fun r2 h1 H => ?_))
  refine lk_wp_if_eq lk_i72_4 lk_M72 H (fun H => ?_) (fun H => ?_)
  · refine lk_wp_seg (lo' := [.ref a0, .int x1, .int x2, .int x3, .int x4]) (st' := [.int ((-1000001))]) lk_M72 lk_s72_39_1 rfl ?_
    exact lk_wp_ret lk_i72_41 lk_M72 rfl H
  · refine lk_wp_seg (lo' := [.ref a0, .int x1, .int x2, .int x3, .int x4]) (st' := [.int 3, .int x2]) lk_M72 lk_s72_7_2 rfl ?_
    refine lk_wp_ic_lt lk_i72_9 lk_M72 H (fun H => ?_) (fun H => ?_)
    · refine lk_wp_seg (lo' := [.ref a0, .int x1, .int x2, .int x3, .int x4]) (st' := [.int ((-1000001))]) lk_M72 lk_s72_39_1 rfl ?_
      exact lk_wp_ret lk_i72_41 lk_M72 rfl H
    · refine lk_wp_seg (lo' := [.ref a0, .int x1, .int x2, .int x3, .int x4]) (st' := [.int x2]) lk_M72 lk_s72_12_1 rfl ?_
      refine lk_wp_cs (as := [.int x2]) (r := []) lk_i72_13 lk_M72 rfl rfl rfl rfl (Nat.le_of_ble_eq_true rfl) (lk_gi H (fun r4 h3 H => ?_))
      refine lk_wp_if_eq lk_i72_16 lk_M72 H (fun H => ?_) (fun H => ?_)
      · refine lk_wp_seg (lo' := [.ref a0, .int x1, .int x2, .int x3, .int x4]) (st' := [.int ((-1000001))]) lk_M72 lk_s72_39_1 rfl ?_
        exact lk_wp_ret lk_i72_41 lk_M72 rfl H
      · refine lk_wp_seg (lo' := [.ref a0, .int x1, .int x2, .int x3, .int x4]) (st' := [.int x2, .int x3]) lk_M72 lk_s72_19_2 rfl ?_
        refine lk_wp_cs (as := [.int x3, .int x2]) (r := []) lk_i72_21 lk_M72 rfl rfl rfl rfl (Nat.le_of_ble_eq_true rfl) (lk_gi H (fun r6 h5 H => ?_))
        refine lk_wp_if_eq lk_i72_24 lk_M72 H (fun H => ?_) (fun H => ?_)
        · refine lk_wp_seg (lo' := [.ref a0, .int x1, .int x2, .int x3, .int x4]) (st' := [.int ((-1000001))]) lk_M72 lk_s72_39_1 rfl ?_
          exact lk_wp_ret lk_i72_41 lk_M72 rfl H
        · refine lk_wp_seg (lo' := [.ref a0, .int x1, .int x2, .int x3, .int x4]) (st' := [.int x4]) lk_M72 lk_s72_27_1 rfl ?_
          refine lk_wp_if_lt lk_i72_29 lk_M72 H (fun H => ?_) (fun H => ?_)
          · refine lk_wp_seg (lo' := [.ref a0, .int x1, .int x2, .int x3, .int x4]) (st' := [.int ((-1000001))]) lk_M72 lk_s72_39_1 rfl ?_
            exact lk_wp_ret lk_i72_41 lk_M72 rfl H
          · refine lk_wp_seg (lo' := [.ref a0, .int x1, .int x2, .int x3, .int x4]) (st' := [.int 15, .int x4]) lk_M72 lk_s72_32_2 rfl ?_
            refine lk_wp_ic_le lk_i72_36 lk_M72 H (fun H => ?_) (fun H => ?_)
            · refine lk_wp_seg (lo' := [.ref a0, .int x1, .int x2, .int x3, .int x4]) (st' := [.int x4, .int x3, .int x2, .int x1, .ref a0]) lk_M72 lk_s72_42_5 rfl ?_
              refine lk_wp_cs (as := [.int x2, .int x3, .int x4]) (r := [.int x1, .ref a0]) lk_i72_48 lk_M72 rfl rfl rfl rfl (Nat.le_of_ble_eq_true rfl) (lk_gr H (fun h7 H => ?_) (fun r8 h7 H => ?_))
              · refine lk_wp_cs (as := [.null]) (r := [.int x1, .ref a0]) lk_i72_51 lk_M72 rfl rfl rfl rfl (Nat.le_of_ble_eq_true rfl) (lk_gr H (fun h9 H => ?_) (fun r10 h9 H => ?_))
                · refine lk_wp_cv (as := [.int x1, .null]) (r := []) (a := a0) lk_i72_54 lk_M72 rfl rfl rfl (Nat.le_of_ble_eq_true rfl) H (fun k13 H => lk_gi H (fun r12 h11 H => ?_))
                  exact lk_wp_ret lk_i72_57 lk_M72 rfl H
                · refine lk_wp_cv (as := [.int x1, .ref r10]) (r := []) (a := a0) lk_i72_54 lk_M72 rfl rfl rfl (Nat.le_of_ble_eq_true rfl) H (fun k16 H => lk_gi H (fun r15 h14 H => ?_))
                  exact lk_wp_ret lk_i72_57 lk_M72 rfl H
              · refine lk_wp_cs (as := [.ref r8]) (r := [.int x1, .ref a0]) lk_i72_51 lk_M72 rfl rfl rfl rfl (Nat.le_of_ble_eq_true rfl) (lk_gr H (fun h17 H => ?_) (fun r18 h17 H => ?_))
                · refine lk_wp_cv (as := [.int x1, .null]) (r := []) (a := a0) lk_i72_54 lk_M72 rfl rfl rfl (Nat.le_of_ble_eq_true rfl) H (fun k21 H => lk_gi H (fun r20 h19 H => ?_))
                  exact lk_wp_ret lk_i72_57 lk_M72 rfl H
                · refine lk_wp_cv (as := [.int x1, .ref r18]) (r := []) (a := a0) lk_i72_54 lk_M72 rfl rfl rfl (Nat.le_of_ble_eq_true rfl) H (fun k24 H => lk_gi H (fun r23 h22 H => ?_))
                  exact lk_wp_ret lk_i72_57 lk_M72 rfl H
            · refine lk_wp_seg (lo' := [.ref a0, .int x1, .int x2, .int x3, .int x4]) (st' := [.int ((-1000001))]) lk_M72 lk_s72_39_1 rfl ?_
              exact lk_wp_ret lk_i72_41 lk_M72 rfl H
/-! LonelyDots.sums(IIII)I -/
theorem lk_M73 : lk_mt[73]? = some (yX11_sums, cX11_sums, 5, ((some FieldType.int))) := rfl
theorem lk_s73_0_1 : lk_seg 73 [(.iload_n 1, 1, (0, [], .null))] 0 = some 1 := by decide +kernel
theorem lk_i73_1 : lk_ins 73 1 = some (.invokestatic 96, 3, (0, [(0, 95)], .ref 46)) := lk_eqE_eq (by decide +kernel)
theorem lk_i73_4 : lk_ins 73 4 = some (.ifCond .eq 32, 3, (36, [], .null)) := lk_eqE_eq (by decide +kernel)
theorem lk_s73_36_1 : lk_seg 73 [(.ldc 57, 2, (0, [], .int (-1000001)))] 36 = some 38 := by decide +kernel
theorem lk_i73_38 : lk_ins 73 38 = some (.ireturn, 1, (0, [], .null)) := lk_eqE_eq (by decide +kernel)
theorem lk_s73_7_2 : lk_seg 73 [(.iload_n 2, 1, (0, [], .null)), (.iconst 5, 1, (0, [], .int (5)))] 7 = some 9 := by decide +kernel
theorem lk_i73_9 : lk_ins 73 9 = some (.if_icmp .lt 27, 3, (36, [], .null)) := lk_eqE_eq (by decide +kernel)
theorem lk_s73_12_1 : lk_seg 73 [(.iload_n 2, 1, (0, [], .null))] 12 = some 13 := by decide +kernel
theorem lk_i73_13 : lk_ins 73 13 = some (.invokestatic 129, 3, (0, [(0, 106)], .ref 54)) := lk_eqE_eq (by decide +kernel)
theorem lk_i73_16 : lk_ins 73 16 = some (.ifCond .eq 20, 3, (36, [], .null)) := lk_eqE_eq (by decide +kernel)
theorem lk_s73_19_2 : lk_seg 73 [(.iload_n 3, 1, (0, [], .null)), (.iload_n 2, 1, (0, [], .null))] 19 = some 21 := by decide +kernel
theorem lk_i73_21 : lk_ins 73 21 = some (.invokestatic 132, 3, (0, [(0, 107)], .ref 55)) := lk_eqE_eq (by decide +kernel)
theorem lk_i73_24 : lk_ins 73 24 = some (.ifCond .eq 12, 3, (36, [], .null)) := lk_eqE_eq (by decide +kernel)
theorem lk_s73_27_2 : lk_seg 73 [(.iload 4, 2, (0, [], .null)), (.iload_n 2, 1, (0, [], .null))] 27 = some 30 := by decide +kernel
theorem lk_i73_30 : lk_ins 73 30 = some (.invokestatic 132, 3, (0, [(0, 107)], .ref 55)) := lk_eqE_eq (by decide +kernel)
theorem lk_i73_33 : lk_ins 73 33 = some (.ifCond .ne 6, 3, (39, [], .null)) := lk_eqE_eq (by decide +kernel)
theorem lk_s73_39_5 : lk_seg 73 [(.aload_n 0, 1, (0, [], .null)), (.iload_n 1, 1, (0, [], .null)), (.iload_n 2, 1, (0, [], .null)), (.iload_n 3, 1, (0, [], .null)), (.iload 4, 2, (0, [], .null))] 39 = some 45 := by decide +kernel
theorem lk_i73_45 : lk_ins 73 45 = some (.invokestatic 139, 3, (0, [(0, 110)], .ref 57)) := lk_eqE_eq (by decide +kernel)
theorem lk_i73_48 : lk_ins 73 48 = some (.invokestatic 113, 3, (0, [(0, 28)], .ref 50)) := lk_eqE_eq (by decide +kernel)
theorem lk_i73_51 : lk_ins 73 51 = some (.invokevirtual 117, 3, (1, [(10, 98)], .ref 51)) := lk_eqE_eq (by decide +kernel)
theorem lk_i73_54 : lk_ins 73 54 = some (.ireturn, 1, (0, [], .null)) := lk_eqE_eq (by decide +kernel)
set_option maxRecDepth 20000 in
theorem E_x_sums {X : lk_X} {d : Nat} {x1 x2 x3 x4 : Int32} {a0 : Nat} {h : lk_H} {Q : Option Value → lk_H → Prop} (H : lk_wxi X d 95 [.int x1] h (fun r2 h1 => (r2 = 0 → Q (some (.int ((-1000001)))) h1) ∧ (¬ r2 = 0 → (x2 < 5 → Q (some (.int ((-1000001)))) h1) ∧ (¬ x2 < 5 → lk_wxi X d 106 [.int x2] h1 (fun r4 h3 => (r4 = 0 → Q (some (.int ((-1000001)))) h3) ∧ (¬ r4 = 0 → lk_wxi X d 107 [.int x3, .int x2] h3 (fun r6 h5 => (r6 = 0 → Q (some (.int ((-1000001)))) h5) ∧ (¬ r6 = 0 → lk_wxi X d 107 [.int x4, .int x2] h5 (fun r8 h7 => (¬ r8 = 0 → lk_wxr X d 110 [.int x2, .int x3, .int x4] h7 (fun h9 => lk_wxr X d 28 [.null] h9 (fun h11 => lk_vc h11 a0 [(10, 98)] (fun k15 => lk_wxi X d k15 [.ref a0, .int x1, .null] h11 (fun r14 h13 => Q (some (.int r14)) h13))) (fun r12 h11 => lk_vc h11 a0 [(10, 98)] (fun k18 => lk_wxi X d k18 [.ref a0, .int x1, .ref r12] h11 (fun r17 h16 => Q (some (.int r17)) h16)))) (fun r10 h9 => lk_wxr X d 28 [.ref r10] h9 (fun h19 => lk_vc h19 a0 [(10, 98)] (fun k23 => lk_wxi X d k23 [.ref a0, .int x1, .null] h19 (fun r22 h21 => Q (some (.int r22)) h21))) (fun r20 h19 => lk_vc h19 a0 [(10, 98)] (fun k26 => lk_wxi X d k26 [.ref a0, .int x1, .ref r20] h19 (fun r25 h24 => Q (some (.int r25)) h24))))) ∧ (r8 = 0 → Q (some (.int ((-1000001)))) h7)))))))))) : lk_wx X (d + 1) 73 [.ref a0, .int x1, .int x2, .int x3, .int x4] h Q := by
  refine lk_enter (lo := [.ref a0, .int x1, .int x2, .int x3, .int x4]) lk_M73 rfl (Nat.le_of_ble_eq_true rfl) ?_
  refine lk_wp_seg (lo' := [.ref a0, .int x1, .int x2, .int x3, .int x4]) (st' := [.int x1]) lk_M73 lk_s73_0_1 rfl ?_
  refine lk_wp_cs (as := [.int x1]) (r := []) lk_i73_1 lk_M73 rfl rfl rfl rfl (Nat.le_of_ble_eq_true rfl) (lk_gi H (fun r2 h1 H => ?_))
  refine lk_wp_if_eq lk_i73_4 lk_M73 H (fun H => ?_) (fun H => ?_)
  · refine lk_wp_seg (lo' := [.ref a0, .int x1, .int x2, .int x3, .int x4]) (st' := [.int ((-1000001))]) lk_M73 lk_s73_36_1 rfl ?_
    exact lk_wp_ret lk_i73_38 lk_M73 rfl H
  · refine lk_wp_seg (lo' := [.ref a0, .int x1, .int x2, .int x3, .int x4]) (st' := [.int 5, .int x2]) lk_M73 lk_s73_7_2 rfl ?_
    refine lk_wp_ic_lt lk_i73_9 lk_M73 H (fun H => ?_) (fun H => ?_)
    · refine lk_wp_seg (lo' := [.ref a0, .int x1, .int x2, .int x3, .int x4]) (st' := [.int ((-1000001))]) lk_M73 lk_s73_36_1 rfl ?_
      exact lk_wp_ret lk_i73_38 lk_M73 rfl H
    · refine lk_wp_seg (lo' := [.ref a0, .int x1, .int x2, .int x3, .int x4]) (st' := [.int x2]) lk_M73 lk_s73_12_1 rfl ?_
      refine lk_wp_cs (as := [.int x2]) (r := []) lk_i73_13 lk_M73 rfl rfl rfl rfl (Nat.le_of_ble_eq_true rfl) (lk_gi H (fun r4 h3 H => ?_))
      refine lk_wp_if_eq lk_i73_16 lk_M73 H (fun H => ?_) (fun H => ?_)
      · refine lk_wp_seg (lo' := [.ref a0, .int x1, .int x2, .int x3, .int x4]) (st' := [.int ((-1000001))]) lk_M73 lk_s73_36_1 rfl ?_
        exact lk_wp_ret lk_i73_38 lk_M73 rfl H
      · refine lk_wp_seg (lo' := [.ref a0, .int x1, .int x2, .int x3, .int x4]) (st' := [.int x2, .int x3]) lk_M73 lk_s73_19_2 rfl ?_
        refine lk_wp_cs (as := [.int x3, .int x2]) (r := []) lk_i73_21 lk_M73 rfl rfl rfl rfl (Nat.le_of_ble_eq_true rfl) (lk_gi H (fun r6 h5 H => ?_))
        refine lk_wp_if_eq lk_i73_24 lk_M73 H (fun H => ?_) (fun H => ?_)
        · refine lk_wp_seg (lo' := [.ref a0, .int x1, .int x2, .int x3, .int x4]) (st' := [.int ((-1000001))]) lk_M73 lk_s73_36_1 rfl ?_
          exact lk_wp_ret lk_i73_38 lk_M73 rfl H
        · refine lk_wp_seg (lo' := [.ref a0, .int x1, .int x2, .int x3, .int x4]) (st' := [.int x2, .int x4]) lk_M73 lk_s73_27_2 rfl ?_
          refine lk_wp_cs (as := [.int x4, .int x2]) (r := []) lk_i73_30 lk_M73 rfl rfl rfl rfl (Nat.le_of_ble_eq_true rfl) (lk_gi H (fun r8 h7 H => ?_))
          refine lk_wp_if_ne lk_i73_33 lk_M73 H (fun H => ?_) (fun H => ?_)
          · refine lk_wp_seg (lo' := [.ref a0, .int x1, .int x2, .int x3, .int x4]) (st' := [.int x4, .int x3, .int x2, .int x1, .ref a0]) lk_M73 lk_s73_39_5 rfl ?_
            refine lk_wp_cs (as := [.int x2, .int x3, .int x4]) (r := [.int x1, .ref a0]) lk_i73_45 lk_M73 rfl rfl rfl rfl (Nat.le_of_ble_eq_true rfl) (lk_gr H (fun h9 H => ?_) (fun r10 h9 H => ?_))
            · refine lk_wp_cs (as := [.null]) (r := [.int x1, .ref a0]) lk_i73_48 lk_M73 rfl rfl rfl rfl (Nat.le_of_ble_eq_true rfl) (lk_gr H (fun h11 H => ?_) (fun r12 h11 H => ?_))
              · refine lk_wp_cv (as := [.int x1, .null]) (r := []) (a := a0) lk_i73_51 lk_M73 rfl rfl rfl (Nat.le_of_ble_eq_true rfl) H (fun k15 H => lk_gi H (fun r14 h13 H => ?_))
                exact lk_wp_ret lk_i73_54 lk_M73 rfl H
              · refine lk_wp_cv (as := [.int x1, .ref r12]) (r := []) (a := a0) lk_i73_51 lk_M73 rfl rfl rfl (Nat.le_of_ble_eq_true rfl) H (fun k18 H => lk_gi H (fun r17 h16 H => ?_))
                exact lk_wp_ret lk_i73_54 lk_M73 rfl H
            · refine lk_wp_cs (as := [.ref r10]) (r := [.int x1, .ref a0]) lk_i73_48 lk_M73 rfl rfl rfl rfl (Nat.le_of_ble_eq_true rfl) (lk_gr H (fun h19 H => ?_) (fun r20 h19 H => ?_))
              · refine lk_wp_cv (as := [.int x1, .null]) (r := []) (a := a0) lk_i73_51 lk_M73 rfl rfl rfl (Nat.le_of_ble_eq_true rfl) H (fun k23 H => lk_gi H (fun r22 h21 H => ?_))
                exact lk_wp_ret lk_i73_54 lk_M73 rfl H
              · refine lk_wp_cv (as := [.int x1, .ref r20]) (r := []) (a := a0) lk_i73_51 lk_M73 rfl rfl rfl (Nat.le_of_ble_eq_true rfl) H (fun k26 H => lk_gi H (fun r25 h24 H => ?_))
                exact lk_wp_ret lk_i73_54 lk_M73 rfl H
          · refine lk_wp_seg (lo' := [.ref a0, .int x1, .int x2, .int x3, .int x4]) (st' := [.int ((-1000001))]) lk_M73 lk_s73_36_1 rfl ?_
            exact lk_wp_ret lk_i73_38 lk_M73 rfl H
/-! LonelyDots.take(III)I -/
theorem lk_M74 : lk_mt[74]? = some (yX11_take, cX11_take, 5, ((some FieldType.int))) := rfl
theorem lk_s74_0_1 : lk_seg 74 [(.iload_n 1, 1, (0, [], .null))] 0 = some 1 := by decide +kernel
theorem lk_i74_1 : lk_ins 74 1 = some (.invokestatic 96, 3, (0, [(0, 95)], .ref 46)) := lk_eqE_eq (by decide +kernel)
theorem lk_i74_4 : lk_ins 74 4 = some (.ifCond .eq 19, 3, (23, [], .null)) := lk_eqE_eq (by decide +kernel)
theorem lk_s74_23_1 : lk_seg 74 [(.ldc 57, 2, (0, [], .int (-1000001)))] 23 = some 25 := by decide +kernel
theorem lk_i74_25 : lk_ins 74 25 = some (.ireturn, 1, (0, [], .null)) := lk_eqE_eq (by decide +kernel)
theorem lk_s74_7_1 : lk_seg 74 [(.iload_n 2, 1, (0, [], .null))] 7 = some 8 := by decide +kernel
theorem lk_i74_8 : lk_ins 74 8 = some (.invokestatic 96, 3, (0, [(0, 95)], .ref 46)) := lk_eqE_eq (by decide +kernel)
theorem lk_i74_11 : lk_ins 74 11 = some (.ifCond .eq 12, 3, (23, [], .null)) := lk_eqE_eq (by decide +kernel)
theorem lk_s74_14_1 : lk_seg 74 [(.iload_n 3, 1, (0, [], .null))] 14 = some 15 := by decide +kernel
theorem lk_i74_15 : lk_ins 74 15 = some (.ifCond .lt 8, 3, (23, [], .null)) := lk_eqE_eq (by decide +kernel)
theorem lk_s74_18_2 : lk_seg 74 [(.iload_n 3, 1, (0, [], .null)), (.iconst 4, 1, (0, [], .int (4)))] 18 = some 20 := by decide +kernel
theorem lk_i74_20 : lk_ins 74 20 = some (.if_icmp .lt 6, 3, (26, [], .null)) := lk_eqE_eq (by decide +kernel)
theorem lk_s74_26_2 : lk_seg 74 [(.aload_n 0, 1, (0, [], .null)), (.iload_n 2, 1, (0, [], .null))] 26 = some 28 := by decide +kernel
theorem lk_i74_28 : lk_ins 74 28 = some (.invokevirtual 142, 3, (1, [(10, 100)], .ref 58)) := lk_eqE_eq (by decide +kernel)
theorem lk_s74_31_2 : lk_seg 74 [(.astore 4, 2, (0, [], .null)), (.aload 4, 2, (0, [], .null))] 31 = some 35 := by decide +kernel
theorem lk_i74_35 : lk_ins 74 35 = some (.ifnonnull 13, 3, (48, [], .null)) := lk_eqE_eq (by decide +kernel)
theorem lk_s74_38_3 : lk_seg 74 [(.aload_n 0, 1, (0, [], .null)), (.aload_n 0, 1, (0, [], .null)), (.iload_n 2, 1, (0, [], .null))] 38 = some 41 := by decide +kernel
theorem lk_i74_41 : lk_ins 74 41 = some (.invokevirtual 146, 3, (1, [(10, 101)], .ref 59)) := lk_eqE_eq (by decide +kernel)
theorem lk_i74_44 : lk_ins 74 44 = some (.invokevirtual 58, 3, (1, [(10, 96)], .ref 41)) := lk_eqE_eq (by decide +kernel)
theorem lk_i74_47 : lk_ins 74 47 = some (.ireturn, 1, (0, [], .null)) := lk_eqE_eq (by decide +kernel)
theorem lk_s74_48_1 : lk_seg 74 [(.aload 4, 2, (0, [], .null))] 48 = some 50 := by decide +kernel
theorem lk_i74_50 : lk_ins 74 50 = some (.getfield 149, 3, (0, [(0, 5), (2, 5), (4, 5), (5, 5), (6, 5)], .null)) := lk_eqE_eq (by decide +kernel)
theorem lk_i74_53 : lk_ins 74 53 = some (.arraylength, 1, (0, [], .null)) := lk_eqE_eq (by decide +kernel)
theorem lk_s74_54_1 : lk_seg 74 [(.iconst 1, 1, (0, [], .int (1)))] 54 = some 55 := by decide +kernel
theorem lk_i74_55 : lk_ins 74 55 = some (.if_icmp .le 12, 3, (67, [], .null)) := lk_eqE_eq (by decide +kernel)
theorem lk_s74_67_2 : lk_seg 74 [(.aload_n 0, 1, (0, [], .null)), (.ldc 155, 2, (0, [], .int (-1000000)))] 67 = some 70 := by decide +kernel
theorem lk_i74_70 : lk_ins 74 70 = some (.invokevirtual 66, 3, (1, [(10, 97)], .ref 43)) := lk_eqE_eq (by decide +kernel)
theorem lk_i74_73 : lk_ins 74 73 = some (.ireturn, 1, (0, [], .null)) := lk_eqE_eq (by decide +kernel)
theorem lk_s74_58_2 : lk_seg 74 [(.aload 4, 2, (0, [], .null)), (.iload_n 3, 1, (0, [], .null))] 58 = some 61 := by decide +kernel
theorem lk_i74_61 : lk_ins 74 61 = some (.invokevirtual 152, 3, (2, [(0, 34), (4, 34)], .ref 60)) := lk_eqE_eq (by decide +kernel)
theorem lk_i74_64 : lk_ins 74 64 = some (.ifCond .ne 10, 3, (74, [], .null)) := lk_eqE_eq (by decide +kernel)
theorem lk_s74_74_4 : lk_seg 74 [(.aload_n 0, 1, (0, [], .null)), (.iload_n 1, 1, (0, [], .null)), (.aload 4, 2, (0, [], .null)), (.iload_n 3, 1, (0, [], .null))] 74 = some 79 := by decide +kernel
theorem lk_i74_79 : lk_ins 74 79 = some (.invokevirtual 156, 3, (2, [(0, 35), (4, 35)], .ref 61)) := lk_eqE_eq (by decide +kernel)
theorem lk_i74_82 : lk_ins 74 82 = some (.invokestatic 113, 3, (0, [(0, 28)], .ref 50)) := lk_eqE_eq (by decide +kernel)
theorem lk_i74_85 : lk_ins 74 85 = some (.invokevirtual 117, 3, (1, [(10, 98)], .ref 51)) := lk_eqE_eq (by decide +kernel)
theorem lk_i74_88 : lk_ins 74 88 = some (.ireturn, 1, (0, [], .null)) := lk_eqE_eq (by decide +kernel)
set_option maxRecDepth 20000 in
theorem E_x_take {X : lk_X} {d : Nat} {x1 x2 x3 : Int32} {a0 : Nat} {h : lk_H} {Q : Option Value → lk_H → Prop} (H : lk_wxi X d 95 [.int x1] h (fun r2 h1 => (r2 = 0 → Q (some (.int ((-1000001)))) h1) ∧ (¬ r2 = 0 → lk_wxi X d 95 [.int x2] h1 (fun r4 h3 => (r4 = 0 → Q (some (.int ((-1000001)))) h3) ∧ (¬ r4 = 0 → (x3 < 0 → Q (some (.int ((-1000001)))) h3) ∧ (¬ x3 < 0 → (x3 < 4 → lk_vc h3 a0 [(10, 100)] (fun k43 => lk_wxr X d k43 [.ref a0, .int x2] h3 (fun h5 => lk_vc h5 a0 [(10, 101)] (fun k12 => lk_wxi X d k12 [.ref a0, .int x2] h5 (fun r8 h7 => lk_vc h7 a0 [(10, 96)] (fun k11 => lk_wxi X d k11 [.ref a0, .int r8] h7 (fun r10 h9 => Q (some (.int r10)) h9))))) (fun r6 h5 => lk_fR h5 r6 0 [(0, 5), (2, 5), (4, 5), (5, 5), (6, 5)] (fun r13 => lk_al2 h5 r13 (fun r14 => (r14 ≤ 1 → lk_vc h5 a0 [(10, 97)] (fun k17 => lk_wxi X d k17 [.ref a0, .int ((-1000000))] h5 (fun r16 h15 => Q (some (.int r16)) h15))) ∧ (¬ r14 ≤ 1 → lk_vc h5 r6 [(0, 34), (4, 34)] (fun k42 => lk_wxi X d k42 [.ref r6, .int x3] h5 (fun r19 h18 => (¬ r19 = 0 → lk_vc h18 r6 [(0, 35), (4, 35)] (fun k38 => lk_wxr X d k38 [.ref r6, .int x3] h18 (fun h20 => lk_wxr X d 28 [.null] h20 (fun h22 => lk_vc h22 a0 [(10, 98)] (fun k26 => lk_wxi X d k26 [.ref a0, .int x1, .null] h22 (fun r25 h24 => Q (some (.int r25)) h24))) (fun r23 h22 => lk_vc h22 a0 [(10, 98)] (fun k29 => lk_wxi X d k29 [.ref a0, .int x1, .ref r23] h22 (fun r28 h27 => Q (some (.int r28)) h27)))) (fun r21 h20 => lk_wxr X d 28 [.ref r21] h20 (fun h30 => lk_vc h30 a0 [(10, 98)] (fun k34 => lk_wxi X d k34 [.ref a0, .int x1, .null] h30 (fun r33 h32 => Q (some (.int r33)) h32))) (fun r31 h30 => lk_vc h30 a0 [(10, 98)] (fun k37 => lk_wxi X d k37 [.ref a0, .int x1, .ref r31] h30 (fun r36 h35 => Q (some (.int r36)) h35)))))) ∧ (r19 = 0 → lk_vc h18 a0 [(10, 97)] (fun k41 => lk_wxi X d k41 [.ref a0, .int ((-1000000))] h18 (fun r40 h39 => Q (some (.int r40)) h39))))))))))) ∧ (¬ x3 < 4 → Q (some (.int ((-1000001)))) h3))))))) : lk_wx X (d + 1) 74 [.ref a0, .int x1, .int x2, .int x3] h Q := by
  refine lk_enter (lo := [.ref a0, .int x1, .int x2, .int x3, .retAddr 0]) lk_M74 rfl (Nat.le_of_ble_eq_true rfl) ?_
  refine lk_wp_seg (lo' := [.ref a0, .int x1, .int x2, .int x3, .retAddr 0]) (st' := [.int x1]) lk_M74 lk_s74_0_1 rfl ?_
  refine lk_wp_cs (as := [.int x1]) (r := []) lk_i74_1 lk_M74 rfl rfl rfl rfl (Nat.le_of_ble_eq_true rfl) (lk_gi H (fun r2 h1 H => ?_))
  refine lk_wp_if_eq lk_i74_4 lk_M74 H (fun H => ?_) (fun H => ?_)
  · refine lk_wp_seg (lo' := [.ref a0, .int x1, .int x2, .int x3, .retAddr 0]) (st' := [.int ((-1000001))]) lk_M74 lk_s74_23_1 rfl ?_
    exact lk_wp_ret lk_i74_25 lk_M74 rfl H
  · refine lk_wp_seg (lo' := [.ref a0, .int x1, .int x2, .int x3, .retAddr 0]) (st' := [.int x2]) lk_M74 lk_s74_7_1 rfl ?_
    refine lk_wp_cs (as := [.int x2]) (r := []) lk_i74_8 lk_M74 rfl rfl rfl rfl (Nat.le_of_ble_eq_true rfl) (lk_gi H (fun r4 h3 H => ?_))
    refine lk_wp_if_eq lk_i74_11 lk_M74 H (fun H => ?_) (fun H => ?_)
    · refine lk_wp_seg (lo' := [.ref a0, .int x1, .int x2, .int x3, .retAddr 0]) (st' := [.int ((-1000001))]) lk_M74 lk_s74_23_1 rfl ?_
      exact lk_wp_ret lk_i74_25 lk_M74 rfl H
    · refine lk_wp_seg (lo' := [.ref a0, .int x1, .int x2, .int x3, .retAddr 0]) (st' := [.int x3]) lk_M74 lk_s74_14_1 rfl ?_
      refine lk_wp_if_lt lk_i74_15 lk_M74 H (fun H => ?_) (fun H => ?_)
      · refine lk_wp_seg (lo' := [.ref a0, .int x1, .int x2, .int x3, .retAddr 0]) (st' := [.int ((-1000001))]) lk_M74 lk_s74_23_1 rfl ?_
        exact lk_wp_ret lk_i74_25 lk_M74 rfl H
      · refine lk_wp_seg (lo' := [.ref a0, .int x1, .int x2, .int x3, .retAddr 0]) (st' := [.int 4, .int x3]) lk_M74 lk_s74_18_2 rfl ?_
        refine lk_wp_ic_lt lk_i74_20 lk_M74 H (fun H => ?_) (fun H => ?_)
        · refine lk_wp_seg (lo' := [.ref a0, .int x1, .int x2, .int x3, .retAddr 0]) (st' := [.int x2, .ref a0]) lk_M74 lk_s74_26_2 rfl ?_
          refine lk_wp_cv (as := [.int x2]) (r := []) (a := a0) lk_i74_28 lk_M74 rfl rfl rfl (Nat.le_of_ble_eq_true rfl) H (fun k43 H => lk_gr H (fun h5 H => ?_) (fun r6 h5 H => ?_))
          · refine lk_wp_seg (lo' := [.ref a0, .int x1, .int x2, .int x3, .null]) (st' := [.null]) lk_M74 lk_s74_31_2 rfl ?_
            refine lk_wp_one lk_i74_35 lk_M74 rfl (lk_cal0 rfl) rfl ?_
            refine lk_wp_seg (lo' := [.ref a0, .int x1, .int x2, .int x3, .null]) (st' := [.int x2, .ref a0, .ref a0]) lk_M74 lk_s74_38_3 rfl ?_
            refine lk_wp_cv (as := [.int x2]) (r := [.ref a0]) (a := a0) lk_i74_41 lk_M74 rfl rfl rfl (Nat.le_of_ble_eq_true rfl) H (fun k12 H => lk_gi H (fun r8 h7 H => ?_))
            refine lk_wp_cv (as := [.int r8]) (r := []) (a := a0) lk_i74_44 lk_M74 rfl rfl rfl (Nat.le_of_ble_eq_true rfl) H (fun k11 H => lk_gi H (fun r10 h9 H => ?_))
            exact lk_wp_ret lk_i74_47 lk_M74 rfl H
          · refine lk_wp_seg (lo' := [.ref a0, .int x1, .int x2, .int x3, .ref r6]) (st' := [.ref r6]) lk_M74 lk_s74_31_2 rfl ?_
            refine lk_wp_one lk_i74_35 lk_M74 rfl (lk_cal0 rfl) rfl ?_
            refine lk_wp_seg (lo' := [.ref a0, .int x1, .int x2, .int x3, .ref r6]) (st' := [.ref r6]) lk_M74 lk_s74_48_1 rfl ?_
            refine lk_wp_fR lk_i74_50 lk_M74 H (fun r13 H => ?_)
            refine lk_wp_al lk_i74_53 lk_M74 H (fun r14 H => ?_)
            refine lk_wp_seg (lo' := [.ref a0, .int x1, .int x2, .int x3, .ref r6]) (st' := [.int 1, .int r14]) lk_M74 lk_s74_54_1 rfl ?_
            refine lk_wp_ic_le lk_i74_55 lk_M74 H (fun H => ?_) (fun H => ?_)
            · refine lk_wp_seg (lo' := [.ref a0, .int x1, .int x2, .int x3, .ref r6]) (st' := [.int ((-1000000)), .ref a0]) lk_M74 lk_s74_67_2 rfl ?_
              refine lk_wp_cv (as := [.int ((-1000000))]) (r := []) (a := a0) lk_i74_70 lk_M74 rfl rfl rfl (Nat.le_of_ble_eq_true rfl) H (fun k17 H => lk_gi H (fun r16 h15 H => ?_))
              exact lk_wp_ret lk_i74_73 lk_M74 rfl H
            · refine lk_wp_seg (lo' := [.ref a0, .int x1, .int x2, .int x3, .ref r6]) (st' := [.int x3, .ref r6]) lk_M74 lk_s74_58_2 rfl ?_
              refine lk_wp_cv (as := [.int x3]) (r := []) (a := r6) lk_i74_61 lk_M74 rfl rfl rfl (Nat.le_of_ble_eq_true rfl) H (fun k42 H => lk_gi H (fun r19 h18 H => ?_))
              refine lk_wp_if_ne lk_i74_64 lk_M74 H (fun H => ?_) (fun H => ?_)
              · refine lk_wp_seg (lo' := [.ref a0, .int x1, .int x2, .int x3, .ref r6]) (st' := [.int x3, .ref r6, .int x1, .ref a0]) lk_M74 lk_s74_74_4 rfl ?_
                refine lk_wp_cv (as := [.int x3]) (r := [.int x1, .ref a0]) (a := r6) lk_i74_79 lk_M74 rfl rfl rfl (Nat.le_of_ble_eq_true rfl) H (fun k38 H => lk_gr H (fun h20 H => ?_) (fun r21 h20 H => ?_))
                · refine lk_wp_cs (as := [.null]) (r := [.int x1, .ref a0]) lk_i74_82 lk_M74 rfl rfl rfl rfl (Nat.le_of_ble_eq_true rfl) (lk_gr H (fun h22 H => ?_) (fun r23 h22 H => ?_))
                  · refine lk_wp_cv (as := [.int x1, .null]) (r := []) (a := a0) lk_i74_85 lk_M74 rfl rfl rfl (Nat.le_of_ble_eq_true rfl) H (fun k26 H => lk_gi H (fun r25 h24 H => ?_))
                    exact lk_wp_ret lk_i74_88 lk_M74 rfl H
                  · refine lk_wp_cv (as := [.int x1, .ref r23]) (r := []) (a := a0) lk_i74_85 lk_M74 rfl rfl rfl (Nat.le_of_ble_eq_true rfl) H (fun k29 H => lk_gi H (fun r28 h27 H => ?_))
                    exact lk_wp_ret lk_i74_88 lk_M74 rfl H
                · refine lk_wp_cs (as := [.ref r21]) (r := [.int x1, .ref a0]) lk_i74_82 lk_M74 rfl rfl rfl rfl (Nat.le_of_ble_eq_true rfl) (lk_gr H (fun h30 H => ?_) (fun r31 h30 H => ?_))
                  · refine lk_wp_cv (as := [.int x1, .null]) (r := []) (a := a0) lk_i74_85 lk_M74 rfl rfl rfl (Nat.le_of_ble_eq_true rfl) H (fun k34 H => lk_gi H (fun r33 h32 H => ?_))
                    exact lk_wp_ret lk_i74_88 lk_M74 rfl H
                  · refine lk_wp_cv (as := [.int x1, .ref r31]) (r := []) (a := a0) lk_i74_85 lk_M74 rfl rfl rfl (Nat.le_of_ble_eq_true rfl) H (fun k37 H => lk_gi H (fun r36 h35 H => ?_))
                    exact lk_wp_ret lk_i74_88 lk_M74 rfl H
              · refine lk_wp_seg (lo' := [.ref a0, .int x1, .int x2, .int x3, .ref r6]) (st' := [.int ((-1000000)), .ref a0]) lk_M74 lk_s74_67_2 rfl ?_
                refine lk_wp_cv (as := [.int ((-1000000))]) (r := []) (a := a0) lk_i74_70 lk_M74 rfl rfl rfl (Nat.le_of_ble_eq_true rfl) H (fun k41 H => lk_gi H (fun r40 h39 H => ?_))
                exact lk_wp_ret lk_i74_73 lk_M74 rfl H
        · refine lk_wp_seg (lo' := [.ref a0, .int x1, .int x2, .int x3, .retAddr 0]) (st' := [.int ((-1000001))]) lk_M74 lk_s74_23_1 rfl ?_
          exact lk_wp_ret lk_i74_25 lk_M74 rfl H
/-! LonelyDots.put(III)I -/
theorem lk_M75 : lk_mt[75]? = some (yX11_put, cX11_put, 5, ((some FieldType.int))) := rfl
theorem lk_s75_0_1 : lk_seg 75 [(.iload_n 1, 1, (0, [], .null))] 0 = some 1 := by decide +kernel
theorem lk_i75_1 : lk_ins 75 1 = some (.invokestatic 96, 3, (0, [(0, 95)], .ref 46)) := lk_eqE_eq (by decide +kernel)
theorem lk_i75_4 : lk_ins 75 4 = some (.ifCond .eq 19, 3, (23, [], .null)) := lk_eqE_eq (by decide +kernel)
theorem lk_s75_23_1 : lk_seg 75 [(.ldc 57, 2, (0, [], .int (-1000001)))] 23 = some 25 := by decide +kernel
theorem lk_i75_25 : lk_ins 75 25 = some (.ireturn, 1, (0, [], .null)) := lk_eqE_eq (by decide +kernel)
theorem lk_s75_7_1 : lk_seg 75 [(.iload_n 2, 1, (0, [], .null))] 7 = some 8 := by decide +kernel
theorem lk_i75_8 : lk_ins 75 8 = some (.invokestatic 96, 3, (0, [(0, 95)], .ref 46)) := lk_eqE_eq (by decide +kernel)
theorem lk_i75_11 : lk_ins 75 11 = some (.ifCond .eq 12, 3, (23, [], .null)) := lk_eqE_eq (by decide +kernel)
theorem lk_s75_14_1 : lk_seg 75 [(.iload_n 3, 1, (0, [], .null))] 14 = some 15 := by decide +kernel
theorem lk_i75_15 : lk_ins 75 15 = some (.ifCond .lt 8, 3, (23, [], .null)) := lk_eqE_eq (by decide +kernel)
theorem lk_s75_18_2 : lk_seg 75 [(.iload_n 3, 1, (0, [], .null)), (.iconst 4, 1, (0, [], .int (4)))] 18 = some 20 := by decide +kernel
theorem lk_i75_20 : lk_ins 75 20 = some (.if_icmp .lt 6, 3, (26, [], .null)) := lk_eqE_eq (by decide +kernel)
theorem lk_s75_26_2 : lk_seg 75 [(.aload_n 0, 1, (0, [], .null)), (.iload_n 2, 1, (0, [], .null))] 26 = some 28 := by decide +kernel
theorem lk_i75_28 : lk_ins 75 28 = some (.invokevirtual 142, 3, (1, [(10, 100)], .ref 58)) := lk_eqE_eq (by decide +kernel)
theorem lk_s75_31_2 : lk_seg 75 [(.astore 4, 2, (0, [], .null)), (.aload 4, 2, (0, [], .null))] 31 = some 35 := by decide +kernel
theorem lk_i75_35 : lk_ins 75 35 = some (.ifnonnull 13, 3, (48, [], .null)) := lk_eqE_eq (by decide +kernel)
theorem lk_s75_38_3 : lk_seg 75 [(.aload_n 0, 1, (0, [], .null)), (.aload_n 0, 1, (0, [], .null)), (.iload_n 2, 1, (0, [], .null))] 38 = some 41 := by decide +kernel
theorem lk_i75_41 : lk_ins 75 41 = some (.invokevirtual 146, 3, (1, [(10, 101)], .ref 59)) := lk_eqE_eq (by decide +kernel)
theorem lk_i75_44 : lk_ins 75 44 = some (.invokevirtual 58, 3, (1, [(10, 96)], .ref 41)) := lk_eqE_eq (by decide +kernel)
theorem lk_i75_47 : lk_ins 75 47 = some (.ireturn, 1, (0, [], .null)) := lk_eqE_eq (by decide +kernel)
theorem lk_s75_48_1 : lk_seg 75 [(.aload 4, 2, (0, [], .null))] 48 = some 50 := by decide +kernel
theorem lk_i75_50 : lk_ins 75 50 = some (.getfield 149, 3, (0, [(0, 5), (2, 5), (4, 5), (5, 5), (6, 5)], .null)) := lk_eqE_eq (by decide +kernel)
theorem lk_i75_53 : lk_ins 75 53 = some (.arraylength, 1, (0, [], .null)) := lk_eqE_eq (by decide +kernel)
theorem lk_s75_54_1 : lk_seg 75 [(.bipush 16, 2, (0, [], .int (16)))] 54 = some 56 := by decide +kernel
theorem lk_i75_56 : lk_ins 75 56 = some (.if_icmp .lt 6, 3, (62, [], .null)) := lk_eqE_eq (by decide +kernel)
theorem lk_s75_62_4 : lk_seg 75 [(.aload_n 0, 1, (0, [], .null)), (.iload_n 1, 1, (0, [], .null)), (.aload 4, 2, (0, [], .null)), (.iload_n 3, 1, (0, [], .null))] 62 = some 67 := by decide +kernel
theorem lk_i75_67 : lk_ins 75 67 = some (.invokevirtual 161, 3, (2, [(0, 36), (4, 36)], .ref 62)) := lk_eqE_eq (by decide +kernel)
theorem lk_i75_70 : lk_ins 75 70 = some (.invokestatic 113, 3, (0, [(0, 28)], .ref 50)) := lk_eqE_eq (by decide +kernel)
theorem lk_i75_73 : lk_ins 75 73 = some (.invokevirtual 117, 3, (1, [(10, 98)], .ref 51)) := lk_eqE_eq (by decide +kernel)
theorem lk_i75_76 : lk_ins 75 76 = some (.ireturn, 1, (0, [], .null)) := lk_eqE_eq (by decide +kernel)
theorem lk_s75_59_1 : lk_seg 75 [(.ldc 160, 2, (0, [], .int (-1000003)))] 59 = some 61 := by decide +kernel
theorem lk_i75_61 : lk_ins 75 61 = some (.ireturn, 1, (0, [], .null)) := lk_eqE_eq (by decide +kernel)
set_option maxRecDepth 20000 in
theorem E_x_put {X : lk_X} {d : Nat} {x1 x2 x3 : Int32} {a0 : Nat} {h : lk_H} {Q : Option Value → lk_H → Prop} (H : lk_wxi X d 95 [.int x1] h (fun r2 h1 => (r2 = 0 → Q (some (.int ((-1000001)))) h1) ∧ (¬ r2 = 0 → lk_wxi X d 95 [.int x2] h1 (fun r4 h3 => (r4 = 0 → Q (some (.int ((-1000001)))) h3) ∧ (¬ r4 = 0 → (x3 < 0 → Q (some (.int ((-1000001)))) h3) ∧ (¬ x3 < 0 → (x3 < 4 → lk_vc h3 a0 [(10, 100)] (fun k34 => lk_wxr X d k34 [.ref a0, .int x2] h3 (fun h5 => lk_vc h5 a0 [(10, 101)] (fun k12 => lk_wxi X d k12 [.ref a0, .int x2] h5 (fun r8 h7 => lk_vc h7 a0 [(10, 96)] (fun k11 => lk_wxi X d k11 [.ref a0, .int r8] h7 (fun r10 h9 => Q (some (.int r10)) h9))))) (fun r6 h5 => lk_fR h5 r6 0 [(0, 5), (2, 5), (4, 5), (5, 5), (6, 5)] (fun r13 => lk_al2 h5 r13 (fun r14 => (r14 < 16 → lk_vc h5 r6 [(0, 36), (4, 36)] (fun k33 => lk_wxr X d k33 [.ref r6, .int x3] h5 (fun h15 => lk_wxr X d 28 [.null] h15 (fun h17 => lk_vc h17 a0 [(10, 98)] (fun k21 => lk_wxi X d k21 [.ref a0, .int x1, .null] h17 (fun r20 h19 => Q (some (.int r20)) h19))) (fun r18 h17 => lk_vc h17 a0 [(10, 98)] (fun k24 => lk_wxi X d k24 [.ref a0, .int x1, .ref r18] h17 (fun r23 h22 => Q (some (.int r23)) h22)))) (fun r16 h15 => lk_wxr X d 28 [.ref r16] h15 (fun h25 => lk_vc h25 a0 [(10, 98)] (fun k29 => lk_wxi X d k29 [.ref a0, .int x1, .null] h25 (fun r28 h27 => Q (some (.int r28)) h27))) (fun r26 h25 => lk_vc h25 a0 [(10, 98)] (fun k32 => lk_wxi X d k32 [.ref a0, .int x1, .ref r26] h25 (fun r31 h30 => Q (some (.int r31)) h30)))))) ∧ (¬ r14 < 16 → Q (some (.int ((-1000003)))) h5)))))) ∧ (¬ x3 < 4 → Q (some (.int ((-1000001)))) h3))))))) : lk_wx X (d + 1) 75 [.ref a0, .int x1, .int x2, .int x3] h Q := by
  refine lk_enter (lo := [.ref a0, .int x1, .int x2, .int x3, .retAddr 0]) lk_M75 rfl (Nat.le_of_ble_eq_true rfl) ?_
  refine lk_wp_seg (lo' := [.ref a0, .int x1, .int x2, .int x3, .retAddr 0]) (st' := [.int x1]) lk_M75 lk_s75_0_1 rfl ?_
  refine lk_wp_cs (as := [.int x1]) (r := []) lk_i75_1 lk_M75 rfl rfl rfl rfl (Nat.le_of_ble_eq_true rfl) (lk_gi H (fun r2 h1 H => ?_))
  refine lk_wp_if_eq lk_i75_4 lk_M75 H (fun H => ?_) (fun H => ?_)
  · refine lk_wp_seg (lo' := [.ref a0, .int x1, .int x2, .int x3, .retAddr 0]) (st' := [.int ((-1000001))]) lk_M75 lk_s75_23_1 rfl ?_
    exact lk_wp_ret lk_i75_25 lk_M75 rfl H
  · refine lk_wp_seg (lo' := [.ref a0, .int x1, .int x2, .int x3, .retAddr 0]) (st' := [.int x2]) lk_M75 lk_s75_7_1 rfl ?_
    refine lk_wp_cs (as := [.int x2]) (r := []) lk_i75_8 lk_M75 rfl rfl rfl rfl (Nat.le_of_ble_eq_true rfl) (lk_gi H (fun r4 h3 H => ?_))
    refine lk_wp_if_eq lk_i75_11 lk_M75 H (fun H => ?_) (fun H => ?_)
    · refine lk_wp_seg (lo' := [.ref a0, .int x1, .int x2, .int x3, .retAddr 0]) (st' := [.int ((-1000001))]) lk_M75 lk_s75_23_1 rfl ?_
      exact lk_wp_ret lk_i75_25 lk_M75 rfl H
    · refine lk_wp_seg (lo' := [.ref a0, .int x1, .int x2, .int x3, .retAddr 0]) (st' := [.int x3]) lk_M75 lk_s75_14_1 rfl ?_
      refine lk_wp_if_lt lk_i75_15 lk_M75 H (fun H => ?_) (fun H => ?_)
      · refine lk_wp_seg (lo' := [.ref a0, .int x1, .int x2, .int x3, .retAddr 0]) (st' := [.int ((-1000001))]) lk_M75 lk_s75_23_1 rfl ?_
        exact lk_wp_ret lk_i75_25 lk_M75 rfl H
      · refine lk_wp_seg (lo' := [.ref a0, .int x1, .int x2, .int x3, .retAddr 0]) (st' := [.int 4, .int x3]) lk_M75 lk_s75_18_2 rfl ?_
        refine lk_wp_ic_lt lk_i75_20 lk_M75 H (fun H => ?_) (fun H => ?_)
        · refine lk_wp_seg (lo' := [.ref a0, .int x1, .int x2, .int x3, .retAddr 0]) (st' := [.int x2, .ref a0]) lk_M75 lk_s75_26_2 rfl ?_
          refine lk_wp_cv (as := [.int x2]) (r := []) (a := a0) lk_i75_28 lk_M75 rfl rfl rfl (Nat.le_of_ble_eq_true rfl) H (fun k34 H => lk_gr H (fun h5 H => ?_) (fun r6 h5 H => ?_))
          · refine lk_wp_seg (lo' := [.ref a0, .int x1, .int x2, .int x3, .null]) (st' := [.null]) lk_M75 lk_s75_31_2 rfl ?_
            refine lk_wp_one lk_i75_35 lk_M75 rfl (lk_cal0 rfl) rfl ?_
            refine lk_wp_seg (lo' := [.ref a0, .int x1, .int x2, .int x3, .null]) (st' := [.int x2, .ref a0, .ref a0]) lk_M75 lk_s75_38_3 rfl ?_
            refine lk_wp_cv (as := [.int x2]) (r := [.ref a0]) (a := a0) lk_i75_41 lk_M75 rfl rfl rfl (Nat.le_of_ble_eq_true rfl) H (fun k12 H => lk_gi H (fun r8 h7 H => ?_))
            refine lk_wp_cv (as := [.int r8]) (r := []) (a := a0) lk_i75_44 lk_M75 rfl rfl rfl (Nat.le_of_ble_eq_true rfl) H (fun k11 H => lk_gi H (fun r10 h9 H => ?_))
            exact lk_wp_ret lk_i75_47 lk_M75 rfl H
          · refine lk_wp_seg (lo' := [.ref a0, .int x1, .int x2, .int x3, .ref r6]) (st' := [.ref r6]) lk_M75 lk_s75_31_2 rfl ?_
            refine lk_wp_one lk_i75_35 lk_M75 rfl (lk_cal0 rfl) rfl ?_
            refine lk_wp_seg (lo' := [.ref a0, .int x1, .int x2, .int x3, .ref r6]) (st' := [.ref r6]) lk_M75 lk_s75_48_1 rfl ?_
            refine lk_wp_fR lk_i75_50 lk_M75 H (fun r13 H => ?_)
            refine lk_wp_al lk_i75_53 lk_M75 H (fun r14 H => ?_)
            refine lk_wp_seg (lo' := [.ref a0, .int x1, .int x2, .int x3, .ref r6]) (st' := [.int 16, .int r14]) lk_M75 lk_s75_54_1 rfl ?_
            refine lk_wp_ic_lt lk_i75_56 lk_M75 H (fun H => ?_) (fun H => ?_)
            · refine lk_wp_seg (lo' := [.ref a0, .int x1, .int x2, .int x3, .ref r6]) (st' := [.int x3, .ref r6, .int x1, .ref a0]) lk_M75 lk_s75_62_4 rfl ?_
              refine lk_wp_cv (as := [.int x3]) (r := [.int x1, .ref a0]) (a := r6) lk_i75_67 lk_M75 rfl rfl rfl (Nat.le_of_ble_eq_true rfl) H (fun k33 H => lk_gr H (fun h15 H => ?_) (fun r16 h15 H => ?_))
              · refine lk_wp_cs (as := [.null]) (r := [.int x1, .ref a0]) lk_i75_70 lk_M75 rfl rfl rfl rfl (Nat.le_of_ble_eq_true rfl) (lk_gr H (fun h17 H => ?_) (fun r18 h17 H => ?_))
                · refine lk_wp_cv (as := [.int x1, .null]) (r := []) (a := a0) lk_i75_73 lk_M75 rfl rfl rfl (Nat.le_of_ble_eq_true rfl) H (fun k21 H => lk_gi H (fun r20 h19 H => ?_))
                  exact lk_wp_ret lk_i75_76 lk_M75 rfl H
                · refine lk_wp_cv (as := [.int x1, .ref r18]) (r := []) (a := a0) lk_i75_73 lk_M75 rfl rfl rfl (Nat.le_of_ble_eq_true rfl) H (fun k24 H => lk_gi H (fun r23 h22 H => ?_))
                  exact lk_wp_ret lk_i75_76 lk_M75 rfl H
              · refine lk_wp_cs (as := [.ref r16]) (r := [.int x1, .ref a0]) lk_i75_70 lk_M75 rfl rfl rfl rfl (Nat.le_of_ble_eq_true rfl) (lk_gr H (fun h25 H => ?_) (fun r26 h25 H => ?_))
                · refine lk_wp_cv (as := [.int x1, .null]) (r := []) (a := a0) lk_i75_73 lk_M75 rfl rfl rfl (Nat.le_of_ble_eq_true rfl) H (fun k29 H => lk_gi H (fun r28 h27 H => ?_))
                  exact lk_wp_ret lk_i75_76 lk_M75 rfl H
                · refine lk_wp_cv (as := [.int x1, .ref r26]) (r := []) (a := a0) lk_i75_73 lk_M75 rfl rfl rfl (Nat.le_of_ble_eq_true rfl) H (fun k32 H => lk_gi H (fun r31 h30 H => ?_))
                  exact lk_wp_ret lk_i75_76 lk_M75 rfl H
            · refine lk_wp_seg (lo' := [.ref a0, .int x1, .int x2, .int x3, .ref r6]) (st' := [.int ((-1000003))]) lk_M75 lk_s75_59_1 rfl ?_
              exact lk_wp_ret lk_i75_61 lk_M75 rfl H
        · refine lk_wp_seg (lo' := [.ref a0, .int x1, .int x2, .int x3, .retAddr 0]) (st' := [.int ((-1000001))]) lk_M75 lk_s75_23_1 rfl ?_
          exact lk_wp_ret lk_i75_25 lk_M75 rfl H
/-! LonelyDots.turn(III)I -/
theorem lk_M76 : lk_mt[76]? = some (yX11_turn, cX11_turn, 6, ((some FieldType.int))) := rfl
theorem lk_s76_0_1 : lk_seg 76 [(.iload_n 1, 1, (0, [], .null))] 0 = some 1 := by decide +kernel
theorem lk_i76_1 : lk_ins 76 1 = some (.invokestatic 96, 3, (0, [(0, 95)], .ref 46)) := lk_eqE_eq (by decide +kernel)
theorem lk_i76_4 : lk_ins 76 4 = some (.ifCond .eq 20, 3, (24, [], .null)) := lk_eqE_eq (by decide +kernel)
theorem lk_s76_24_1 : lk_seg 76 [(.ldc 57, 2, (0, [], .int (-1000001)))] 24 = some 26 := by decide +kernel
theorem lk_i76_26 : lk_ins 76 26 = some (.ireturn, 1, (0, [], .null)) := lk_eqE_eq (by decide +kernel)
theorem lk_s76_7_1 : lk_seg 76 [(.iload_n 2, 1, (0, [], .null))] 7 = some 8 := by decide +kernel
theorem lk_i76_8 : lk_ins 76 8 = some (.invokestatic 96, 3, (0, [(0, 95)], .ref 46)) := lk_eqE_eq (by decide +kernel)
theorem lk_i76_11 : lk_ins 76 11 = some (.ifCond .eq 13, 3, (24, [], .null)) := lk_eqE_eq (by decide +kernel)
theorem lk_s76_14_1 : lk_seg 76 [(.iload_n 3, 1, (0, [], .null))] 14 = some 15 := by decide +kernel
theorem lk_i76_15 : lk_ins 76 15 = some (.ifCond .lt 9, 3, (24, [], .null)) := lk_eqE_eq (by decide +kernel)
theorem lk_s76_18_2 : lk_seg 76 [(.iload_n 3, 1, (0, [], .null)), (.bipush 8, 2, (0, [], .int (8)))] 18 = some 21 := by decide +kernel
theorem lk_i76_21 : lk_ins 76 21 = some (.if_icmp .lt 6, 3, (27, [], .null)) := lk_eqE_eq (by decide +kernel)
theorem lk_s76_27_2 : lk_seg 76 [(.aload_n 0, 1, (0, [], .null)), (.iload_n 2, 1, (0, [], .null))] 27 = some 29 := by decide +kernel
theorem lk_i76_29 : lk_ins 76 29 = some (.invokevirtual 142, 3, (1, [(10, 100)], .ref 58)) := lk_eqE_eq (by decide +kernel)
theorem lk_s76_32_2 : lk_seg 76 [(.astore 4, 2, (0, [], .null)), (.aload 4, 2, (0, [], .null))] 32 = some 36 := by decide +kernel
theorem lk_i76_36 : lk_ins 76 36 = some (.ifnonnull 13, 3, (49, [], .null)) := lk_eqE_eq (by decide +kernel)
theorem lk_s76_39_3 : lk_seg 76 [(.aload_n 0, 1, (0, [], .null)), (.aload_n 0, 1, (0, [], .null)), (.iload_n 2, 1, (0, [], .null))] 39 = some 42 := by decide +kernel
theorem lk_i76_42 : lk_ins 76 42 = some (.invokevirtual 146, 3, (1, [(10, 101)], .ref 59)) := lk_eqE_eq (by decide +kernel)
theorem lk_i76_45 : lk_ins 76 45 = some (.invokevirtual 58, 3, (1, [(10, 96)], .ref 41)) := lk_eqE_eq (by decide +kernel)
theorem lk_i76_48 : lk_ins 76 48 = some (.ireturn, 1, (0, [], .null)) := lk_eqE_eq (by decide +kernel)
theorem lk_s76_49_1 : lk_seg 76 [(.aload 4, 2, (0, [], .null))] 49 = some 51 := by decide +kernel
theorem lk_i76_51 : lk_ins 76 51 = some (.getfield 149, 3, (0, [(0, 5), (2, 5), (4, 5), (5, 5), (6, 5)], .null)) := lk_eqE_eq (by decide +kernel)
theorem lk_i76_54 : lk_ins 76 54 = some (.arraylength, 1, (0, [], .null)) := lk_eqE_eq (by decide +kernel)
theorem lk_i76_55 : lk_ins 76 55 = some (.newarray .int, 2, (0, [], .null)) := lk_eqE_eq (by decide +kernel)
theorem lk_s76_57_3 : lk_seg 76 [(.astore 5, 2, (0, [], .null)), (.aload 5, 2, (0, [], .null)), (.aload 4, 2, (0, [], .null))] 57 = some 63 := by decide +kernel
theorem lk_i76_63 : lk_ins 76 63 = some (.getfield 149, 3, (0, [(0, 5), (2, 5), (4, 5), (5, 5), (6, 5)], .null)) := lk_eqE_eq (by decide +kernel)
theorem lk_s76_66_1 : lk_seg 76 [(.iload_n 3, 1, (0, [], .null))] 66 = some 67 := by decide +kernel
theorem lk_i76_67 : lk_ins 76 67 = some (.invokestatic 164, 3, (0, [(0, 30)], .ref 9)) := lk_eqE_eq (by decide +kernel)
theorem lk_s76_70_3 : lk_seg 76 [(.aload_n 0, 1, (0, [], .null)), (.iload_n 1, 1, (0, [], .null)), (.aload 5, 2, (0, [], .null))] 70 = some 74 := by decide +kernel
theorem lk_i76_74 : lk_ins 76 74 = some (.invokestatic 113, 3, (0, [(0, 28)], .ref 50)) := lk_eqE_eq (by decide +kernel)
theorem lk_i76_77 : lk_ins 76 77 = some (.invokevirtual 117, 3, (1, [(10, 98)], .ref 51)) := lk_eqE_eq (by decide +kernel)
theorem lk_i76_80 : lk_ins 76 80 = some (.ireturn, 1, (0, [], .null)) := lk_eqE_eq (by decide +kernel)
set_option maxRecDepth 20000 in
theorem E_x_turn {X : lk_X} {d : Nat} {x1 x2 x3 : Int32} {a0 : Nat} {h : lk_H} {Q : Option Value → lk_H → Prop} (H : lk_wxi X d 95 [.int x1] h (fun r2 h1 => (r2 = 0 → Q (some (.int ((-1000001)))) h1) ∧ (¬ r2 = 0 → lk_wxi X d 95 [.int x2] h1 (fun r4 h3 => (r4 = 0 → Q (some (.int ((-1000001)))) h3) ∧ (¬ r4 = 0 → (x3 < 0 → Q (some (.int ((-1000001)))) h3) ∧ (¬ x3 < 0 → (x3 < 8 → lk_vc h3 a0 [(10, 100)] (fun k25 => lk_wxr X d k25 [.ref a0, .int x2] h3 (fun h5 => lk_vc h5 a0 [(10, 101)] (fun k12 => lk_wxi X d k12 [.ref a0, .int x2] h5 (fun r8 h7 => lk_vc h7 a0 [(10, 96)] (fun k11 => lk_wxi X d k11 [.ref a0, .int r8] h7 (fun r10 h9 => Q (some (.int r10)) h9))))) (fun r6 h5 => lk_fR h5 r6 0 [(0, 5), (2, 5), (4, 5), (5, 5), (6, 5)] (fun r13 => lk_al2 h5 r13 (fun r14 => lk_nw r14 (lk_fR ((h5 ++ [.inl (0, (r14.toNatClampNeg, .inl (fun _ => 0)))])) r6 0 [(0, 5), (2, 5), (4, 5), (5, 5), (6, 5)] (fun r15 => lk_wxv X d 30 [.ref (h5.length), .ref r15, .int x3] ((h5 ++ [.inl (0, (r14.toNatClampNeg, .inl (fun _ => 0)))])) (fun h16 => lk_wxr X d 28 [.ref (h5.length)] h16 (fun h17 => lk_vc h17 a0 [(10, 98)] (fun k21 => lk_wxi X d k21 [.ref a0, .int x1, .null] h17 (fun r20 h19 => Q (some (.int r20)) h19))) (fun r18 h17 => lk_vc h17 a0 [(10, 98)] (fun k24 => lk_wxi X d k24 [.ref a0, .int x1, .ref r18] h17 (fun r23 h22 => Q (some (.int r23)) h22))))))))))) ∧ (¬ x3 < 8 → Q (some (.int ((-1000001)))) h3))))))) : lk_wx X (d + 1) 76 [.ref a0, .int x1, .int x2, .int x3] h Q := by
  refine lk_enter (lo := [.ref a0, .int x1, .int x2, .int x3, .retAddr 0, .retAddr 0]) lk_M76 rfl (Nat.le_of_ble_eq_true rfl) ?_
  refine lk_wp_seg (lo' := [.ref a0, .int x1, .int x2, .int x3, .retAddr 0, .retAddr 0]) (st' := [.int x1]) lk_M76 lk_s76_0_1 rfl ?_
  refine lk_wp_cs (as := [.int x1]) (r := []) lk_i76_1 lk_M76 rfl rfl rfl rfl (Nat.le_of_ble_eq_true rfl) (lk_gi H (fun r2 h1 H => ?_))
  refine lk_wp_if_eq lk_i76_4 lk_M76 H (fun H => ?_) (fun H => ?_)
  · refine lk_wp_seg (lo' := [.ref a0, .int x1, .int x2, .int x3, .retAddr 0, .retAddr 0]) (st' := [.int ((-1000001))]) lk_M76 lk_s76_24_1 rfl ?_
    exact lk_wp_ret lk_i76_26 lk_M76 rfl H
  · refine lk_wp_seg (lo' := [.ref a0, .int x1, .int x2, .int x3, .retAddr 0, .retAddr 0]) (st' := [.int x2]) lk_M76 lk_s76_7_1 rfl ?_
    refine lk_wp_cs (as := [.int x2]) (r := []) lk_i76_8 lk_M76 rfl rfl rfl rfl (Nat.le_of_ble_eq_true rfl) (lk_gi H (fun r4 h3 H => ?_))
    refine lk_wp_if_eq lk_i76_11 lk_M76 H (fun H => ?_) (fun H => ?_)
    · refine lk_wp_seg (lo' := [.ref a0, .int x1, .int x2, .int x3, .retAddr 0, .retAddr 0]) (st' := [.int ((-1000001))]) lk_M76 lk_s76_24_1 rfl ?_
      exact lk_wp_ret lk_i76_26 lk_M76 rfl H
    · refine lk_wp_seg (lo' := [.ref a0, .int x1, .int x2, .int x3, .retAddr 0, .retAddr 0]) (st' := [.int x3]) lk_M76 lk_s76_14_1 rfl ?_
      refine lk_wp_if_lt lk_i76_15 lk_M76 H (fun H => ?_) (fun H => ?_)
      · refine lk_wp_seg (lo' := [.ref a0, .int x1, .int x2, .int x3, .retAddr 0, .retAddr 0]) (st' := [.int ((-1000001))]) lk_M76 lk_s76_24_1 rfl ?_
        exact lk_wp_ret lk_i76_26 lk_M76 rfl H
      · refine lk_wp_seg (lo' := [.ref a0, .int x1, .int x2, .int x3, .retAddr 0, .retAddr 0]) (st' := [.int 8, .int x3]) lk_M76 lk_s76_18_2 rfl ?_
        refine lk_wp_ic_lt lk_i76_21 lk_M76 H (fun H => ?_) (fun H => ?_)
        · refine lk_wp_seg (lo' := [.ref a0, .int x1, .int x2, .int x3, .retAddr 0, .retAddr 0]) (st' := [.int x2, .ref a0]) lk_M76 lk_s76_27_2 rfl ?_
          refine lk_wp_cv (as := [.int x2]) (r := []) (a := a0) lk_i76_29 lk_M76 rfl rfl rfl (Nat.le_of_ble_eq_true rfl) H (fun k25 H => lk_gr H (fun h5 H => ?_) (fun r6 h5 H => ?_))
          · refine lk_wp_seg (lo' := [.ref a0, .int x1, .int x2, .int x3, .null, .retAddr 0]) (st' := [.null]) lk_M76 lk_s76_32_2 rfl ?_
            refine lk_wp_one lk_i76_36 lk_M76 rfl (lk_cal0 rfl) rfl ?_
            refine lk_wp_seg (lo' := [.ref a0, .int x1, .int x2, .int x3, .null, .retAddr 0]) (st' := [.int x2, .ref a0, .ref a0]) lk_M76 lk_s76_39_3 rfl ?_
            refine lk_wp_cv (as := [.int x2]) (r := [.ref a0]) (a := a0) lk_i76_42 lk_M76 rfl rfl rfl (Nat.le_of_ble_eq_true rfl) H (fun k12 H => lk_gi H (fun r8 h7 H => ?_))
            refine lk_wp_cv (as := [.int r8]) (r := []) (a := a0) lk_i76_45 lk_M76 rfl rfl rfl (Nat.le_of_ble_eq_true rfl) H (fun k11 H => lk_gi H (fun r10 h9 H => ?_))
            exact lk_wp_ret lk_i76_48 lk_M76 rfl H
          · refine lk_wp_seg (lo' := [.ref a0, .int x1, .int x2, .int x3, .ref r6, .retAddr 0]) (st' := [.ref r6]) lk_M76 lk_s76_32_2 rfl ?_
            refine lk_wp_one lk_i76_36 lk_M76 rfl (lk_cal0 rfl) rfl ?_
            refine lk_wp_seg (lo' := [.ref a0, .int x1, .int x2, .int x3, .ref r6, .retAddr 0]) (st' := [.ref r6]) lk_M76 lk_s76_49_1 rfl ?_
            refine lk_wp_fR lk_i76_51 lk_M76 H (fun r13 H => ?_)
            refine lk_wp_al lk_i76_54 lk_M76 H (fun r14 H => ?_)
            refine lk_wp_new_int lk_i76_55 lk_M76 H (fun H => ?_)
            refine lk_wp_seg (lo' := [.ref a0, .int x1, .int x2, .int x3, .ref r6, .ref (h5.length)]) (st' := [.ref r6, .ref (h5.length)]) lk_M76 lk_s76_57_3 rfl ?_
            refine lk_wp_fR lk_i76_63 lk_M76 H (fun r15 H => ?_)
            refine lk_wp_seg (lo' := [.ref a0, .int x1, .int x2, .int x3, .ref r6, .ref (h5.length)]) (st' := [.int x3, .ref r15, .ref (h5.length)]) lk_M76 lk_s76_66_1 rfl ?_
            refine lk_wp_cs (as := [.ref (h5.length), .ref r15, .int x3]) (r := []) lk_i76_67 lk_M76 rfl rfl rfl rfl (Nat.le_of_ble_eq_true rfl) (lk_gv H (fun h16 H => ?_))
            refine lk_wp_seg (lo' := [.ref a0, .int x1, .int x2, .int x3, .ref r6, .ref (h5.length)]) (st' := [.ref (h5.length), .int x1, .ref a0]) lk_M76 lk_s76_70_3 rfl ?_
            refine lk_wp_cs (as := [.ref (h5.length)]) (r := [.int x1, .ref a0]) lk_i76_74 lk_M76 rfl rfl rfl rfl (Nat.le_of_ble_eq_true rfl) (lk_gr H (fun h17 H => ?_) (fun r18 h17 H => ?_))
            · refine lk_wp_cv (as := [.int x1, .null]) (r := []) (a := a0) lk_i76_77 lk_M76 rfl rfl rfl (Nat.le_of_ble_eq_true rfl) H (fun k21 H => lk_gi H (fun r20 h19 H => ?_))
              exact lk_wp_ret lk_i76_80 lk_M76 rfl H
            · refine lk_wp_cv (as := [.int x1, .ref r18]) (r := []) (a := a0) lk_i76_77 lk_M76 rfl rfl rfl (Nat.le_of_ble_eq_true rfl) H (fun k24 H => lk_gi H (fun r23 h22 H => ?_))
              exact lk_wp_ret lk_i76_80 lk_M76 rfl H
        · refine lk_wp_seg (lo' := [.ref a0, .int x1, .int x2, .int x3, .retAddr 0, .retAddr 0]) (st' := [.int ((-1000001))]) lk_M76 lk_s76_24_1 rfl ?_
          exact lk_wp_ret lk_i76_26 lk_M76 rfl H
/-! LonelyDots.nth(III)I -/
theorem lk_M77 : lk_mt[77]? = some (yX11_nth, cX11_nth, 5, ((some FieldType.int))) := rfl
theorem lk_s77_0_1 : lk_seg 77 [(.iload_n 1, 1, (0, [], .null))] 0 = some 1 := by decide +kernel
theorem lk_i77_1 : lk_ins 77 1 = some (.invokestatic 96, 3, (0, [(0, 95)], .ref 46)) := lk_eqE_eq (by decide +kernel)
theorem lk_i77_4 : lk_ins 77 4 = some (.ifCond .eq 14, 3, (18, [], .null)) := lk_eqE_eq (by decide +kernel)
theorem lk_s77_18_1 : lk_seg 77 [(.ldc 57, 2, (0, [], .int (-1000001)))] 18 = some 20 := by decide +kernel
theorem lk_i77_20 : lk_ins 77 20 = some (.ireturn, 1, (0, [], .null)) := lk_eqE_eq (by decide +kernel)
theorem lk_s77_7_2 : lk_seg 77 [(.iload_n 2, 1, (0, [], .null)), (.iconst 1, 1, (0, [], .int (1)))] 7 = some 9 := by decide +kernel
theorem lk_i77_9 : lk_ins 77 9 = some (.if_icmp .lt 9, 3, (18, [], .null)) := lk_eqE_eq (by decide +kernel)
theorem lk_s77_12_2 : lk_seg 77 [(.iload_n 2, 1, (0, [], .null)), (.bipush 7, 2, (0, [], .int (7)))] 12 = some 15 := by decide +kernel
theorem lk_i77_15 : lk_ins 77 15 = some (.if_icmp .le 6, 3, (21, [], .null)) := lk_eqE_eq (by decide +kernel)
theorem lk_s77_21_2 : lk_seg 77 [(.aload_n 0, 1, (0, [], .null)), (.iload_n 2, 1, (0, [], .null))] 21 = some 23 := by decide +kernel
theorem lk_i77_23 : lk_ins 77 23 = some (.invokevirtual 168, 3, (1, [(10, 105)], .ref 63)) := lk_eqE_eq (by decide +kernel)
theorem lk_s77_26_2 : lk_seg 77 [(.astore 4, 2, (0, [], .null)), (.iload_n 3, 1, (0, [], .null))] 26 = some 29 := by decide +kernel
theorem lk_i77_29 : lk_ins 77 29 = some (.ifCond .lt 12, 3, (41, [], .null)) := lk_eqE_eq (by decide +kernel)
theorem lk_s77_41_2 : lk_seg 77 [(.aload_n 0, 1, (0, [], .null)), (.ldc 155, 2, (0, [], .int (-1000000)))] 41 = some 44 := by decide +kernel
theorem lk_i77_44 : lk_ins 77 44 = some (.invokevirtual 66, 3, (1, [(10, 97)], .ref 43)) := lk_eqE_eq (by decide +kernel)
theorem lk_i77_47 : lk_ins 77 47 = some (.ireturn, 1, (0, [], .null)) := lk_eqE_eq (by decide +kernel)
theorem lk_s77_32_2 : lk_seg 77 [(.iload_n 3, 1, (0, [], .null)), (.aload 4, 2, (0, [], .null))] 32 = some 35 := by decide +kernel
theorem lk_i77_35 : lk_ins 77 35 = some (.getfield 172, 3, (3, [(1, 0)], .null)) := lk_eqE_eq (by decide +kernel)
theorem lk_i77_38 : lk_ins 77 38 = some (.if_icmp .lt 10, 3, (48, [], .null)) := lk_eqE_eq (by decide +kernel)
theorem lk_s77_48_2 : lk_seg 77 [(.aload_n 0, 1, (0, [], .null)), (.iload_n 1, 1, (0, [], .null))] 48 = some 50 := by decide +kernel
theorem lk_i77_50 : lk_ins 77 50 = some (.new 175, 3, (0, [], .null)) := lk_eqE_eq (by decide +kernel)
theorem lk_s77_53_3 : lk_seg 77 [(.dup, 1, (0, [], .null)), (.aload 4, 2, (0, [], .null)), (.iload_n 3, 1, (0, [], .null))] 53 = some 57 := by decide +kernel
theorem lk_i77_57 : lk_ins 77 57 = some (.invokevirtual 177, 3, (1, [(1, 5)], .ref 64)) := lk_eqE_eq (by decide +kernel)
theorem lk_i77_60 : lk_ins 77 60 = some (.invokespecial 180, 3, (3, [(0, 0)], .ref 22)) := lk_eqE_eq (by decide +kernel)
theorem lk_i77_63 : lk_ins 77 63 = some (.invokevirtual 117, 3, (1, [(10, 98)], .ref 51)) := lk_eqE_eq (by decide +kernel)
theorem lk_i77_66 : lk_ins 77 66 = some (.ireturn, 1, (0, [], .null)) := lk_eqE_eq (by decide +kernel)
set_option maxRecDepth 20000 in
theorem E_x_nth {X : lk_X} {d : Nat} {x1 x2 x3 : Int32} {a0 : Nat} {h : lk_H} {Q : Option Value → lk_H → Prop} (H : lk_wxi X d 95 [.int x1] h (fun r2 h1 => (r2 = 0 → Q (some (.int ((-1000001)))) h1) ∧ (¬ r2 = 0 → (x2 < 1 → Q (some (.int ((-1000001)))) h1) ∧ (¬ x2 < 1 → (x2 ≤ 7 → lk_vc h1 a0 [(10, 105)] (fun k26 => lk_wxr X d k26 [.ref a0, .int x2] h1 (fun h3 => (x3 < 0 → lk_vc h3 a0 [(10, 97)] (fun k7 => lk_wxi X d k7 [.ref a0, .int ((-1000000))] h3 (fun r6 h5 => Q (some (.int r6)) h5))) ∧ (¬ x3 < 0 → False)) (fun r4 h3 => (x3 < 0 → lk_vc h3 a0 [(10, 97)] (fun k10 => lk_wxi X d k10 [.ref a0, .int ((-1000000))] h3 (fun r9 h8 => Q (some (.int r9)) h8))) ∧ (¬ x3 < 0 → lk_fI h3 r4 3 [(1, 0)] (fun r11 => (x3 < r11 → lk_vc ((h3 ++ [.inr (0, [.null])])) r4 [(1, 5)] (fun k22 => lk_wxr X d k22 [.ref r4, .int x3] ((h3 ++ [.inr (0, [.null])])) (fun h12 => lk_ob h12 h3.length (lk_wxv X d 0 [.ref (h3.length), .null] h12 (fun h14 => lk_vc h14 a0 [(10, 98)] (fun k17 => lk_wxi X d k17 [.ref a0, .int x1, .ref (h3.length)] h14 (fun r16 h15 => Q (some (.int r16)) h15))))) (fun r13 h12 => lk_ob h12 h3.length (lk_wxv X d 0 [.ref (h3.length), .ref r13] h12 (fun h18 => lk_vc h18 a0 [(10, 98)] (fun k21 => lk_wxi X d k21 [.ref a0, .int x1, .ref (h3.length)] h18 (fun r20 h19 => Q (some (.int r20)) h19))))))) ∧ (¬ x3 < r11 → lk_vc h3 a0 [(10, 97)] (fun k25 => lk_wxi X d k25 [.ref a0, .int ((-1000000))] h3 (fun r24 h23 => Q (some (.int r24)) h23)))))))) ∧ (¬ x2 ≤ 7 → Q (some (.int ((-1000001)))) h1))))) : lk_wx X (d + 1) 77 [.ref a0, .int x1, .int x2, .int x3] h Q := by
  refine lk_enter (lo := [.ref a0, .int x1, .int x2, .int x3, .retAddr 0]) lk_M77 rfl (Nat.le_of_ble_eq_true rfl) ?_
  refine lk_wp_seg (lo' := [.ref a0, .int x1, .int x2, .int x3, .retAddr 0]) (st' := [.int x1]) lk_M77 lk_s77_0_1 rfl ?_
  refine lk_wp_cs (as := [.int x1]) (r := []) lk_i77_1 lk_M77 rfl rfl rfl rfl (Nat.le_of_ble_eq_true rfl) (lk_gi H (fun r2 h1 H => ?_))
  refine lk_wp_if_eq lk_i77_4 lk_M77 H (fun H => ?_) (fun H => ?_)
  · refine lk_wp_seg (lo' := [.ref a0, .int x1, .int x2, .int x3, .retAddr 0]) (st' := [.int ((-1000001))]) lk_M77 lk_s77_18_1 rfl ?_
    exact lk_wp_ret lk_i77_20 lk_M77 rfl H
  · refine lk_wp_seg (lo' := [.ref a0, .int x1, .int x2, .int x3, .retAddr 0]) (st' := [.int 1, .int x2]) lk_M77 lk_s77_7_2 rfl ?_
    refine lk_wp_ic_lt lk_i77_9 lk_M77 H (fun H => ?_) (fun H => ?_)
    · refine lk_wp_seg (lo' := [.ref a0, .int x1, .int x2, .int x3, .retAddr 0]) (st' := [.int ((-1000001))]) lk_M77 lk_s77_18_1 rfl ?_
      exact lk_wp_ret lk_i77_20 lk_M77 rfl H
    · refine lk_wp_seg (lo' := [.ref a0, .int x1, .int x2, .int x3, .retAddr 0]) (st' := [.int 7, .int x2]) lk_M77 lk_s77_12_2 rfl ?_
      refine lk_wp_ic_le lk_i77_15 lk_M77 H (fun H => ?_) (fun H => ?_)
      · refine lk_wp_seg (lo' := [.ref a0, .int x1, .int x2, .int x3, .retAddr 0]) (st' := [.int x2, .ref a0]) lk_M77 lk_s77_21_2 rfl ?_
        refine lk_wp_cv (as := [.int x2]) (r := []) (a := a0) lk_i77_23 lk_M77 rfl rfl rfl (Nat.le_of_ble_eq_true rfl) H (fun k26 H => lk_gr H (fun h3 H => ?_) (fun r4 h3 H => ?_))
        · refine lk_wp_seg (lo' := [.ref a0, .int x1, .int x2, .int x3, .null]) (st' := [.int x3]) lk_M77 lk_s77_26_2 rfl ?_
          refine lk_wp_if_lt lk_i77_29 lk_M77 H (fun H => ?_) (fun H => ?_)
          · refine lk_wp_seg (lo' := [.ref a0, .int x1, .int x2, .int x3, .null]) (st' := [.int ((-1000000)), .ref a0]) lk_M77 lk_s77_41_2 rfl ?_
            refine lk_wp_cv (as := [.int ((-1000000))]) (r := []) (a := a0) lk_i77_44 lk_M77 rfl rfl rfl (Nat.le_of_ble_eq_true rfl) H (fun k7 H => lk_gi H (fun r6 h5 H => ?_))
            exact lk_wp_ret lk_i77_47 lk_M77 rfl H
          · refine lk_wp_seg (lo' := [.ref a0, .int x1, .int x2, .int x3, .null]) (st' := [.null, .int x3]) lk_M77 lk_s77_32_2 rfl ?_
            exact H.elim
        · refine lk_wp_seg (lo' := [.ref a0, .int x1, .int x2, .int x3, .ref r4]) (st' := [.int x3]) lk_M77 lk_s77_26_2 rfl ?_
          refine lk_wp_if_lt lk_i77_29 lk_M77 H (fun H => ?_) (fun H => ?_)
          · refine lk_wp_seg (lo' := [.ref a0, .int x1, .int x2, .int x3, .ref r4]) (st' := [.int ((-1000000)), .ref a0]) lk_M77 lk_s77_41_2 rfl ?_
            refine lk_wp_cv (as := [.int ((-1000000))]) (r := []) (a := a0) lk_i77_44 lk_M77 rfl rfl rfl (Nat.le_of_ble_eq_true rfl) H (fun k10 H => lk_gi H (fun r9 h8 H => ?_))
            exact lk_wp_ret lk_i77_47 lk_M77 rfl H
          · refine lk_wp_seg (lo' := [.ref a0, .int x1, .int x2, .int x3, .ref r4]) (st' := [.ref r4, .int x3]) lk_M77 lk_s77_32_2 rfl ?_
            refine lk_wp_fI lk_i77_35 lk_M77 H (fun r11 H => ?_)
            refine lk_wp_ic_lt lk_i77_38 lk_M77 H (fun H => ?_) (fun H => ?_)
            · refine lk_wp_seg (lo' := [.ref a0, .int x1, .int x2, .int x3, .ref r4]) (st' := [.int x1, .ref a0]) lk_M77 lk_s77_48_2 rfl ?_
              refine lk_wp_new lk_i77_50 lk_M77 rfl ?_
              refine lk_wp_seg (lo' := [.ref a0, .int x1, .int x2, .int x3, .ref r4]) (st' := [.int x3, .ref r4, .ref (h3.length), .ref (h3.length), .int x1, .ref a0]) lk_M77 lk_s77_53_3 rfl ?_
              refine lk_wp_cv (as := [.int x3]) (r := [.ref (h3.length), .ref (h3.length), .int x1, .ref a0]) (a := r4) lk_i77_57 lk_M77 rfl rfl rfl (Nat.le_of_ble_eq_true rfl) H (fun k22 H => lk_gr H (fun h12 H => ?_) (fun r13 h12 H => ?_))
              · refine lk_wp_cp (as := [.null]) (r := [.ref (h3.length), .int x1, .ref a0]) (a := h3.length) lk_i77_60 lk_M77 rfl rfl rfl rfl (Nat.le_of_ble_eq_true rfl) H (fun H => lk_gv H (fun h14 H => ?_))
                refine lk_wp_cv (as := [.int x1, .ref (h3.length)]) (r := []) (a := a0) lk_i77_63 lk_M77 rfl rfl rfl (Nat.le_of_ble_eq_true rfl) H (fun k17 H => lk_gi H (fun r16 h15 H => ?_))
                exact lk_wp_ret lk_i77_66 lk_M77 rfl H
              · refine lk_wp_cp (as := [.ref r13]) (r := [.ref (h3.length), .int x1, .ref a0]) (a := h3.length) lk_i77_60 lk_M77 rfl rfl rfl rfl (Nat.le_of_ble_eq_true rfl) H (fun H => lk_gv H (fun h18 H => ?_))
                refine lk_wp_cv (as := [.int x1, .ref (h3.length)]) (r := []) (a := a0) lk_i77_63 lk_M77 rfl rfl rfl (Nat.le_of_ble_eq_true rfl) H (fun k21 H => lk_gi H (fun r20 h19 H => ?_))
                exact lk_wp_ret lk_i77_66 lk_M77 rfl H
            · refine lk_wp_seg (lo' := [.ref a0, .int x1, .int x2, .int x3, .ref r4]) (st' := [.int ((-1000000)), .ref a0]) lk_M77 lk_s77_41_2 rfl ?_
              refine lk_wp_cv (as := [.int ((-1000000))]) (r := []) (a := a0) lk_i77_44 lk_M77 rfl rfl rfl (Nat.le_of_ble_eq_true rfl) H (fun k25 H => lk_gi H (fun r24 h23 H => ?_))
              exact lk_wp_ret lk_i77_47 lk_M77 rfl H
      · refine lk_wp_seg (lo' := [.ref a0, .int x1, .int x2, .int x3, .retAddr 0]) (st' := [.int ((-1000001))]) lk_M77 lk_s77_18_1 rfl ?_
        exact lk_wp_ret lk_i77_20 lk_M77 rfl H
/-! LonelyDots.clear(I)I -/
theorem lk_M78 : lk_mt[78]? = some (yX11_clear, cX11_clear, 3, ((some FieldType.int))) := rfl
theorem lk_s78_0_1 : lk_seg 78 [(.iload_n 1, 1, (0, [], .null))] 0 = some 1 := by decide +kernel
theorem lk_i78_1 : lk_ins 78 1 = some (.invokestatic 96, 3, (0, [(0, 95)], .ref 46)) := lk_eqE_eq (by decide +kernel)
theorem lk_i78_4 : lk_ins 78 4 = some (.ifCond .ne 6, 3, (10, [], .null)) := lk_eqE_eq (by decide +kernel)
theorem lk_s78_10_1 : lk_seg 78 [(.aload_n 0, 1, (0, [], .null))] 10 = some 11 := by decide +kernel
theorem lk_i78_11 : lk_ins 78 11 = some (.getfield 17, 3, (1, [(10, 0)], .null)) := lk_eqE_eq (by decide +kernel)
theorem lk_s78_14_1 : lk_seg 78 [(.iload_n 1, 1, (0, [], .null))] 14 = some 15 := by decide +kernel
theorem lk_i78_15 : lk_ins 78 15 = some (.aaload, 1, (0, [], .null)) := lk_eqE_eq (by decide +kernel)
theorem lk_i78_16 : lk_ins 78 16 = some (.ifnonnull 7, 3, (23, [], .null)) := lk_eqE_eq (by decide +kernel)
theorem lk_s78_19_2 : lk_seg 78 [(.iconst 0, 1, (0, [], .int (0))), (.goto 4, 3, (24, [], .null))] 19 = some 24 := by decide +kernel
theorem lk_s78_24_2 : lk_seg 78 [(.istore_n 2, 1, (0, [], .null)), (.aload_n 0, 1, (0, [], .null))] 24 = some 26 := by decide +kernel
theorem lk_i78_26 : lk_ins 78 26 = some (.getfield 17, 3, (1, [(10, 0)], .null)) := lk_eqE_eq (by decide +kernel)
theorem lk_s78_29_2 : lk_seg 78 [(.iload_n 1, 1, (0, [], .null)), (.aconst_null, 1, (0, [], .null))] 29 = some 31 := by decide +kernel
theorem lk_i78_31 : lk_ins 78 31 = some (.aastore, 1, (0, [], .null)) := lk_eqE_eq (by decide +kernel)
theorem lk_s78_32_1 : lk_seg 78 [(.iload_n 2, 1, (0, [], .null))] 32 = some 33 := by decide +kernel
theorem lk_i78_33 : lk_ins 78 33 = some (.ireturn, 1, (0, [], .null)) := lk_eqE_eq (by decide +kernel)
theorem lk_s78_23_3 : lk_seg 78 [(.iconst 1, 1, (0, [], .int (1))), (.istore_n 2, 1, (0, [], .null)), (.aload_n 0, 1, (0, [], .null))] 23 = some 26 := by decide +kernel
theorem lk_s78_7_1 : lk_seg 78 [(.ldc 57, 2, (0, [], .int (-1000001)))] 7 = some 9 := by decide +kernel
theorem lk_i78_9 : lk_ins 78 9 = some (.ireturn, 1, (0, [], .null)) := lk_eqE_eq (by decide +kernel)
set_option maxRecDepth 20000 in
theorem E_x_clear {X : lk_X} {d : Nat} {x1 : Int32} {a0 : Nat} {h : lk_H} {Q : Option Value → lk_H → Prop} (H : lk_wxi X d 95 [.int x1] h (fun r2 h1 => (¬ r2 = 0 → lk_fR h1 a0 1 [(10, 0)] (fun r3 => lk_ra h1 r3 x1 (lk_fR h1 a0 1 [(10, 0)] (fun r5 => lk_rn h1 r5 x1 (fun h6 => Q (some (.int 0)) h6))) (fun r4 => lk_fR h1 a0 1 [(10, 0)] (fun r7 => lk_rn h1 r7 x1 (fun h8 => Q (some (.int 1)) h8))))) ∧ (r2 = 0 → Q (some (.int ((-1000001)))) h1))) : lk_wx X (d + 1) 78 [.ref a0, .int x1] h Q := by
  refine lk_enter (lo := [.ref a0, .int x1, .retAddr 0]) lk_M78 rfl (Nat.le_of_ble_eq_true rfl) ?_
  refine lk_wp_seg (lo' := [.ref a0, .int x1, .retAddr 0]) (st' := [.int x1]) lk_M78 lk_s78_0_1 rfl ?_
  refine lk_wp_cs (as := [.int x1]) (r := []) lk_i78_1 lk_M78 rfl rfl rfl rfl (Nat.le_of_ble_eq_true rfl) (lk_gi H (fun r2 h1 H => ?_))
  refine lk_wp_if_ne lk_i78_4 lk_M78 H (fun H => ?_) (fun H => ?_)
  · refine lk_wp_seg (lo' := [.ref a0, .int x1, .retAddr 0]) (st' := [.ref a0]) lk_M78 lk_s78_10_1 rfl ?_
    refine lk_wp_fR lk_i78_11 lk_M78 H (fun r3 H => ?_)
    refine lk_wp_seg (lo' := [.ref a0, .int x1, .retAddr 0]) (st' := [.int x1, .ref r3]) lk_M78 lk_s78_14_1 rfl ?_
    refine lk_wp_ra lk_i78_15 lk_M78 H ⟨fun H => ?_, fun r4 H => ?_⟩
    · refine lk_wp_one lk_i78_16 lk_M78 rfl (lk_cal0 rfl) rfl ?_
      refine lk_wp_seg (lo' := [.ref a0, .int x1, .retAddr 0]) (st' := [.int 0]) lk_M78 lk_s78_19_2 rfl ?_
      refine lk_wp_seg (lo' := [.ref a0, .int x1, .int 0]) (st' := [.ref a0]) lk_M78 lk_s78_24_2 rfl ?_
      refine lk_wp_fR lk_i78_26 lk_M78 H (fun r5 H => ?_)
      refine lk_wp_seg (lo' := [.ref a0, .int x1, .int 0]) (st' := [.null, .int x1, .ref r5]) lk_M78 lk_s78_29_2 rfl ?_
      refine lk_wp_rn lk_i78_31 lk_M78 H (fun h6 H => ?_)
      refine lk_wp_seg (lo' := [.ref a0, .int x1, .int 0]) (st' := [.int 0]) lk_M78 lk_s78_32_1 rfl ?_
      exact lk_wp_ret lk_i78_33 lk_M78 rfl H
    · refine lk_wp_one lk_i78_16 lk_M78 rfl (lk_cal0 rfl) rfl ?_
      refine lk_wp_seg (lo' := [.ref a0, .int x1, .int 1]) (st' := [.ref a0]) lk_M78 lk_s78_23_3 rfl ?_
      refine lk_wp_fR lk_i78_26 lk_M78 H (fun r7 H => ?_)
      refine lk_wp_seg (lo' := [.ref a0, .int x1, .int 1]) (st' := [.null, .int x1, .ref r7]) lk_M78 lk_s78_29_2 rfl ?_
      refine lk_wp_rn lk_i78_31 lk_M78 H (fun h8 H => ?_)
      refine lk_wp_seg (lo' := [.ref a0, .int x1, .int 1]) (st' := [.int 1]) lk_M78 lk_s78_32_1 rfl ?_
      exact lk_wp_ret lk_i78_33 lk_M78 rfl H
  · refine lk_wp_seg (lo' := [.ref a0, .int x1, .retAddr 0]) (st' := [.int ((-1000001))]) lk_M78 lk_s78_7_1 rfl ?_
    exact lk_wp_ret lk_i78_9 lk_M78 rfl H
/-! LonelyDots.kind(I)I -/
theorem lk_M79 : lk_mt[79]? = some (yX11_kind, cX11_kind, 3, ((some FieldType.int))) := rfl
theorem lk_s79_0_1 : lk_seg 79 [(.iload_n 1, 1, (0, [], .null))] 0 = some 1 := by decide +kernel
theorem lk_i79_1 : lk_ins 79 1 = some (.invokestatic 96, 3, (0, [(0, 95)], .ref 46)) := lk_eqE_eq (by decide +kernel)
theorem lk_i79_4 : lk_ins 79 4 = some (.ifCond .ne 6, 3, (10, [], .null)) := lk_eqE_eq (by decide +kernel)
theorem lk_s79_10_1 : lk_seg 79 [(.aload_n 0, 1, (0, [], .null))] 10 = some 11 := by decide +kernel
theorem lk_i79_11 : lk_ins 79 11 = some (.getfield 17, 3, (1, [(10, 0)], .null)) := lk_eqE_eq (by decide +kernel)
theorem lk_s79_14_1 : lk_seg 79 [(.iload_n 1, 1, (0, [], .null))] 14 = some 15 := by decide +kernel
theorem lk_i79_15 : lk_ins 79 15 = some (.aaload, 1, (0, [], .null)) := lk_eqE_eq (by decide +kernel)
theorem lk_s79_16_2 : lk_seg 79 [(.astore_n 2, 1, (0, [], .null)), (.aload_n 2, 1, (0, [], .null))] 16 = some 18 := by decide +kernel
theorem lk_i79_18 : lk_ins 79 18 = some (.ifnonnull 11, 3, (29, [], .null)) := lk_eqE_eq (by decide +kernel)
theorem lk_s79_21_2 : lk_seg 79 [(.aload_n 0, 1, (0, [], .null)), (.iconst 1, 1, (0, [], .int (1)))] 21 = some 23 := by decide +kernel
theorem lk_i79_23 : lk_ins 79 23 = some (.invokevirtual 58, 3, (1, [(10, 96)], .ref 41)) := lk_eqE_eq (by decide +kernel)
theorem lk_s79_26_1 : lk_seg 79 [(.goto 11, 3, (37, [], .null))] 26 = some 37 := by decide +kernel
theorem lk_i79_37 : lk_ins 79 37 = some (.ireturn, 1, (0, [], .null)) := lk_eqE_eq (by decide +kernel)
theorem lk_s79_29_2 : lk_seg 79 [(.aload_n 0, 1, (0, [], .null)), (.aload_n 2, 1, (0, [], .null))] 29 = some 31 := by decide +kernel
theorem lk_i79_31 : lk_ins 79 31 = some (.invokevirtual 183, 3, (2, [(0, 1), (2, 15), (4, 31), (5, 40), (6, 43)], .ref 65)) := lk_eqE_eq (by decide +kernel)
theorem lk_i79_34 : lk_ins 79 34 = some (.invokevirtual 66, 3, (1, [(10, 97)], .ref 43)) := lk_eqE_eq (by decide +kernel)
theorem lk_s79_7_1 : lk_seg 79 [(.ldc 57, 2, (0, [], .int (-1000001)))] 7 = some 9 := by decide +kernel
theorem lk_i79_9 : lk_ins 79 9 = some (.ireturn, 1, (0, [], .null)) := lk_eqE_eq (by decide +kernel)
set_option maxRecDepth 20000 in
theorem E_x_kind {X : lk_X} {d : Nat} {x1 : Int32} {a0 : Nat} {h : lk_H} {Q : Option Value → lk_H → Prop} (H : lk_wxi X d 95 [.int x1] h (fun r2 h1 => (¬ r2 = 0 → lk_fR h1 a0 1 [(10, 0)] (fun r3 => lk_ra h1 r3 x1 (lk_vc h1 a0 [(10, 96)] (fun k7 => lk_wxi X d k7 [.ref a0, .int 1] h1 (fun r6 h5 => Q (some (.int r6)) h5))) (fun r4 => lk_vc h1 r4 [(0, 1), (2, 15), (4, 31), (5, 40), (6, 43)] (fun k13 => lk_wxi X d k13 [.ref r4] h1 (fun r9 h8 => lk_vc h8 a0 [(10, 97)] (fun k12 => lk_wxi X d k12 [.ref a0, .int r9] h8 (fun r11 h10 => Q (some (.int r11)) h10))))))) ∧ (r2 = 0 → Q (some (.int ((-1000001)))) h1))) : lk_wx X (d + 1) 79 [.ref a0, .int x1] h Q := by
  refine lk_enter (lo := [.ref a0, .int x1, .retAddr 0]) lk_M79 rfl (Nat.le_of_ble_eq_true rfl) ?_
  refine lk_wp_seg (lo' := [.ref a0, .int x1, .retAddr 0]) (st' := [.int x1]) lk_M79 lk_s79_0_1 rfl ?_
  refine lk_wp_cs (as := [.int x1]) (r := []) lk_i79_1 lk_M79 rfl rfl rfl rfl (Nat.le_of_ble_eq_true rfl) (lk_gi H (fun r2 h1 H => ?_))
  refine lk_wp_if_ne lk_i79_4 lk_M79 H (fun H => ?_) (fun H => ?_)
  · refine lk_wp_seg (lo' := [.ref a0, .int x1, .retAddr 0]) (st' := [.ref a0]) lk_M79 lk_s79_10_1 rfl ?_
    refine lk_wp_fR lk_i79_11 lk_M79 H (fun r3 H => ?_)
    refine lk_wp_seg (lo' := [.ref a0, .int x1, .retAddr 0]) (st' := [.int x1, .ref r3]) lk_M79 lk_s79_14_1 rfl ?_
    refine lk_wp_ra lk_i79_15 lk_M79 H ⟨fun H => ?_, fun r4 H => ?_⟩
    · refine lk_wp_seg (lo' := [.ref a0, .int x1, .null]) (st' := [.null]) lk_M79 lk_s79_16_2 rfl ?_
      refine lk_wp_one lk_i79_18 lk_M79 rfl (lk_cal0 rfl) rfl ?_
      refine lk_wp_seg (lo' := [.ref a0, .int x1, .null]) (st' := [.int 1, .ref a0]) lk_M79 lk_s79_21_2 rfl ?_
      refine lk_wp_cv (as := [.int 1]) (r := []) (a := a0) lk_i79_23 lk_M79 rfl rfl rfl (Nat.le_of_ble_eq_true rfl) H (fun k7 H => lk_gi H (fun r6 h5 H => ?_))
      refine lk_wp_seg (lo' := [.ref a0, .int x1, .null]) (st' := [.int r6]) lk_M79 lk_s79_26_1 rfl ?_
      exact lk_wp_ret lk_i79_37 lk_M79 rfl H
    · refine lk_wp_seg (lo' := [.ref a0, .int x1, .ref r4]) (st' := [.ref r4]) lk_M79 lk_s79_16_2 rfl ?_
      refine lk_wp_one lk_i79_18 lk_M79 rfl (lk_cal0 rfl) rfl ?_
      refine lk_wp_seg (lo' := [.ref a0, .int x1, .ref r4]) (st' := [.ref r4, .ref a0]) lk_M79 lk_s79_29_2 rfl ?_
      refine lk_wp_cv (as := []) (r := [.ref a0]) (a := r4) lk_i79_31 lk_M79 rfl rfl rfl (Nat.le_of_ble_eq_true rfl) H (fun k13 H => lk_gi H (fun r9 h8 H => ?_))
      refine lk_wp_cv (as := [.int r9]) (r := []) (a := a0) lk_i79_34 lk_M79 rfl rfl rfl (Nat.le_of_ble_eq_true rfl) H (fun k12 H => lk_gi H (fun r11 h10 H => ?_))
      exact lk_wp_ret lk_i79_37 lk_M79 rfl H
  · refine lk_wp_seg (lo' := [.ref a0, .int x1, .retAddr 0]) (st' := [.int ((-1000001))]) lk_M79 lk_s79_7_1 rfl ?_
    exact lk_wp_ret lk_i79_9 lk_M79 rfl H
