/-! LonelyDotsModel.<init>()V -/
theorem lk_M111 : lk_mt[111]? = some (yX12_init, cX12_init, 1, ((none))) := rfl
theorem lk_s111_0_1 : lk_seg 111 [(.aload_n 0, 1, (0, [], .null))] 0 = some 1 := by decide +kernel
theorem lk_i111_1 : lk_ins 111 1 = some (.invokespecial 1, 3, (100, [], .null)) := lk_eqE_eq (by decide +kernel)
theorem lk_s111_4_2 : lk_seg 111 [(.aload_n 0, 1, (0, [], .null)), (.bipush 8, 2, (0, [], .int (8)))] 4 = some 7 := by decide +kernel
theorem lk_i111_7 : lk_ins 111 7 = some (.newarray .int, 2, (0, [], .null)) := lk_eqE_eq (by decide +kernel)
theorem lk_i111_9 : lk_ins 111 9 = some (.putfield 7, 3, (0, [(11, 0)], .null)) := lk_eqE_eq (by decide +kernel)
theorem lk_s111_12_2 : lk_seg 111 [(.aload_n 0, 1, (0, [], .null)), (.bipush 8, 2, (0, [], .int (8)))] 12 = some 15 := by decide +kernel
theorem lk_i111_15 : lk_ins 111 15 = some (.newarray .int, 2, (0, [], .null)) := lk_eqE_eq (by decide +kernel)
theorem lk_i111_17 : lk_ins 111 17 = some (.putfield 13, 3, (1, [(11, 0)], .null)) := lk_eqE_eq (by decide +kernel)
theorem lk_s111_20_2 : lk_seg 111 [(.aload_n 0, 1, (0, [], .null)), (.sipush 480, 3, (0, [], .int (480)))] 20 = some 24 := by decide +kernel
theorem lk_i111_24 : lk_ins 111 24 = some (.newarray .int, 2, (0, [], .null)) := lk_eqE_eq (by decide +kernel)
theorem lk_i111_26 : lk_ins 111 26 = some (.putfield 16, 3, (2, [(11, 0)], .null)) := lk_eqE_eq (by decide +kernel)
theorem lk_s111_29_2 : lk_seg 111 [(.aload_n 0, 1, (0, [], .null)), (.bipush 60, 2, (0, [], .int (60)))] 29 = some 32 := by decide +kernel
theorem lk_i111_32 : lk_ins 111 32 = some (.newarray .int, 2, (0, [], .null)) := lk_eqE_eq (by decide +kernel)
theorem lk_i111_34 : lk_ins 111 34 = some (.putfield 19, 3, (3, [(11, 0)], .null)) := lk_eqE_eq (by decide +kernel)
theorem lk_s111_37_2 : lk_seg 111 [(.aload_n 0, 1, (0, [], .null)), (.bipush 11, 2, (0, [], .int (11)))] 37 = some 40 := by decide +kernel
theorem lk_i111_40 : lk_ins 111 40 = some (.newarray .int, 2, (0, [], .null)) := lk_eqE_eq (by decide +kernel)
theorem lk_i111_42 : lk_ins 111 42 = some (.putfield 22, 3, (4, [(11, 0)], .null)) := lk_eqE_eq (by decide +kernel)
theorem lk_s111_45_2 : lk_seg 111 [(.aload_n 0, 1, (0, [], .null)), (.bipush 11, 2, (0, [], .int (11)))] 45 = some 48 := by decide +kernel
theorem lk_i111_48 : lk_ins 111 48 = some (.newarray .int, 2, (0, [], .null)) := lk_eqE_eq (by decide +kernel)
theorem lk_i111_50 : lk_ins 111 50 = some (.putfield 25, 3, (5, [(11, 0)], .null)) := lk_eqE_eq (by decide +kernel)
theorem lk_s111_53_2 : lk_seg 111 [(.aload_n 0, 1, (0, [], .null)), (.sipush 176, 3, (0, [], .int (176)))] 53 = some 57 := by decide +kernel
theorem lk_i111_57 : lk_ins 111 57 = some (.newarray .int, 2, (0, [], .null)) := lk_eqE_eq (by decide +kernel)
theorem lk_i111_59 : lk_ins 111 59 = some (.putfield 28, 3, (6, [(11, 0)], .null)) := lk_eqE_eq (by decide +kernel)
theorem lk_s111_62_2 : lk_seg 111 [(.aload_n 0, 1, (0, [], .null)), (.bipush 16, 2, (0, [], .int (16)))] 62 = some 65 := by decide +kernel
theorem lk_i111_65 : lk_ins 111 65 = some (.newarray .int, 2, (0, [], .null)) := lk_eqE_eq (by decide +kernel)
theorem lk_i111_67 : lk_ins 111 67 = some (.putfield 31, 3, (8, [(11, 0)], .null)) := lk_eqE_eq (by decide +kernel)
theorem lk_s111_70_2 : lk_seg 111 [(.aload_n 0, 1, (0, [], .null)), (.iconst 4, 1, (0, [], .int (4)))] 70 = some 72 := by decide +kernel
theorem lk_i111_72 : lk_ins 111 72 = some (.newarray .int, 2, (0, [], .null)) := lk_eqE_eq (by decide +kernel)
theorem lk_i111_74 : lk_ins 111 74 = some (.putfield 34, 3, (10, [(11, 0)], .null)) := lk_eqE_eq (by decide +kernel)
theorem lk_s111_77_2 : lk_seg 111 [(.aload_n 0, 1, (0, [], .null)), (.bipush 16, 2, (0, [], .int (16)))] 77 = some 80 := by decide +kernel
theorem lk_i111_80 : lk_ins 111 80 = some (.newarray .boolean, 2, (0, [], .null)) := lk_eqE_eq (by decide +kernel)
theorem lk_i111_82 : lk_ins 111 82 = some (.putfield 37, 3, (11, [(11, 0)], .null)) := lk_eqE_eq (by decide +kernel)
theorem lk_s111_85_2 : lk_seg 111 [(.aload_n 0, 1, (0, [], .null)), (.bipush 8, 2, (0, [], .int (8)))] 85 = some 88 := by decide +kernel
theorem lk_i111_88 : lk_ins 111 88 = some (.newarray .int, 2, (0, [], .null)) := lk_eqE_eq (by decide +kernel)
theorem lk_i111_90 : lk_ins 111 90 = some (.putfield 41, 3, (12, [(11, 0)], .null)) := lk_eqE_eq (by decide +kernel)
theorem lk_s111_93_2 : lk_seg 111 [(.aload_n 0, 1, (0, [], .null)), (.bipush 8, 2, (0, [], .int (8)))] 93 = some 96 := by decide +kernel
theorem lk_i111_96 : lk_ins 111 96 = some (.newarray .int, 2, (0, [], .null)) := lk_eqE_eq (by decide +kernel)
theorem lk_i111_98 : lk_ins 111 98 = some (.putfield 44, 3, (13, [(11, 0)], .null)) := lk_eqE_eq (by decide +kernel)
theorem lk_s111_101_2 : lk_seg 111 [(.aload_n 0, 1, (0, [], .null)), (.bipush 7, 2, (0, [], .int (7)))] 101 = some 104 := by decide +kernel
theorem lk_i111_104 : lk_ins 111 104 = some (.newarray .int, 2, (0, [], .null)) := lk_eqE_eq (by decide +kernel)
theorem lk_i111_106 : lk_ins 111 106 = some (.putfield 47, 3, (15, [(11, 0)], .null)) := lk_eqE_eq (by decide +kernel)
theorem lk_s111_109_2 : lk_seg 111 [(.aload_n 0, 1, (0, [], .null)), (.bipush 6, 2, (0, [], .int (6)))] 109 = some 112 := by decide +kernel
theorem lk_i111_112 : lk_ins 111 112 = some (.newarray .int, 2, (0, [], .null)) := lk_eqE_eq (by decide +kernel)
theorem lk_i111_114 : lk_ins 111 114 = some (.putfield 50, 3, (16, [(11, 0)], .null)) := lk_eqE_eq (by decide +kernel)
theorem lk_i111_117 : lk_ins 111 117 = some (.return_, 1, (0, [], .null)) := lk_eqE_eq (by decide +kernel)
set_option maxRecDepth 20000 in
theorem E_m_init {X : lk_X} {d : Nat} {a0 : Nat} {h : lk_H} {Q : Option Value → lk_H → Prop} (H : lk_nw (8 : Int32) (lk_pf ((h ++ [.inl (0, ((8 : Int32).toNatClampNeg, .inl (fun _ => 0)))])) a0 0 [(11, 0)] (.ref (h.length)) (fun h1 => lk_nw (8 : Int32) (lk_pf ((h1 ++ [.inl (0, ((8 : Int32).toNatClampNeg, .inl (fun _ => 0)))])) a0 1 [(11, 0)] (.ref (h1.length)) (fun h2 => lk_nw (480 : Int32) (lk_pf ((h2 ++ [.inl (0, ((480 : Int32).toNatClampNeg, .inl (fun _ => 0)))])) a0 2 [(11, 0)] (.ref (h2.length)) (fun h3 => lk_nw (60 : Int32) (lk_pf ((h3 ++ [.inl (0, ((60 : Int32).toNatClampNeg, .inl (fun _ => 0)))])) a0 3 [(11, 0)] (.ref (h3.length)) (fun h4 => lk_nw (11 : Int32) (lk_pf ((h4 ++ [.inl (0, ((11 : Int32).toNatClampNeg, .inl (fun _ => 0)))])) a0 4 [(11, 0)] (.ref (h4.length)) (fun h5 => lk_nw (11 : Int32) (lk_pf ((h5 ++ [.inl (0, ((11 : Int32).toNatClampNeg, .inl (fun _ => 0)))])) a0 5 [(11, 0)] (.ref (h5.length)) (fun h6 => lk_nw (176 : Int32) (lk_pf ((h6 ++ [.inl (0, ((176 : Int32).toNatClampNeg, .inl (fun _ => 0)))])) a0 6 [(11, 0)] (.ref (h6.length)) (fun h7 => lk_nw (16 : Int32) (lk_pf ((h7 ++ [.inl (0, ((16 : Int32).toNatClampNeg, .inl (fun _ => 0)))])) a0 8 [(11, 0)] (.ref (h7.length)) (fun h8 => lk_nw (4 : Int32) (lk_pf ((h8 ++ [.inl (0, ((4 : Int32).toNatClampNeg, .inl (fun _ => 0)))])) a0 10 [(11, 0)] (.ref (h8.length)) (fun h9 => lk_nw (16 : Int32) (lk_pf ((h9 ++ [.inl (1, ((16 : Int32).toNatClampNeg, .inl (fun _ => 0)))])) a0 11 [(11, 0)] (.ref (h9.length)) (fun h10 => lk_nw (8 : Int32) (lk_pf ((h10 ++ [.inl (0, ((8 : Int32).toNatClampNeg, .inl (fun _ => 0)))])) a0 12 [(11, 0)] (.ref (h10.length)) (fun h11 => lk_nw (8 : Int32) (lk_pf ((h11 ++ [.inl (0, ((8 : Int32).toNatClampNeg, .inl (fun _ => 0)))])) a0 13 [(11, 0)] (.ref (h11.length)) (fun h12 => lk_nw (7 : Int32) (lk_pf ((h12 ++ [.inl (0, ((7 : Int32).toNatClampNeg, .inl (fun _ => 0)))])) a0 15 [(11, 0)] (.ref (h12.length)) (fun h13 => lk_nw (6 : Int32) (lk_pf ((h13 ++ [.inl (0, ((6 : Int32).toNatClampNeg, .inl (fun _ => 0)))])) a0 16 [(11, 0)] (.ref (h13.length)) (fun h14 => Q none h14))))))))))))))))))))))))))))) : lk_wx X (d + 1) 111 [.ref a0] h Q := by
  refine lk_enter (lo := [.ref a0]) lk_M111 rfl (Nat.le_of_ble_eq_true rfl) ?_
  refine lk_wp_seg (lo' := [.ref a0]) (st' := [.ref a0]) lk_M111 lk_s111_0_1 rfl ?_
  refine lk_wp_one lk_i111_1 lk_M111 rfl rfl rfl ?_
  refine lk_wp_seg (lo' := [.ref a0]) (st' := [.int 8, .ref a0]) lk_M111 lk_s111_4_2 rfl ?_
  refine lk_wp_new_int lk_i111_7 lk_M111 H (fun H => ?_)
  refine lk_wp_pf lk_i111_9 lk_M111 H (fun h1 H => ?_)
  refine lk_wp_seg (lo' := [.ref a0]) (st' := [.int 8, .ref a0]) lk_M111 lk_s111_12_2 rfl ?_
  refine lk_wp_new_int lk_i111_15 lk_M111 H (fun H => ?_)
  refine lk_wp_pf lk_i111_17 lk_M111 H (fun h2 H => ?_)
  refine lk_wp_seg (lo' := [.ref a0]) (st' := [.int 480, .ref a0]) lk_M111 lk_s111_20_2 rfl ?_
  refine lk_wp_new_int lk_i111_24 lk_M111 H (fun H => ?_)
  refine lk_wp_pf lk_i111_26 lk_M111 H (fun h3 H => ?_)
  refine lk_wp_seg (lo' := [.ref a0]) (st' := [.int 60, .ref a0]) lk_M111 lk_s111_29_2 rfl ?_
  refine lk_wp_new_int lk_i111_32 lk_M111 H (fun H => ?_)
  refine lk_wp_pf lk_i111_34 lk_M111 H (fun h4 H => ?_)
  refine lk_wp_seg (lo' := [.ref a0]) (st' := [.int 11, .ref a0]) lk_M111 lk_s111_37_2 rfl ?_
  refine lk_wp_new_int lk_i111_40 lk_M111 H (fun H => ?_)
  refine lk_wp_pf lk_i111_42 lk_M111 H (fun h5 H => ?_)
  refine lk_wp_seg (lo' := [.ref a0]) (st' := [.int 11, .ref a0]) lk_M111 lk_s111_45_2 rfl ?_
  refine lk_wp_new_int lk_i111_48 lk_M111 H (fun H => ?_)
  refine lk_wp_pf lk_i111_50 lk_M111 H (fun h6 H => ?_)
  refine lk_wp_seg (lo' := [.ref a0]) (st' := [.int 176, .ref a0]) lk_M111 lk_s111_53_2 rfl ?_
  refine lk_wp_new_int lk_i111_57 lk_M111 H (fun H => ?_)
  refine lk_wp_pf lk_i111_59 lk_M111 H (fun h7 H => ?_)
  refine lk_wp_seg (lo' := [.ref a0]) (st' := [.int 16, .ref a0]) lk_M111 lk_s111_62_2 rfl ?_
  refine lk_wp_new_int lk_i111_65 lk_M111 H (fun H => ?_)
  refine lk_wp_pf lk_i111_67 lk_M111 H (fun h8 H => ?_)
  refine lk_wp_seg (lo' := [.ref a0]) (st' := [.int 4, .ref a0]) lk_M111 lk_s111_70_2 rfl ?_
  refine lk_wp_new_int lk_i111_72 lk_M111 H (fun H => ?_)
  refine lk_wp_pf lk_i111_74 lk_M111 H (fun h9 H => ?_)
  refine lk_wp_seg (lo' := [.ref a0]) (st' := [.int 16, .ref a0]) lk_M111 lk_s111_77_2 rfl ?_
  refine lk_wp_new_bool lk_i111_80 lk_M111 H (fun H => ?_)
  refine lk_wp_pf lk_i111_82 lk_M111 H (fun h10 H => ?_)
  refine lk_wp_seg (lo' := [.ref a0]) (st' := [.int 8, .ref a0]) lk_M111 lk_s111_85_2 rfl ?_
  refine lk_wp_new_int lk_i111_88 lk_M111 H (fun H => ?_)
  refine lk_wp_pf lk_i111_90 lk_M111 H (fun h11 H => ?_)
  refine lk_wp_seg (lo' := [.ref a0]) (st' := [.int 8, .ref a0]) lk_M111 lk_s111_93_2 rfl ?_
  refine lk_wp_new_int lk_i111_96 lk_M111 H (fun H => ?_)
  refine lk_wp_pf lk_i111_98 lk_M111 H (fun h12 H => ?_)
  refine lk_wp_seg (lo' := [.ref a0]) (st' := [.int 7, .ref a0]) lk_M111 lk_s111_101_2 rfl ?_
  refine lk_wp_new_int lk_i111_104 lk_M111 H (fun H => ?_)
  refine lk_wp_pf lk_i111_106 lk_M111 H (fun h13 H => ?_)
  refine lk_wp_seg (lo' := [.ref a0]) (st' := [.int 6, .ref a0]) lk_M111 lk_s111_109_2 rfl ?_
  refine lk_wp_new_int lk_i111_112 lk_M111 H (fun H => ?_)
  refine lk_wp_pf lk_i111_114 lk_M111 H (fun h14 H => ?_)
  exact lk_wp_ret lk_i111_117 lk_M111 rfl H
/-! LonelyDotsModel.in(JJJ)Z -/
theorem lk_M112 : lk_mt[112]? = some (yX12_in, cX12_in, 6, ((some FieldType.boolean))) := rfl
theorem lk_s112_0_3 : lk_seg 112 [(.lload_n 0, 1, (0, [], .null)), (.lload_n 2, 1, (0, [], .null)), (.lcmp, 1, (0, [], .null))] 0 = some 3 := by decide +kernel
theorem lk_i112_3 : lk_ins 112 3 = some (.ifCond .lt 14, 3, (17, [], .null)) := lk_eqE_eq (by decide +kernel)
theorem lk_s112_17_1 : lk_seg 112 [(.iconst 0, 1, (0, [], .int (0)))] 17 = some 18 := by decide +kernel
theorem lk_i112_18 : lk_ins 112 18 = some (.ireturn, 1, (0, [], .null)) := lk_eqE_eq (by decide +kernel)
theorem lk_s112_6_3 : lk_seg 112 [(.lload_n 0, 1, (0, [], .null)), (.lload 4, 2, (0, [], .null)), (.lcmp, 1, (0, [], .null))] 6 = some 10 := by decide +kernel
theorem lk_i112_10 : lk_ins 112 10 = some (.ifCond .gt 7, 3, (17, [], .null)) := lk_eqE_eq (by decide +kernel)
theorem lk_s112_13_2 : lk_seg 112 [(.iconst 1, 1, (0, [], .int (1))), (.goto 4, 3, (18, [], .null))] 13 = some 18 := by decide +kernel
set_option maxRecDepth 20000 in
theorem E_m_in {X : lk_X} {d : Nat} {l0 l2 l4 : Int64} {h : lk_H} {Q : Option Value → lk_H → Prop} (H : ((lg_cmp l0 l2) < 0 → Q (some (.int 0)) h) ∧ (¬ (lg_cmp l0 l2) < 0 → (0 < (lg_cmp l0 l4) → Q (some (.int 0)) h) ∧ (¬ 0 < (lg_cmp l0 l4) → Q (some (.int 1)) h))) : lk_wx X (d + 1) 112 [.long l0, .long l2, .long l4] h Q := by
  refine lk_enter (lo := [.long l0, .retAddr 0, .long l2, .retAddr 0, .long l4, .retAddr 0]) lk_M112 rfl (Nat.le_of_ble_eq_true rfl) ?_
  refine lk_wp_seg (lo' := [.long l0, .retAddr 0, .long l2, .retAddr 0, .long l4, .retAddr 0]) (st' := [.int (lg_cmp l0 l2)]) lk_M112 lk_s112_0_3 rfl ?_
  refine lk_wp_if_lt lk_i112_3 lk_M112 H (fun H => ?_) (fun H => ?_)
  · refine lk_wp_seg (lo' := [.long l0, .retAddr 0, .long l2, .retAddr 0, .long l4, .retAddr 0]) (st' := [.int 0]) lk_M112 lk_s112_17_1 rfl ?_
    exact lk_wp_ret lk_i112_18 lk_M112 rfl H
  · refine lk_wp_seg (lo' := [.long l0, .retAddr 0, .long l2, .retAddr 0, .long l4, .retAddr 0]) (st' := [.int (lg_cmp l0 l4)]) lk_M112 lk_s112_6_3 rfl ?_
    refine lk_wp_if_gt lk_i112_10 lk_M112 H (fun H => ?_) (fun H => ?_)
    · refine lk_wp_seg (lo' := [.long l0, .retAddr 0, .long l2, .retAddr 0, .long l4, .retAddr 0]) (st' := [.int 0]) lk_M112 lk_s112_17_1 rfl ?_
      exact lk_wp_ret lk_i112_18 lk_M112 rfl H
    · refine lk_wp_seg (lo' := [.long l0, .retAddr 0, .long l2, .retAddr 0, .long l4, .retAddr 0]) (st' := [.int 1]) lk_M112 lk_s112_13_2 rfl ?_
      exact lk_wp_ret lk_i112_18 lk_M112 rfl H
/-! LonelyDotsModel.finds(I)I -/
theorem lk_M113 : lk_mt[113]? = some (yX12_finds, cX12_finds, 2, ((some FieldType.int))) := rfl
theorem lk_s113_0_2 : lk_seg 113 [(.aload_n 0, 1, (0, [], .null)), (.iload_n 1, 1, (0, [], .null))] 0 = some 2 := by decide +kernel
theorem lk_i113_2 : lk_ins 113 2 = some (.putfield 53, 3, (7, [(11, 0)], .null)) := lk_eqE_eq (by decide +kernel)
theorem lk_s113_5_3 : lk_seg 113 [(.ldc 57, 2, (0, [], .int (-1000010))), (.iload_n 1, 1, (0, [], .null)), (.isub, 1, (0, [], .null))] 5 = some 9 := by decide +kernel
theorem lk_i113_9 : lk_ins 113 9 = some (.ireturn, 1, (0, [], .null)) := lk_eqE_eq (by decide +kernel)
set_option maxRecDepth 20000 in
theorem E_m_finds {X : lk_X} {d : Nat} {x1 : Int32} {a0 : Nat} {h : lk_H} {Q : Option Value → lk_H → Prop} (H : lk_pf h a0 7 [(11, 0)] (.int x1) (fun h1 => Q (some (.int ((-1000010) - x1))) h1)) : lk_wx X (d + 1) 113 [.ref a0, .int x1] h Q := by
  refine lk_enter (lo := [.ref a0, .int x1]) lk_M113 rfl (Nat.le_of_ble_eq_true rfl) ?_
  refine lk_wp_seg (lo' := [.ref a0, .int x1]) (st' := [.int x1, .ref a0]) lk_M113 lk_s113_0_2 rfl ?_
  refine lk_wp_pf lk_i113_2 lk_M113 H (fun h1 H => ?_)
  refine lk_wp_seg (lo' := [.ref a0, .int x1]) (st' := [.int ((-1000010) - x1)]) lk_M113 lk_s113_5_3 rfl ?_
  exact lk_wp_ret lk_i113_9 lk_M113 rfl H
/-! LonelyDotsModel.well(I)I -/
theorem lk_M114 : lk_mt[114]? = some (yX12_well, cX12_well, 2, ((some FieldType.int))) := rfl
theorem lk_s114_0_2 : lk_seg 114 [(.aload_n 0, 1, (0, [], .null)), (.iconst 0, 1, (0, [], .int (0)))] 0 = some 2 := by decide +kernel
theorem lk_i114_2 : lk_ins 114 2 = some (.putfield 53, 3, (7, [(11, 0)], .null)) := lk_eqE_eq (by decide +kernel)
theorem lk_s114_5_1 : lk_seg 114 [(.iload_n 1, 1, (0, [], .null))] 5 = some 6 := by decide +kernel
theorem lk_i114_6 : lk_ins 114 6 = some (.ireturn, 1, (0, [], .null)) := lk_eqE_eq (by decide +kernel)
set_option maxRecDepth 20000 in
theorem E_m_well {X : lk_X} {d : Nat} {x1 : Int32} {a0 : Nat} {h : lk_H} {Q : Option Value → lk_H → Prop} (H : lk_pf h a0 7 [(11, 0)] (.int 0) (fun h1 => Q (some (.int x1)) h1)) : lk_wx X (d + 1) 114 [.ref a0, .int x1] h Q := by
  refine lk_enter (lo := [.ref a0, .int x1]) lk_M114 rfl (Nat.le_of_ble_eq_true rfl) ?_
  refine lk_wp_seg (lo' := [.ref a0, .int x1]) (st' := [.int 0, .ref a0]) lk_M114 lk_s114_0_2 rfl ?_
  refine lk_wp_pf lk_i114_2 lk_M114 H (fun h1 H => ?_)
  refine lk_wp_seg (lo' := [.ref a0, .int x1]) (st' := [.int x1]) lk_M114 lk_s114_5_1 rfl ?_
  exact lk_wp_ret lk_i114_6 lk_M114 rfl H
/-! LonelyDotsModel.isSheet(I)Z -/
theorem lk_M115 : lk_mt[115]? = some (yX12_isSheet, cX12_isSheet, 1, ((some FieldType.boolean))) := rfl
theorem lk_s115_0_4 : lk_seg 115 [(.iload_n 0, 1, (0, [], .null)), (.i2l, 1, (0, [], .null)), (.lconst 0, 1, (0, [], .long 0)), (.ldc2_w 58, 3, (0, [], .long (7)))] 0 = some 6 := by decide +kernel
theorem lk_i115_6 : lk_ins 115 6 = some (.invokestatic 60, 3, (0, [(0, 112)], .ref 80)) := lk_eqE_eq (by decide +kernel)
theorem lk_i115_9 : lk_ins 115 9 = some (.ireturn, 1, (0, [], .null)) := lk_eqE_eq (by decide +kernel)
set_option maxRecDepth 20000 in
theorem E_m_isSheet {X : lk_X} {d : Nat} {x0 : Int32} {h : lk_H} {Q : Option Value → lk_H → Prop} (H : lk_wxi X d 112 [.long (x0.toInt64), .long 0, .long 7] h (fun r2 h1 => (r2 = 0 ∨ r2 = 1) ∧ Q (some (.int r2)) h1)) : lk_wx X (d + 1) 115 [.int x0] h Q := by
  refine lk_enter (lo := [.int x0]) lk_M115 rfl (Nat.le_of_ble_eq_true rfl) ?_
  refine lk_wp_seg (lo' := [.int x0]) (st' := [.long 7, .long 0, .long (x0.toInt64)]) lk_M115 lk_s115_0_4 rfl ?_
  refine lk_wp_cs (as := [.long (x0.toInt64), .long 0, .long 7]) (r := []) lk_i115_6 lk_M115 rfl rfl rfl rfl (Nat.le_of_ble_eq_true rfl) (lk_gi H (fun r2 h1 H => ?_))
  exact lk_wp_retz lk_i115_9 lk_M115 rfl H
/-! LonelyDotsModel.sheet(III)I -/
theorem lk_M116 : lk_mt[116]? = some (yX12_sheet, cX12_sheet, 5, ((some FieldType.int))) := rfl
theorem lk_s116_0_1 : lk_seg 116 [(.iload_n 1, 1, (0, [], .null))] 0 = some 1 := by decide +kernel
theorem lk_i116_1 : lk_ins 116 1 = some (.invokestatic 64, 3, (0, [(0, 115)], .ref 81)) := lk_eqE_eq (by decide +kernel)
theorem lk_i116_4 : lk_ins 116 4 = some (.ifCond .eq 21, 3, (25, [], .null)) := lk_eqE_eq (by decide +kernel)
theorem lk_s116_25_1 : lk_seg 116 [(.ldc 70, 2, (0, [], .int (-1000001)))] 25 = some 27 := by decide +kernel
theorem lk_i116_27 : lk_ins 116 27 = some (.ireturn, 1, (0, [], .null)) := lk_eqE_eq (by decide +kernel)
theorem lk_s116_7_4 : lk_seg 116 [(.iload_n 2, 1, (0, [], .null)), (.i2l, 1, (0, [], .null)), (.lconst 0, 1, (0, [], .long 0)), (.ldc2_w 68, 3, (0, [], .long (2)))] 7 = some 13 := by decide +kernel
theorem lk_i116_13 : lk_ins 116 13 = some (.invokestatic 60, 3, (0, [(0, 112)], .ref 80)) := lk_eqE_eq (by decide +kernel)
theorem lk_i116_16 : lk_ins 116 16 = some (.ifCond .eq 9, 3, (25, [], .null)) := lk_eqE_eq (by decide +kernel)
theorem lk_s116_19_2 : lk_seg 116 [(.iload_n 3, 1, (0, [], .null)), (.bipush 60, 2, (0, [], .int (60)))] 19 = some 22 := by decide +kernel
theorem lk_i116_22 : lk_ins 116 22 = some (.if_icmp .le 6, 3, (28, [], .null)) := lk_eqE_eq (by decide +kernel)
theorem lk_s116_28_1 : lk_seg 116 [(.iload_n 3, 1, (0, [], .null))] 28 = some 29 := by decide +kernel
theorem lk_i116_29 : lk_ins 116 29 = some (.ifCond .ge 9, 3, (38, [], .null)) := lk_eqE_eq (by decide +kernel)
theorem lk_s116_38_1 : lk_seg 116 [(.aload_n 0, 1, (0, [], .null))] 38 = some 39 := by decide +kernel
theorem lk_i116_39 : lk_ins 116 39 = some (.getfield 7, 3, (0, [(11, 0)], .null)) := lk_eqE_eq (by decide +kernel)
theorem lk_s116_42_4 : lk_seg 116 [(.iload_n 1, 1, (0, [], .null)), (.iload_n 2, 1, (0, [], .null)), (.iconst 1, 1, (0, [], .int (1))), (.iadd, 1, (0, [], .null))] 42 = some 46 := by decide +kernel
theorem lk_i116_46 : lk_ins 116 46 = some (.iastore, 1, (0, [], .null)) := lk_eqE_eq (by decide +kernel)
theorem lk_s116_47_1 : lk_seg 116 [(.aload_n 0, 1, (0, [], .null))] 47 = some 48 := by decide +kernel
theorem lk_i116_48 : lk_ins 116 48 = some (.getfield 13, 3, (1, [(11, 0)], .null)) := lk_eqE_eq (by decide +kernel)
theorem lk_s116_51_2 : lk_seg 116 [(.iload_n 1, 1, (0, [], .null)), (.iload_n 3, 1, (0, [], .null))] 51 = some 53 := by decide +kernel
theorem lk_i116_53 : lk_ins 116 53 = some (.iastore, 1, (0, [], .null)) := lk_eqE_eq (by decide +kernel)
theorem lk_s116_54_2 : lk_seg 116 [(.iconst 0, 1, (0, [], .int (0))), (.istore 4, 2, (0, [], .null))] 54 = some 57 := by decide +kernel
theorem lk_s116_32_2 : lk_seg 116 [(.aload_n 0, 1, (0, [], .null)), (.iconst 4, 1, (0, [], .int (4)))] 32 = some 34 := by decide +kernel
theorem lk_i116_34 : lk_ins 116 34 = some (.invokevirtual 71, 3, (1, [(11, 113)], .ref 82)) := lk_eqE_eq (by decide +kernel)
theorem lk_i116_37 : lk_ins 116 37 = some (.ireturn, 1, (0, [], .null)) := lk_eqE_eq (by decide +kernel)
theorem lk_s116_57_2 : lk_seg 116 [(.iload 4, 2, (0, [], .null)), (.iload_n 3, 1, (0, [], .null))] 57 = some 60 := by decide +kernel
theorem lk_i116_60 : lk_ins 116 60 = some (.if_icmp .ge 22, 3, (82, [], .null)) := lk_eqE_eq (by decide +kernel)
theorem lk_s116_82_2 : lk_seg 116 [(.aload_n 0, 1, (0, [], .null)), (.iload_n 3, 1, (0, [], .null))] 82 = some 84 := by decide +kernel
theorem lk_i116_84 : lk_ins 116 84 = some (.invokevirtual 75, 3, (1, [(11, 114)], .ref 83)) := lk_eqE_eq (by decide +kernel)
theorem lk_i116_87 : lk_ins 116 87 = some (.ireturn, 1, (0, [], .null)) := lk_eqE_eq (by decide +kernel)
theorem lk_s116_63_1 : lk_seg 116 [(.aload_n 0, 1, (0, [], .null))] 63 = some 64 := by decide +kernel
theorem lk_i116_64 : lk_ins 116 64 = some (.getfield 16, 3, (2, [(11, 0)], .null)) := lk_eqE_eq (by decide +kernel)
theorem lk_s116_67_6 : lk_seg 116 [(.bipush 60, 2, (0, [], .int (60))), (.iload_n 1, 1, (0, [], .null)), (.imul, 1, (0, [], .null)), (.iload 4, 2, (0, [], .null)), (.iadd, 1, (0, [], .null)), (.iconst 0, 1, (0, [], .int (0)))] 67 = some 75 := by decide +kernel
theorem lk_i116_75 : lk_ins 116 75 = some (.iastore, 1, (0, [], .null)) := lk_eqE_eq (by decide +kernel)
theorem lk_s116_76_2 : lk_seg 116 [(.iinc 4 1, 3, (0, [], .int (1))), (.goto (-22), 3, (57, [], .null))] 76 = some 57 := by decide +kernel
set_option maxRecDepth 20000 in
theorem E_m_sheet {X : lk_X} {d : Nat} {x1 x2 x3 : Int32} {a0 : Nat} {h : lk_H} {Q : Option Value → lk_H → Prop} (H : lk_wxi X d 115 [.int x1] h (fun r2 h1 => (r2 = 0 → Q (some (.int ((-1000001)))) h1) ∧ (¬ r2 = 0 → lk_wxi X d 112 [.long (x2.toInt64), .long 0, .long 2] h1 (fun r4 h3 => (r4 = 0 → Q (some (.int ((-1000001)))) h3) ∧ (¬ r4 = 0 → (x3 ≤ 60 → (0 ≤ x3 → lk_fR h3 a0 0 [(11, 0)] (fun r5 => lk_as h3 r5 x1 (x2 + 1) (fun h6 => lk_fR h6 a0 1 [(11, 0)] (fun r7 => lk_as h6 r7 x1 x3 (fun h8 => lk_wp X (d + 1) 116 57 [.ref a0, .int x1, .retAddr 0, .int x3, .int 0] [] h8 Q))))) ∧ (¬ 0 ≤ x3 → lk_vc h3 a0 [(11, 113)] (fun k11 => lk_wxi X d k11 [.ref a0, .int 4] h3 (fun r10 h9 => Q (some (.int r10)) h9)))) ∧ (¬ x3 ≤ 60 → Q (some (.int ((-1000001)))) h3)))))) : lk_wx X (d + 1) 116 [.ref a0, .int x1, .int x2, .int x3] h Q := by
  refine lk_enter (lo := [.ref a0, .int x1, .int x2, .int x3, .retAddr 0]) lk_M116 rfl (Nat.le_of_ble_eq_true rfl) ?_
  refine lk_wp_seg (lo' := [.ref a0, .int x1, .int x2, .int x3, .retAddr 0]) (st' := [.int x1]) lk_M116 lk_s116_0_1 rfl ?_
  refine lk_wp_cs (as := [.int x1]) (r := []) lk_i116_1 lk_M116 rfl rfl rfl rfl (Nat.le_of_ble_eq_true rfl) (lk_gi H (fun r2 h1 H => ?_))
  refine lk_wp_if_eq lk_i116_4 lk_M116 H (fun H => ?_) (fun H => ?_)
  · refine lk_wp_seg (lo' := [.ref a0, .int x1, .int x2, .int x3, .retAddr 0]) (st' := [.int ((-1000001))]) lk_M116 lk_s116_25_1 rfl ?_
    exact lk_wp_ret lk_i116_27 lk_M116 rfl H
  · refine lk_wp_seg (lo' := [.ref a0, .int x1, .int x2, .int x3, .retAddr 0]) (st' := [.long 2, .long 0, .long (x2.toInt64)]) lk_M116 lk_s116_7_4 rfl ?_
    refine lk_wp_cs (as := [.long (x2.toInt64), .long 0, .long 2]) (r := []) lk_i116_13 lk_M116 rfl rfl rfl rfl (Nat.le_of_ble_eq_true rfl) (lk_gi H (fun r4 h3 H => ?_))
    refine lk_wp_if_eq lk_i116_16 lk_M116 H (fun H => ?_) (fun H => ?_)
    · refine lk_wp_seg (lo' := [.ref a0, .int x1, .int x2, .int x3, .retAddr 0]) (st' := [.int ((-1000001))]) lk_M116 lk_s116_25_1 rfl ?_
      exact lk_wp_ret lk_i116_27 lk_M116 rfl H
    · refine lk_wp_seg (lo' := [.ref a0, .int x1, .int x2, .int x3, .retAddr 0]) (st' := [.int 60, .int x3]) lk_M116 lk_s116_19_2 rfl ?_
      refine lk_wp_ic_le lk_i116_22 lk_M116 H (fun H => ?_) (fun H => ?_)
      · refine lk_wp_seg (lo' := [.ref a0, .int x1, .int x2, .int x3, .retAddr 0]) (st' := [.int x3]) lk_M116 lk_s116_28_1 rfl ?_
        refine lk_wp_if_ge lk_i116_29 lk_M116 H (fun H => ?_) (fun H => ?_)
        · refine lk_wp_seg (lo' := [.ref a0, .int x1, .int x2, .int x3, .retAddr 0]) (st' := [.ref a0]) lk_M116 lk_s116_38_1 rfl ?_
          refine lk_wp_fR lk_i116_39 lk_M116 H (fun r5 H => ?_)
          refine lk_wp_seg (lo' := [.ref a0, .int x1, .int x2, .int x3, .retAddr 0]) (st' := [.int (x2 + 1), .int x1, .ref r5]) lk_M116 lk_s116_42_4 rfl ?_
          refine lk_wp_as lk_i116_46 lk_M116 H (fun h6 H => ?_)
          refine lk_wp_seg (lo' := [.ref a0, .int x1, .int x2, .int x3, .retAddr 0]) (st' := [.ref a0]) lk_M116 lk_s116_47_1 rfl ?_
          refine lk_wp_fR lk_i116_48 lk_M116 H (fun r7 H => ?_)
          refine lk_wp_seg (lo' := [.ref a0, .int x1, .int x2, .int x3, .retAddr 0]) (st' := [.int x3, .int x1, .ref r7]) lk_M116 lk_s116_51_2 rfl ?_
          refine lk_wp_as lk_i116_53 lk_M116 H (fun h8 H => ?_)
          refine lk_wp_seg (lo' := [.ref a0, .int x1, .int x2, .int x3, .int 0]) (st' := []) lk_M116 lk_s116_54_2 rfl ?_
          exact H.forget (lk_le_s (lk_le_s (lk_le_d (lk_le_s (lk_le_s lk_le_n)))))
        · refine lk_wp_seg (lo' := [.ref a0, .int x1, .int x2, .int x3, .retAddr 0]) (st' := [.int 4, .ref a0]) lk_M116 lk_s116_32_2 rfl ?_
          refine lk_wp_cv (as := [.int 4]) (r := []) (a := a0) lk_i116_34 lk_M116 rfl rfl rfl (Nat.le_of_ble_eq_true rfl) H (fun k11 H => lk_gi H (fun r10 h9 H => ?_))
          exact lk_wp_ret lk_i116_37 lk_M116 rfl H
      · refine lk_wp_seg (lo' := [.ref a0, .int x1, .int x2, .int x3, .retAddr 0]) (st' := [.int ((-1000001))]) lk_M116 lk_s116_25_1 rfl ?_
        exact lk_wp_ret lk_i116_27 lk_M116 rfl H
set_option maxRecDepth 20000 in
theorem F_m_sheet_57 {X : lk_X} {d : Nat} {x1 x3 x4 : Int32} {a0 : Nat} {h : lk_H} {Q : Option Value → lk_H → Prop} (H : (x3 ≤ x4 → lk_vc h a0 [(11, 114)] (fun k3 => lk_wxi X d k3 [.ref a0, .int x3] h (fun r2 h1 => Q (some (.int r2)) h1))) ∧ (¬ x3 ≤ x4 → lk_fR h a0 2 [(11, 0)] (fun r4 => lk_as h r4 ((60 * x1) + x4) 0 (fun h5 => lk_wp X (d + 1) 116 57 [.ref a0, .int x1, .retAddr 0, .int x3, .int (x4 + 1)] [] h5 Q)))) : lk_wp X (d + 1) 116 57 [.ref a0, .int x1, .retAddr 0, .int x3, .int x4] [] h Q := by
  refine lk_wp_seg (lo' := [.ref a0, .int x1, .retAddr 0, .int x3, .int x4]) (st' := [.int x3, .int x4]) lk_M116 lk_s116_57_2 rfl ?_
  refine lk_wp_ic_ge lk_i116_60 lk_M116 H (fun H => ?_) (fun H => ?_)
  · refine lk_wp_seg (lo' := [.ref a0, .int x1, .retAddr 0, .int x3, .int x4]) (st' := [.int x3, .ref a0]) lk_M116 lk_s116_82_2 rfl ?_
    refine lk_wp_cv (as := [.int x3]) (r := []) (a := a0) lk_i116_84 lk_M116 rfl rfl rfl (Nat.le_of_ble_eq_true rfl) H (fun k3 H => lk_gi H (fun r2 h1 H => ?_))
    exact lk_wp_ret lk_i116_87 lk_M116 rfl H
  · refine lk_wp_seg (lo' := [.ref a0, .int x1, .retAddr 0, .int x3, .int x4]) (st' := [.ref a0]) lk_M116 lk_s116_63_1 rfl ?_
    refine lk_wp_fR lk_i116_64 lk_M116 H (fun r4 H => ?_)
    refine lk_wp_seg (lo' := [.ref a0, .int x1, .retAddr 0, .int x3, .int x4]) (st' := [.int 0, .int ((60 * x1) + x4), .ref r4]) lk_M116 lk_s116_67_6 rfl ?_
    refine lk_wp_as lk_i116_75 lk_M116 H (fun h5 H => ?_)
    refine lk_wp_seg (lo' := [.ref a0, .int x1, .retAddr 0, .int x3, .int (x4 + 1)]) (st' := []) lk_M116 lk_s116_76_2 rfl ?_
    exact H
/-! LonelyDotsModel.set(III)I -/
theorem lk_M117 : lk_mt[117]? = some (yX12_set, cX12_set, 5, ((some FieldType.int))) := rfl
theorem lk_s117_0_1 : lk_seg 117 [(.iload_n 1, 1, (0, [], .null))] 0 = some 1 := by decide +kernel
theorem lk_i117_1 : lk_ins 117 1 = some (.invokestatic 64, 3, (0, [(0, 115)], .ref 81)) := lk_eqE_eq (by decide +kernel)
theorem lk_i117_4 : lk_ins 117 4 = some (.ifCond .ne 6, 3, (10, [], .null)) := lk_eqE_eq (by decide +kernel)
theorem lk_s117_10_1 : lk_seg 117 [(.aload_n 0, 1, (0, [], .null))] 10 = some 11 := by decide +kernel
theorem lk_i117_11 : lk_ins 117 11 = some (.getfield 7, 3, (0, [(11, 0)], .null)) := lk_eqE_eq (by decide +kernel)
theorem lk_s117_14_1 : lk_seg 117 [(.iload_n 1, 1, (0, [], .null))] 14 = some 15 := by decide +kernel
theorem lk_i117_15 : lk_ins 117 15 = some (.iaload, 1, (0, [], .null)) := lk_eqE_eq (by decide +kernel)
theorem lk_i117_16 : lk_ins 117 16 = some (.ifCond .ne 9, 3, (25, [], .null)) := lk_eqE_eq (by decide +kernel)
theorem lk_s117_25_4 : lk_seg 117 [(.iload_n 2, 1, (0, [], .null)), (.i2l, 1, (0, [], .null)), (.lconst 0, 1, (0, [], .long 0)), (.aload_n 0, 1, (0, [], .null))] 25 = some 29 := by decide +kernel
theorem lk_i117_29 : lk_ins 117 29 = some (.getfield 13, 3, (1, [(11, 0)], .null)) := lk_eqE_eq (by decide +kernel)
theorem lk_s117_32_1 : lk_seg 117 [(.iload_n 1, 1, (0, [], .null))] 32 = some 33 := by decide +kernel
theorem lk_i117_33 : lk_ins 117 33 = some (.iaload, 1, (0, [], .null)) := lk_eqE_eq (by decide +kernel)
theorem lk_s117_34_3 : lk_seg 117 [(.iconst 1, 1, (0, [], .int (1))), (.isub, 1, (0, [], .null)), (.i2l, 1, (0, [], .null))] 34 = some 37 := by decide +kernel
theorem lk_i117_37 : lk_ins 117 37 = some (.invokestatic 60, 3, (0, [(0, 112)], .ref 80)) := lk_eqE_eq (by decide +kernel)
theorem lk_i117_40 : lk_ins 117 40 = some (.ifCond .ne 9, 3, (49, [], .null)) := lk_eqE_eq (by decide +kernel)
theorem lk_s117_49_1 : lk_seg 117 [(.aload_n 0, 1, (0, [], .null))] 49 = some 50 := by decide +kernel
theorem lk_i117_50 : lk_ins 117 50 = some (.getfield 7, 3, (0, [(11, 0)], .null)) := lk_eqE_eq (by decide +kernel)
theorem lk_s117_53_1 : lk_seg 117 [(.iload_n 1, 1, (0, [], .null))] 53 = some 54 := by decide +kernel
theorem lk_i117_54 : lk_ins 117 54 = some (.iaload, 1, (0, [], .null)) := lk_eqE_eq (by decide +kernel)
theorem lk_s117_55_1 : lk_seg 117 [(.iconst 1, 1, (0, [], .int (1)))] 55 = some 56 := by decide +kernel
theorem lk_i117_56 : lk_ins 117 56 = some (.if_icmp .ne 8, 3, (64, [], .null)) := lk_eqE_eq (by decide +kernel)
theorem lk_s117_64_1 : lk_seg 117 [(.aload_n 0, 1, (0, [], .null))] 64 = some 65 := by decide +kernel
theorem lk_i117_65 : lk_ins 117 65 = some (.getfield 7, 3, (0, [(11, 0)], .null)) := lk_eqE_eq (by decide +kernel)
theorem lk_s117_68_1 : lk_seg 117 [(.iload_n 1, 1, (0, [], .null))] 68 = some 69 := by decide +kernel
theorem lk_i117_69 : lk_ins 117 69 = some (.iaload, 1, (0, [], .null)) := lk_eqE_eq (by decide +kernel)
theorem lk_s117_70_1 : lk_seg 117 [(.iconst 2, 1, (0, [], .int (2)))] 70 = some 71 := by decide +kernel
theorem lk_i117_71 : lk_ins 117 71 = some (.if_icmp .ne 8, 3, (79, [], .null)) := lk_eqE_eq (by decide +kernel)
theorem lk_s117_79_3 : lk_seg 117 [(.iload_n 3, 1, (0, [], .null)), (.istore 4, 2, (0, [], .null)), (.aload_n 0, 1, (0, [], .null))] 79 = some 83 := by decide +kernel
theorem lk_i117_83 : lk_ins 117 83 = some (.getfield 16, 3, (2, [(11, 0)], .null)) := lk_eqE_eq (by decide +kernel)
theorem lk_s117_86_6 : lk_seg 117 [(.bipush 60, 2, (0, [], .int (60))), (.iload_n 1, 1, (0, [], .null)), (.imul, 1, (0, [], .null)), (.iload_n 2, 1, (0, [], .null)), (.iadd, 1, (0, [], .null)), (.iload 4, 2, (0, [], .null))] 86 = some 94 := by decide +kernel
theorem lk_i117_94 : lk_ins 117 94 = some (.iastore, 1, (0, [], .null)) := lk_eqE_eq (by decide +kernel)
theorem lk_s117_95_2 : lk_seg 117 [(.aload_n 0, 1, (0, [], .null)), (.iload 4, 2, (0, [], .null))] 95 = some 98 := by decide +kernel
theorem lk_i117_98 : lk_ins 117 98 = some (.invokevirtual 75, 3, (1, [(11, 114)], .ref 83)) := lk_eqE_eq (by decide +kernel)
theorem lk_i117_101 : lk_ins 117 101 = some (.ireturn, 1, (0, [], .null)) := lk_eqE_eq (by decide +kernel)
theorem lk_s117_74_3 : lk_seg 117 [(.iload_n 3, 1, (0, [], .null)), (.i2s, 1, (0, [], .null)), (.goto 4, 3, (80, [], .null))] 74 = some 80 := by decide +kernel
theorem lk_s117_80_2 : lk_seg 117 [(.istore 4, 2, (0, [], .null)), (.aload_n 0, 1, (0, [], .null))] 80 = some 83 := by decide +kernel
theorem lk_s117_59_3 : lk_seg 117 [(.iload_n 3, 1, (0, [], .null)), (.i2b, 1, (0, [], .null)), (.goto 19, 3, (80, [], .null))] 59 = some 80 := by decide +kernel
theorem lk_s117_43_2 : lk_seg 117 [(.aload_n 0, 1, (0, [], .null)), (.iconst 2, 1, (0, [], .int (2)))] 43 = some 45 := by decide +kernel
theorem lk_i117_45 : lk_ins 117 45 = some (.invokevirtual 71, 3, (1, [(11, 113)], .ref 82)) := lk_eqE_eq (by decide +kernel)
theorem lk_i117_48 : lk_ins 117 48 = some (.ireturn, 1, (0, [], .null)) := lk_eqE_eq (by decide +kernel)
theorem lk_s117_19_2 : lk_seg 117 [(.aload_n 0, 1, (0, [], .null)), (.iconst 1, 1, (0, [], .int (1)))] 19 = some 21 := by decide +kernel
theorem lk_i117_21 : lk_ins 117 21 = some (.invokevirtual 71, 3, (1, [(11, 113)], .ref 82)) := lk_eqE_eq (by decide +kernel)
theorem lk_i117_24 : lk_ins 117 24 = some (.ireturn, 1, (0, [], .null)) := lk_eqE_eq (by decide +kernel)
theorem lk_s117_7_1 : lk_seg 117 [(.ldc 70, 2, (0, [], .int (-1000001)))] 7 = some 9 := by decide +kernel
theorem lk_i117_9 : lk_ins 117 9 = some (.ireturn, 1, (0, [], .null)) := lk_eqE_eq (by decide +kernel)
set_option maxRecDepth 20000 in
theorem E_m_set {X : lk_X} {d : Nat} {x1 x2 x3 : Int32} {a0 : Nat} {h : lk_H} {Q : Option Value → lk_H → Prop} (H : lk_wxi X d 115 [.int x1] h (fun r2 h1 => (¬ r2 = 0 → lk_fR h1 a0 0 [(11, 0)] (fun r3 => lk_ai h1 r3 x1 (fun r4 => (¬ r4 = 0 → lk_fR h1 a0 1 [(11, 0)] (fun r5 => lk_ai h1 r5 x1 (fun r6 => lk_wxi X d 112 [.long (x2.toInt64), .long 0, .long ((r6 - 1).toInt64)] h1 (fun r8 h7 => (¬ r8 = 0 → lk_fR h7 a0 0 [(11, 0)] (fun r9 => lk_ai h7 r9 x1 (fun r10 => (¬ r10 = 1 → lk_fR h7 a0 0 [(11, 0)] (fun r11 => lk_ai h7 r11 x1 (fun r12 => (¬ r12 = 2 → lk_fR h7 a0 2 [(11, 0)] (fun r13 => lk_as h7 r13 ((60 * x1) + x2) x3 (fun h14 => lk_vc h14 a0 [(11, 114)] (fun k17 => lk_wxi X d k17 [.ref a0, .int x3] h14 (fun r16 h15 => Q (some (.int r16)) h15))))) ∧ (r12 = 2 → lk_fR h7 a0 2 [(11, 0)] (fun r18 => lk_as h7 r18 ((60 * x1) + x2) x3.toInt16.toInt32 (fun h19 => lk_vc h19 a0 [(11, 114)] (fun k22 => lk_wxi X d k22 [.ref a0, .int (x3.toInt16.toInt32)] h19 (fun r21 h20 => Q (some (.int r21)) h20)))))))) ∧ (r10 = 1 → lk_fR h7 a0 2 [(11, 0)] (fun r23 => lk_as h7 r23 ((60 * x1) + x2) x3.toInt8.toInt32 (fun h24 => lk_vc h24 a0 [(11, 114)] (fun k27 => lk_wxi X d k27 [.ref a0, .int (x3.toInt8.toInt32)] h24 (fun r26 h25 => Q (some (.int r26)) h25)))))))) ∧ (r8 = 0 → lk_vc h7 a0 [(11, 113)] (fun k30 => lk_wxi X d k30 [.ref a0, .int 2] h7 (fun r29 h28 => Q (some (.int r29)) h28))))))) ∧ (r4 = 0 → lk_vc h1 a0 [(11, 113)] (fun k33 => lk_wxi X d k33 [.ref a0, .int 1] h1 (fun r32 h31 => Q (some (.int r32)) h31)))))) ∧ (r2 = 0 → Q (some (.int ((-1000001)))) h1))) : lk_wx X (d + 1) 117 [.ref a0, .int x1, .int x2, .int x3] h Q := by
  refine lk_enter (lo := [.ref a0, .int x1, .int x2, .int x3, .retAddr 0]) lk_M117 rfl (Nat.le_of_ble_eq_true rfl) ?_
  refine lk_wp_seg (lo' := [.ref a0, .int x1, .int x2, .int x3, .retAddr 0]) (st' := [.int x1]) lk_M117 lk_s117_0_1 rfl ?_
  refine lk_wp_cs (as := [.int x1]) (r := []) lk_i117_1 lk_M117 rfl rfl rfl rfl (Nat.le_of_ble_eq_true rfl) (lk_gi H (fun r2 h1 H => ?_))
  refine lk_wp_if_ne lk_i117_4 lk_M117 H (fun H => ?_) (fun H => ?_)
  · refine lk_wp_seg (lo' := [.ref a0, .int x1, .int x2, .int x3, .retAddr 0]) (st' := [.ref a0]) lk_M117 lk_s117_10_1 rfl ?_
    refine lk_wp_fR lk_i117_11 lk_M117 H (fun r3 H => ?_)
    refine lk_wp_seg (lo' := [.ref a0, .int x1, .int x2, .int x3, .retAddr 0]) (st' := [.int x1, .ref r3]) lk_M117 lk_s117_14_1 rfl ?_
    refine lk_wp_ai lk_i117_15 lk_M117 H (fun r4 H => ?_)
    refine lk_wp_if_ne lk_i117_16 lk_M117 H (fun H => ?_) (fun H => ?_)
    · refine lk_wp_seg (lo' := [.ref a0, .int x1, .int x2, .int x3, .retAddr 0]) (st' := [.ref a0, .long 0, .long (x2.toInt64)]) lk_M117 lk_s117_25_4 rfl ?_
      refine lk_wp_fR lk_i117_29 lk_M117 H (fun r5 H => ?_)
      refine lk_wp_seg (lo' := [.ref a0, .int x1, .int x2, .int x3, .retAddr 0]) (st' := [.int x1, .ref r5, .long 0, .long (x2.toInt64)]) lk_M117 lk_s117_32_1 rfl ?_
      refine lk_wp_ai lk_i117_33 lk_M117 H (fun r6 H => ?_)
      refine lk_wp_seg (lo' := [.ref a0, .int x1, .int x2, .int x3, .retAddr 0]) (st' := [.long ((r6 - 1).toInt64), .long 0, .long (x2.toInt64)]) lk_M117 lk_s117_34_3 rfl ?_
      refine lk_wp_cs (as := [.long (x2.toInt64), .long 0, .long ((r6 - 1).toInt64)]) (r := []) lk_i117_37 lk_M117 rfl rfl rfl rfl (Nat.le_of_ble_eq_true rfl) (lk_gi H (fun r8 h7 H => ?_))
      refine lk_wp_if_ne lk_i117_40 lk_M117 H (fun H => ?_) (fun H => ?_)
      · refine lk_wp_seg (lo' := [.ref a0, .int x1, .int x2, .int x3, .retAddr 0]) (st' := [.ref a0]) lk_M117 lk_s117_49_1 rfl ?_
        refine lk_wp_fR lk_i117_50 lk_M117 H (fun r9 H => ?_)
        refine lk_wp_seg (lo' := [.ref a0, .int x1, .int x2, .int x3, .retAddr 0]) (st' := [.int x1, .ref r9]) lk_M117 lk_s117_53_1 rfl ?_
        refine lk_wp_ai lk_i117_54 lk_M117 H (fun r10 H => ?_)
        refine lk_wp_seg (lo' := [.ref a0, .int x1, .int x2, .int x3, .retAddr 0]) (st' := [.int 1, .int r10]) lk_M117 lk_s117_55_1 rfl ?_
        refine lk_wp_ic_ne lk_i117_56 lk_M117 H (fun H => ?_) (fun H => ?_)
        · refine lk_wp_seg (lo' := [.ref a0, .int x1, .int x2, .int x3, .retAddr 0]) (st' := [.ref a0]) lk_M117 lk_s117_64_1 rfl ?_
          refine lk_wp_fR lk_i117_65 lk_M117 H (fun r11 H => ?_)
          refine lk_wp_seg (lo' := [.ref a0, .int x1, .int x2, .int x3, .retAddr 0]) (st' := [.int x1, .ref r11]) lk_M117 lk_s117_68_1 rfl ?_
          refine lk_wp_ai lk_i117_69 lk_M117 H (fun r12 H => ?_)
          refine lk_wp_seg (lo' := [.ref a0, .int x1, .int x2, .int x3, .retAddr 0]) (st' := [.int 2, .int r12]) lk_M117 lk_s117_70_1 rfl ?_
          refine lk_wp_ic_ne lk_i117_71 lk_M117 H (fun H => ?_) (fun H => ?_)
          · refine lk_wp_seg (lo' := [.ref a0, .int x1, .int x2, .int x3, .int x3]) (st' := [.ref a0]) lk_M117 lk_s117_79_3 rfl ?_
            refine lk_wp_fR lk_i117_83 lk_M117 H (fun r13 H => ?_)
            refine lk_wp_seg (lo' := [.ref a0, .int x1, .int x2, .int x3, .int x3]) (st' := [.int x3, .int ((60 * x1) + x2), .ref r13]) lk_M117 lk_s117_86_6 rfl ?_
            refine lk_wp_as lk_i117_94 lk_M117 H (fun h14 H => ?_)
            refine lk_wp_seg (lo' := [.ref a0, .int x1, .int x2, .int x3, .int x3]) (st' := [.int x3, .ref a0]) lk_M117 lk_s117_95_2 rfl ?_
            refine lk_wp_cv (as := [.int x3]) (r := []) (a := a0) lk_i117_98 lk_M117 rfl rfl rfl (Nat.le_of_ble_eq_true rfl) H (fun k17 H => lk_gi H (fun r16 h15 H => ?_))
            exact lk_wp_ret lk_i117_101 lk_M117 rfl H
          · refine lk_wp_seg (lo' := [.ref a0, .int x1, .int x2, .int x3, .retAddr 0]) (st' := [.int (x3.toInt16.toInt32)]) lk_M117 lk_s117_74_3 rfl ?_
            refine lk_wp_seg (lo' := [.ref a0, .int x1, .int x2, .int x3, .int (x3.toInt16.toInt32)]) (st' := [.ref a0]) lk_M117 lk_s117_80_2 rfl ?_
            refine lk_wp_fR lk_i117_83 lk_M117 H (fun r18 H => ?_)
            refine lk_wp_seg (lo' := [.ref a0, .int x1, .int x2, .int x3, .int (x3.toInt16.toInt32)]) (st' := [.int (x3.toInt16.toInt32), .int ((60 * x1) + x2), .ref r18]) lk_M117 lk_s117_86_6 rfl ?_
            refine lk_wp_as lk_i117_94 lk_M117 H (fun h19 H => ?_)
            refine lk_wp_seg (lo' := [.ref a0, .int x1, .int x2, .int x3, .int (x3.toInt16.toInt32)]) (st' := [.int (x3.toInt16.toInt32), .ref a0]) lk_M117 lk_s117_95_2 rfl ?_
            refine lk_wp_cv (as := [.int (x3.toInt16.toInt32)]) (r := []) (a := a0) lk_i117_98 lk_M117 rfl rfl rfl (Nat.le_of_ble_eq_true rfl) H (fun k22 H => lk_gi H (fun r21 h20 H => ?_))
            exact lk_wp_ret lk_i117_101 lk_M117 rfl H
        · refine lk_wp_seg (lo' := [.ref a0, .int x1, .int x2, .int x3, .retAddr 0]) (st' := [.int (x3.toInt8.toInt32)]) lk_M117 lk_s117_59_3 rfl ?_
          refine lk_wp_seg (lo' := [.ref a0, .int x1, .int x2, .int x3, .int (x3.toInt8.toInt32)]) (st' := [.ref a0]) lk_M117 lk_s117_80_2 rfl ?_
          refine lk_wp_fR lk_i117_83 lk_M117 H (fun r23 H => ?_)
          refine lk_wp_seg (lo' := [.ref a0, .int x1, .int x2, .int x3, .int (x3.toInt8.toInt32)]) (st' := [.int (x3.toInt8.toInt32), .int ((60 * x1) + x2), .ref r23]) lk_M117 lk_s117_86_6 rfl ?_
          refine lk_wp_as lk_i117_94 lk_M117 H (fun h24 H => ?_)
          refine lk_wp_seg (lo' := [.ref a0, .int x1, .int x2, .int x3, .int (x3.toInt8.toInt32)]) (st' := [.int (x3.toInt8.toInt32), .ref a0]) lk_M117 lk_s117_95_2 rfl ?_
          refine lk_wp_cv (as := [.int (x3.toInt8.toInt32)]) (r := []) (a := a0) lk_i117_98 lk_M117 rfl rfl rfl (Nat.le_of_ble_eq_true rfl) H (fun k27 H => lk_gi H (fun r26 h25 H => ?_))
          exact lk_wp_ret lk_i117_101 lk_M117 rfl H
      · refine lk_wp_seg (lo' := [.ref a0, .int x1, .int x2, .int x3, .retAddr 0]) (st' := [.int 2, .ref a0]) lk_M117 lk_s117_43_2 rfl ?_
        refine lk_wp_cv (as := [.int 2]) (r := []) (a := a0) lk_i117_45 lk_M117 rfl rfl rfl (Nat.le_of_ble_eq_true rfl) H (fun k30 H => lk_gi H (fun r29 h28 H => ?_))
        exact lk_wp_ret lk_i117_48 lk_M117 rfl H
    · refine lk_wp_seg (lo' := [.ref a0, .int x1, .int x2, .int x3, .retAddr 0]) (st' := [.int 1, .ref a0]) lk_M117 lk_s117_19_2 rfl ?_
      refine lk_wp_cv (as := [.int 1]) (r := []) (a := a0) lk_i117_21 lk_M117 rfl rfl rfl (Nat.le_of_ble_eq_true rfl) H (fun k33 H => lk_gi H (fun r32 h31 H => ?_))
      exact lk_wp_ret lk_i117_24 lk_M117 rfl H
  · refine lk_wp_seg (lo' := [.ref a0, .int x1, .int x2, .int x3, .retAddr 0]) (st' := [.int ((-1000001))]) lk_M117 lk_s117_7_1 rfl ?_
    exact lk_wp_ret lk_i117_9 lk_M117 rfl H
/-! LonelyDotsModel.copy(IIIII)I -/
theorem lk_M118 : lk_mt[118]? = some (yX12_copy, cX12_copy, 7, ((some FieldType.int))) := rfl
theorem lk_s118_0_1 : lk_seg 118 [(.iload_n 1, 1, (0, [], .null))] 0 = some 1 := by decide +kernel
theorem lk_i118_1 : lk_ins 118 1 = some (.invokestatic 64, 3, (0, [(0, 115)], .ref 81)) := lk_eqE_eq (by decide +kernel)
theorem lk_i118_4 : lk_ins 118 4 = some (.ifCond .eq 10, 3, (14, [], .null)) := lk_eqE_eq (by decide +kernel)
theorem lk_s118_14_1 : lk_seg 118 [(.ldc 70, 2, (0, [], .int (-1000001)))] 14 = some 16 := by decide +kernel
theorem lk_i118_16 : lk_ins 118 16 = some (.ireturn, 1, (0, [], .null)) := lk_eqE_eq (by decide +kernel)
theorem lk_s118_7_1 : lk_seg 118 [(.iload_n 3, 1, (0, [], .null))] 7 = some 8 := by decide +kernel
theorem lk_i118_8 : lk_ins 118 8 = some (.invokestatic 64, 3, (0, [(0, 115)], .ref 81)) := lk_eqE_eq (by decide +kernel)
theorem lk_i118_11 : lk_ins 118 11 = some (.ifCond .ne 6, 3, (17, [], .null)) := lk_eqE_eq (by decide +kernel)
theorem lk_s118_17_1 : lk_seg 118 [(.aload_n 0, 1, (0, [], .null))] 17 = some 18 := by decide +kernel
theorem lk_i118_18 : lk_ins 118 18 = some (.getfield 7, 3, (0, [(11, 0)], .null)) := lk_eqE_eq (by decide +kernel)
theorem lk_s118_21_1 : lk_seg 118 [(.iload_n 1, 1, (0, [], .null))] 21 = some 22 := by decide +kernel
theorem lk_i118_22 : lk_ins 118 22 = some (.iaload, 1, (0, [], .null)) := lk_eqE_eq (by decide +kernel)
theorem lk_i118_23 : lk_ins 118 23 = some (.ifCond .eq 12, 3, (35, [], .null)) := lk_eqE_eq (by decide +kernel)
theorem lk_s118_35_2 : lk_seg 118 [(.aload_n 0, 1, (0, [], .null)), (.iconst 1, 1, (0, [], .int (1)))] 35 = some 37 := by decide +kernel
theorem lk_i118_37 : lk_ins 118 37 = some (.invokevirtual 71, 3, (1, [(11, 113)], .ref 82)) := lk_eqE_eq (by decide +kernel)
theorem lk_i118_40 : lk_ins 118 40 = some (.ireturn, 1, (0, [], .null)) := lk_eqE_eq (by decide +kernel)
theorem lk_s118_26_1 : lk_seg 118 [(.aload_n 0, 1, (0, [], .null))] 26 = some 27 := by decide +kernel
theorem lk_i118_27 : lk_ins 118 27 = some (.getfield 7, 3, (0, [(11, 0)], .null)) := lk_eqE_eq (by decide +kernel)
theorem lk_s118_30_1 : lk_seg 118 [(.iload_n 3, 1, (0, [], .null))] 30 = some 31 := by decide +kernel
theorem lk_i118_31 : lk_ins 118 31 = some (.iaload, 1, (0, [], .null)) := lk_eqE_eq (by decide +kernel)
theorem lk_i118_32 : lk_ins 118 32 = some (.ifCond .ne 9, 3, (41, [], .null)) := lk_eqE_eq (by decide +kernel)
theorem lk_s118_41_1 : lk_seg 118 [(.aload_n 0, 1, (0, [], .null))] 41 = some 42 := by decide +kernel
theorem lk_i118_42 : lk_ins 118 42 = some (.getfield 7, 3, (0, [(11, 0)], .null)) := lk_eqE_eq (by decide +kernel)
theorem lk_s118_45_1 : lk_seg 118 [(.iload_n 1, 1, (0, [], .null))] 45 = some 46 := by decide +kernel
theorem lk_i118_46 : lk_ins 118 46 = some (.iaload, 1, (0, [], .null)) := lk_eqE_eq (by decide +kernel)
theorem lk_s118_47_1 : lk_seg 118 [(.aload_n 0, 1, (0, [], .null))] 47 = some 48 := by decide +kernel
theorem lk_i118_48 : lk_ins 118 48 = some (.getfield 7, 3, (0, [(11, 0)], .null)) := lk_eqE_eq (by decide +kernel)
theorem lk_s118_51_1 : lk_seg 118 [(.iload_n 3, 1, (0, [], .null))] 51 = some 52 := by decide +kernel
theorem lk_i118_52 : lk_ins 118 52 = some (.iaload, 1, (0, [], .null)) := lk_eqE_eq (by decide +kernel)
theorem lk_i118_53 : lk_ins 118 53 = some (.if_icmp .eq 9, 3, (62, [], .null)) := lk_eqE_eq (by decide +kernel)
theorem lk_s118_62_1 : lk_seg 118 [(.iload_n 2, 1, (0, [], .null))] 62 = some 63 := by decide +kernel
theorem lk_i118_63 : lk_ins 118 63 = some (.ifCond .lt 48, 3, (111, [], .null)) := lk_eqE_eq (by decide +kernel)
theorem lk_s118_111_2 : lk_seg 118 [(.aload_n 0, 1, (0, [], .null)), (.iconst 2, 1, (0, [], .int (2)))] 111 = some 113 := by decide +kernel
theorem lk_i118_113 : lk_ins 118 113 = some (.invokevirtual 71, 3, (1, [(11, 113)], .ref 82)) := lk_eqE_eq (by decide +kernel)
theorem lk_i118_116 : lk_ins 118 116 = some (.ireturn, 1, (0, [], .null)) := lk_eqE_eq (by decide +kernel)
theorem lk_s118_66_1 : lk_seg 118 [(.iload 4, 2, (0, [], .null))] 66 = some 68 := by decide +kernel
theorem lk_i118_68 : lk_ins 118 68 = some (.ifCond .lt 43, 3, (111, [], .null)) := lk_eqE_eq (by decide +kernel)
theorem lk_s118_71_1 : lk_seg 118 [(.iload 5, 2, (0, [], .null))] 71 = some 73 := by decide +kernel
theorem lk_i118_73 : lk_ins 118 73 = some (.ifCond .lt 38, 3, (111, [], .null)) := lk_eqE_eq (by decide +kernel)
theorem lk_s118_76_6 : lk_seg 118 [(.iload_n 2, 1, (0, [], .null)), (.i2l, 1, (0, [], .null)), (.iload 5, 2, (0, [], .null)), (.i2l, 1, (0, [], .null)), (.ladd, 1, (0, [], .null)), (.aload_n 0, 1, (0, [], .null))] 76 = some 83 := by decide +kernel
theorem lk_i118_83 : lk_ins 118 83 = some (.getfield 13, 3, (1, [(11, 0)], .null)) := lk_eqE_eq (by decide +kernel)
theorem lk_s118_86_1 : lk_seg 118 [(.iload_n 1, 1, (0, [], .null))] 86 = some 87 := by decide +kernel
theorem lk_i118_87 : lk_ins 118 87 = some (.iaload, 1, (0, [], .null)) := lk_eqE_eq (by decide +kernel)
theorem lk_s118_88_2 : lk_seg 118 [(.i2l, 1, (0, [], .null)), (.lcmp, 1, (0, [], .null))] 88 = some 90 := by decide +kernel
theorem lk_i118_90 : lk_ins 118 90 = some (.ifCond .gt 21, 3, (111, [], .null)) := lk_eqE_eq (by decide +kernel)
theorem lk_s118_93_6 : lk_seg 118 [(.iload 4, 2, (0, [], .null)), (.i2l, 1, (0, [], .null)), (.iload 5, 2, (0, [], .null)), (.i2l, 1, (0, [], .null)), (.ladd, 1, (0, [], .null)), (.aload_n 0, 1, (0, [], .null))] 93 = some 101 := by decide +kernel
theorem lk_i118_101 : lk_ins 118 101 = some (.getfield 13, 3, (1, [(11, 0)], .null)) := lk_eqE_eq (by decide +kernel)
theorem lk_s118_104_1 : lk_seg 118 [(.iload_n 3, 1, (0, [], .null))] 104 = some 105 := by decide +kernel
theorem lk_i118_105 : lk_ins 118 105 = some (.iaload, 1, (0, [], .null)) := lk_eqE_eq (by decide +kernel)
theorem lk_s118_106_2 : lk_seg 118 [(.i2l, 1, (0, [], .null)), (.lcmp, 1, (0, [], .null))] 106 = some 108 := by decide +kernel
theorem lk_i118_108 : lk_ins 118 108 = some (.ifCond .le 9, 3, (117, [], .null)) := lk_eqE_eq (by decide +kernel)
theorem lk_s118_117_2 : lk_seg 118 [(.iconst 0, 1, (0, [], .int (0))), (.istore 6, 2, (0, [], .null))] 117 = some 120 := by decide +kernel
theorem lk_s118_56_2 : lk_seg 118 [(.aload_n 0, 1, (0, [], .null)), (.iconst 5, 1, (0, [], .int (5)))] 56 = some 58 := by decide +kernel
theorem lk_i118_58 : lk_ins 118 58 = some (.invokevirtual 71, 3, (1, [(11, 113)], .ref 82)) := lk_eqE_eq (by decide +kernel)
theorem lk_i118_61 : lk_ins 118 61 = some (.ireturn, 1, (0, [], .null)) := lk_eqE_eq (by decide +kernel)
theorem lk_s118_120_2 : lk_seg 118 [(.iload 6, 2, (0, [], .null)), (.iload 5, 2, (0, [], .null))] 120 = some 124 := by decide +kernel
theorem lk_i118_124 : lk_ins 118 124 = some (.if_icmp .ge 30, 3, (154, [], .null)) := lk_eqE_eq (by decide +kernel)
theorem lk_s118_154_2 : lk_seg 118 [(.iconst 0, 1, (0, [], .int (0))), (.istore 6, 2, (0, [], .null))] 154 = some 157 := by decide +kernel
theorem lk_s118_127_1 : lk_seg 118 [(.aload_n 0, 1, (0, [], .null))] 127 = some 128 := by decide +kernel
theorem lk_i118_128 : lk_ins 118 128 = some (.getfield 19, 3, (3, [(11, 0)], .null)) := lk_eqE_eq (by decide +kernel)
theorem lk_s118_131_2 : lk_seg 118 [(.iload 6, 2, (0, [], .null)), (.aload_n 0, 1, (0, [], .null))] 131 = some 134 := by decide +kernel
theorem lk_i118_134 : lk_ins 118 134 = some (.getfield 16, 3, (2, [(11, 0)], .null)) := lk_eqE_eq (by decide +kernel)
theorem lk_s118_137_7 : lk_seg 118 [(.bipush 60, 2, (0, [], .int (60))), (.iload_n 1, 1, (0, [], .null)), (.imul, 1, (0, [], .null)), (.iload_n 2, 1, (0, [], .null)), (.iadd, 1, (0, [], .null)), (.iload 6, 2, (0, [], .null)), (.iadd, 1, (0, [], .null))] 137 = some 146 := by decide +kernel
theorem lk_i118_146 : lk_ins 118 146 = some (.iaload, 1, (0, [], .null)) := lk_eqE_eq (by decide +kernel)
theorem lk_i118_147 : lk_ins 118 147 = some (.iastore, 1, (0, [], .null)) := lk_eqE_eq (by decide +kernel)
theorem lk_s118_148_2 : lk_seg 118 [(.iinc 6 1, 3, (0, [], .int (1))), (.goto (-31), 3, (120, [], .null))] 148 = some 120 := by decide +kernel
theorem lk_s118_157_2 : lk_seg 118 [(.iload 6, 2, (0, [], .null)), (.iload 5, 2, (0, [], .null))] 157 = some 161 := by decide +kernel
theorem lk_i118_161 : lk_ins 118 161 = some (.if_icmp .ge 31, 3, (192, [], .null)) := lk_eqE_eq (by decide +kernel)
theorem lk_s118_192_2 : lk_seg 118 [(.aload_n 0, 1, (0, [], .null)), (.iload 5, 2, (0, [], .null))] 192 = some 195 := by decide +kernel
theorem lk_i118_195 : lk_ins 118 195 = some (.invokevirtual 75, 3, (1, [(11, 114)], .ref 83)) := lk_eqE_eq (by decide +kernel)
theorem lk_i118_198 : lk_ins 118 198 = some (.ireturn, 1, (0, [], .null)) := lk_eqE_eq (by decide +kernel)
theorem lk_s118_164_1 : lk_seg 118 [(.aload_n 0, 1, (0, [], .null))] 164 = some 165 := by decide +kernel
theorem lk_i118_165 : lk_ins 118 165 = some (.getfield 16, 3, (2, [(11, 0)], .null)) := lk_eqE_eq (by decide +kernel)
theorem lk_s118_168_8 : lk_seg 118 [(.bipush 60, 2, (0, [], .int (60))), (.iload_n 3, 1, (0, [], .null)), (.imul, 1, (0, [], .null)), (.iload 4, 2, (0, [], .null)), (.iadd, 1, (0, [], .null)), (.iload 6, 2, (0, [], .null)), (.iadd, 1, (0, [], .null)), (.aload_n 0, 1, (0, [], .null))] 168 = some 179 := by decide +kernel
theorem lk_i118_179 : lk_ins 118 179 = some (.getfield 19, 3, (3, [(11, 0)], .null)) := lk_eqE_eq (by decide +kernel)
theorem lk_s118_182_1 : lk_seg 118 [(.iload 6, 2, (0, [], .null))] 182 = some 184 := by decide +kernel
theorem lk_i118_184 : lk_ins 118 184 = some (.iaload, 1, (0, [], .null)) := lk_eqE_eq (by decide +kernel)
theorem lk_i118_185 : lk_ins 118 185 = some (.iastore, 1, (0, [], .null)) := lk_eqE_eq (by decide +kernel)
theorem lk_s118_186_2 : lk_seg 118 [(.iinc 6 1, 3, (0, [], .int (1))), (.goto (-32), 3, (157, [], .null))] 186 = some 157 := by decide +kernel
set_option maxRecDepth 20000 in
theorem E_m_copy {X : lk_X} {d : Nat} {x1 x2 x3 x4 x5 : Int32} {a0 : Nat} {h : lk_H} {Q : Option Value → lk_H → Prop} (H : lk_wxi X d 115 [.int x1] h (fun r2 h1 => (r2 = 0 → Q (some (.int ((-1000001)))) h1) ∧ (¬ r2 = 0 → lk_wxi X d 115 [.int x3] h1 (fun r4 h3 => (¬ r4 = 0 → lk_fR h3 a0 0 [(11, 0)] (fun r5 => lk_ai h3 r5 x1 (fun r6 => (r6 = 0 → lk_vc h3 a0 [(11, 113)] (fun k9 => lk_wxi X d k9 [.ref a0, .int 1] h3 (fun r8 h7 => Q (some (.int r8)) h7))) ∧ (¬ r6 = 0 → lk_fR h3 a0 0 [(11, 0)] (fun r10 => lk_ai h3 r10 x3 (fun r11 => (¬ r11 = 0 → lk_fR h3 a0 0 [(11, 0)] (fun r12 => lk_ai h3 r12 x1 (fun r13 => lk_fR h3 a0 0 [(11, 0)] (fun r14 => lk_ai h3 r14 x3 (fun r15 => (r13 = r15 → (x2 < 0 → lk_vc h3 a0 [(11, 113)] (fun k18 => lk_wxi X d k18 [.ref a0, .int 2] h3 (fun r17 h16 => Q (some (.int r17)) h16))) ∧ (¬ x2 < 0 → (x4 < 0 → lk_vc h3 a0 [(11, 113)] (fun k21 => lk_wxi X d k21 [.ref a0, .int 2] h3 (fun r20 h19 => Q (some (.int r20)) h19))) ∧ (¬ x4 < 0 → (x5 < 0 → lk_vc h3 a0 [(11, 113)] (fun k24 => lk_wxi X d k24 [.ref a0, .int 2] h3 (fun r23 h22 => Q (some (.int r23)) h22))) ∧ (¬ x5 < 0 → lk_fR h3 a0 1 [(11, 0)] (fun r25 => lk_ai h3 r25 x1 (fun r26 => (0 < (lg_cmp (x2.toInt64 + x5.toInt64) r26.toInt64) → lk_vc h3 a0 [(11, 113)] (fun k29 => lk_wxi X d k29 [.ref a0, .int 2] h3 (fun r28 h27 => Q (some (.int r28)) h27))) ∧ (¬ 0 < (lg_cmp (x2.toInt64 + x5.toInt64) r26.toInt64) → lk_fR h3 a0 1 [(11, 0)] (fun r30 => lk_ai h3 r30 x3 (fun r31 => ((lg_cmp (x4.toInt64 + x5.toInt64) r31.toInt64) ≤ 0 → lk_wp X (d + 1) 118 120 [.ref a0, .int x1, .int x2, .int x3, .int x4, .int x5, .int 0] [] h3 Q) ∧ (¬ (lg_cmp (x4.toInt64 + x5.toInt64) r31.toInt64) ≤ 0 → lk_vc h3 a0 [(11, 113)] (fun k34 => lk_wxi X d k34 [.ref a0, .int 2] h3 (fun r33 h32 => Q (some (.int r33)) h32)))))))))))) ∧ (¬ r13 = r15 → lk_vc h3 a0 [(11, 113)] (fun k37 => lk_wxi X d k37 [.ref a0, .int 5] h3 (fun r36 h35 => Q (some (.int r36)) h35)))))))) ∧ (r11 = 0 → lk_vc h3 a0 [(11, 113)] (fun k40 => lk_wxi X d k40 [.ref a0, .int 1] h3 (fun r39 h38 => Q (some (.int r39)) h38))))))))) ∧ (r4 = 0 → Q (some (.int ((-1000001)))) h3))))) : lk_wx X (d + 1) 118 [.ref a0, .int x1, .int x2, .int x3, .int x4, .int x5] h Q := by
  refine lk_enter (lo := [.ref a0, .int x1, .int x2, .int x3, .int x4, .int x5, .retAddr 0]) lk_M118 rfl (Nat.le_of_ble_eq_true rfl) ?_
  refine lk_wp_seg (lo' := [.ref a0, .int x1, .int x2, .int x3, .int x4, .int x5, .retAddr 0]) (st' := [.int x1]) lk_M118 lk_s118_0_1 rfl ?_
  refine lk_wp_cs (as := [.int x1]) (r := []) lk_i118_1 lk_M118 rfl rfl rfl rfl (Nat.le_of_ble_eq_true rfl) (lk_gi H (fun r2 h1 H => ?_))
  refine lk_wp_if_eq lk_i118_4 lk_M118 H (fun H => ?_) (fun H => ?_)
  · refine lk_wp_seg (lo' := [.ref a0, .int x1, .int x2, .int x3, .int x4, .int x5, .retAddr 0]) (st' := [.int ((-1000001))]) lk_M118 lk_s118_14_1 rfl ?_
    exact lk_wp_ret lk_i118_16 lk_M118 rfl H
  · refine lk_wp_seg (lo' := [.ref a0, .int x1, .int x2, .int x3, .int x4, .int x5, .retAddr 0]) (st' := [.int x3]) lk_M118 lk_s118_7_1 rfl ?_
    refine lk_wp_cs (as := [.int x3]) (r := []) lk_i118_8 lk_M118 rfl rfl rfl rfl (Nat.le_of_ble_eq_true rfl) (lk_gi H (fun r4 h3 H => ?_))
    refine lk_wp_if_ne lk_i118_11 lk_M118 H (fun H => ?_) (fun H => ?_)
    · refine lk_wp_seg (lo' := [.ref a0, .int x1, .int x2, .int x3, .int x4, .int x5, .retAddr 0]) (st' := [.ref a0]) lk_M118 lk_s118_17_1 rfl ?_
      refine lk_wp_fR lk_i118_18 lk_M118 H (fun r5 H => ?_)
      refine lk_wp_seg (lo' := [.ref a0, .int x1, .int x2, .int x3, .int x4, .int x5, .retAddr 0]) (st' := [.int x1, .ref r5]) lk_M118 lk_s118_21_1 rfl ?_
      refine lk_wp_ai lk_i118_22 lk_M118 H (fun r6 H => ?_)
      refine lk_wp_if_eq lk_i118_23 lk_M118 H (fun H => ?_) (fun H => ?_)
      · refine lk_wp_seg (lo' := [.ref a0, .int x1, .int x2, .int x3, .int x4, .int x5, .retAddr 0]) (st' := [.int 1, .ref a0]) lk_M118 lk_s118_35_2 rfl ?_
        refine lk_wp_cv (as := [.int 1]) (r := []) (a := a0) lk_i118_37 lk_M118 rfl rfl rfl (Nat.le_of_ble_eq_true rfl) H (fun k9 H => lk_gi H (fun r8 h7 H => ?_))
        exact lk_wp_ret lk_i118_40 lk_M118 rfl H
      · refine lk_wp_seg (lo' := [.ref a0, .int x1, .int x2, .int x3, .int x4, .int x5, .retAddr 0]) (st' := [.ref a0]) lk_M118 lk_s118_26_1 rfl ?_
        refine lk_wp_fR lk_i118_27 lk_M118 H (fun r10 H => ?_)
        refine lk_wp_seg (lo' := [.ref a0, .int x1, .int x2, .int x3, .int x4, .int x5, .retAddr 0]) (st' := [.int x3, .ref r10]) lk_M118 lk_s118_30_1 rfl ?_
        refine lk_wp_ai lk_i118_31 lk_M118 H (fun r11 H => ?_)
        refine lk_wp_if_ne lk_i118_32 lk_M118 H (fun H => ?_) (fun H => ?_)
        · refine lk_wp_seg (lo' := [.ref a0, .int x1, .int x2, .int x3, .int x4, .int x5, .retAddr 0]) (st' := [.ref a0]) lk_M118 lk_s118_41_1 rfl ?_
          refine lk_wp_fR lk_i118_42 lk_M118 H (fun r12 H => ?_)
          refine lk_wp_seg (lo' := [.ref a0, .int x1, .int x2, .int x3, .int x4, .int x5, .retAddr 0]) (st' := [.int x1, .ref r12]) lk_M118 lk_s118_45_1 rfl ?_
          refine lk_wp_ai lk_i118_46 lk_M118 H (fun r13 H => ?_)
          refine lk_wp_seg (lo' := [.ref a0, .int x1, .int x2, .int x3, .int x4, .int x5, .retAddr 0]) (st' := [.ref a0, .int r13]) lk_M118 lk_s118_47_1 rfl ?_
          refine lk_wp_fR lk_i118_48 lk_M118 H (fun r14 H => ?_)
          refine lk_wp_seg (lo' := [.ref a0, .int x1, .int x2, .int x3, .int x4, .int x5, .retAddr 0]) (st' := [.int x3, .ref r14, .int r13]) lk_M118 lk_s118_51_1 rfl ?_
          refine lk_wp_ai lk_i118_52 lk_M118 H (fun r15 H => ?_)
          refine lk_wp_ic_eq lk_i118_53 lk_M118 H (fun H => ?_) (fun H => ?_)
          · refine lk_wp_seg (lo' := [.ref a0, .int x1, .int x2, .int x3, .int x4, .int x5, .retAddr 0]) (st' := [.int x2]) lk_M118 lk_s118_62_1 rfl ?_
            refine lk_wp_if_lt lk_i118_63 lk_M118 H (fun H => ?_) (fun H => ?_)
            · refine lk_wp_seg (lo' := [.ref a0, .int x1, .int x2, .int x3, .int x4, .int x5, .retAddr 0]) (st' := [.int 2, .ref a0]) lk_M118 lk_s118_111_2 rfl ?_
              refine lk_wp_cv (as := [.int 2]) (r := []) (a := a0) lk_i118_113 lk_M118 rfl rfl rfl (Nat.le_of_ble_eq_true rfl) H (fun k18 H => lk_gi H (fun r17 h16 H => ?_))
              exact lk_wp_ret lk_i118_116 lk_M118 rfl H
            · refine lk_wp_seg (lo' := [.ref a0, .int x1, .int x2, .int x3, .int x4, .int x5, .retAddr 0]) (st' := [.int x4]) lk_M118 lk_s118_66_1 rfl ?_
              refine lk_wp_if_lt lk_i118_68 lk_M118 H (fun H => ?_) (fun H => ?_)
              · refine lk_wp_seg (lo' := [.ref a0, .int x1, .int x2, .int x3, .int x4, .int x5, .retAddr 0]) (st' := [.int 2, .ref a0]) lk_M118 lk_s118_111_2 rfl ?_
                refine lk_wp_cv (as := [.int 2]) (r := []) (a := a0) lk_i118_113 lk_M118 rfl rfl rfl (Nat.le_of_ble_eq_true rfl) H (fun k21 H => lk_gi H (fun r20 h19 H => ?_))
                exact lk_wp_ret lk_i118_116 lk_M118 rfl H
              · refine lk_wp_seg (lo' := [.ref a0, .int x1, .int x2, .int x3, .int x4, .int x5, .retAddr 0]) (st' := [.int x5]) lk_M118 lk_s118_71_1 rfl ?_
                refine lk_wp_if_lt lk_i118_73 lk_M118 H (fun H => ?_) (fun H => ?_)
                · refine lk_wp_seg (lo' := [.ref a0, .int x1, .int x2, .int x3, .int x4, .int x5, .retAddr 0]) (st' := [.int 2, .ref a0]) lk_M118 lk_s118_111_2 rfl ?_
                  refine lk_wp_cv (as := [.int 2]) (r := []) (a := a0) lk_i118_113 lk_M118 rfl rfl rfl (Nat.le_of_ble_eq_true rfl) H (fun k24 H => lk_gi H (fun r23 h22 H => ?_))
                  exact lk_wp_ret lk_i118_116 lk_M118 rfl H
                · refine lk_wp_seg (lo' := [.ref a0, .int x1, .int x2, .int x3, .int x4, .int x5, .retAddr 0]) (st' := [.ref a0, .long (x2.toInt64 + x5.toInt64)]) lk_M118 lk_s118_76_6 rfl ?_
                  refine lk_wp_fR lk_i118_83 lk_M118 H (fun r25 H => ?_)
                  refine lk_wp_seg (lo' := [.ref a0, .int x1, .int x2, .int x3, .int x4, .int x5, .retAddr 0]) (st' := [.int x1, .ref r25, .long (x2.toInt64 + x5.toInt64)]) lk_M118 lk_s118_86_1 rfl ?_
                  refine lk_wp_ai lk_i118_87 lk_M118 H (fun r26 H => ?_)
                  refine lk_wp_seg (lo' := [.ref a0, .int x1, .int x2, .int x3, .int x4, .int x5, .retAddr 0]) (st' := [.int (lg_cmp (x2.toInt64 + x5.toInt64) r26.toInt64)]) lk_M118 lk_s118_88_2 rfl ?_
                  refine lk_wp_if_gt lk_i118_90 lk_M118 H (fun H => ?_) (fun H => ?_)
                  · refine lk_wp_seg (lo' := [.ref a0, .int x1, .int x2, .int x3, .int x4, .int x5, .retAddr 0]) (st' := [.int 2, .ref a0]) lk_M118 lk_s118_111_2 rfl ?_
                    refine lk_wp_cv (as := [.int 2]) (r := []) (a := a0) lk_i118_113 lk_M118 rfl rfl rfl (Nat.le_of_ble_eq_true rfl) H (fun k29 H => lk_gi H (fun r28 h27 H => ?_))
                    exact lk_wp_ret lk_i118_116 lk_M118 rfl H
                  · refine lk_wp_seg (lo' := [.ref a0, .int x1, .int x2, .int x3, .int x4, .int x5, .retAddr 0]) (st' := [.ref a0, .long (x4.toInt64 + x5.toInt64)]) lk_M118 lk_s118_93_6 rfl ?_
                    refine lk_wp_fR lk_i118_101 lk_M118 H (fun r30 H => ?_)
                    refine lk_wp_seg (lo' := [.ref a0, .int x1, .int x2, .int x3, .int x4, .int x5, .retAddr 0]) (st' := [.int x3, .ref r30, .long (x4.toInt64 + x5.toInt64)]) lk_M118 lk_s118_104_1 rfl ?_
                    refine lk_wp_ai lk_i118_105 lk_M118 H (fun r31 H => ?_)
                    refine lk_wp_seg (lo' := [.ref a0, .int x1, .int x2, .int x3, .int x4, .int x5, .retAddr 0]) (st' := [.int (lg_cmp (x4.toInt64 + x5.toInt64) r31.toInt64)]) lk_M118 lk_s118_106_2 rfl ?_
                    refine lk_wp_if_le lk_i118_108 lk_M118 H (fun H => ?_) (fun H => ?_)
                    · refine lk_wp_seg (lo' := [.ref a0, .int x1, .int x2, .int x3, .int x4, .int x5, .int 0]) (st' := []) lk_M118 lk_s118_117_2 rfl ?_
                      exact H
                    · refine lk_wp_seg (lo' := [.ref a0, .int x1, .int x2, .int x3, .int x4, .int x5, .retAddr 0]) (st' := [.int 2, .ref a0]) lk_M118 lk_s118_111_2 rfl ?_
                      refine lk_wp_cv (as := [.int 2]) (r := []) (a := a0) lk_i118_113 lk_M118 rfl rfl rfl (Nat.le_of_ble_eq_true rfl) H (fun k34 H => lk_gi H (fun r33 h32 H => ?_))
                      exact lk_wp_ret lk_i118_116 lk_M118 rfl H
          · refine lk_wp_seg (lo' := [.ref a0, .int x1, .int x2, .int x3, .int x4, .int x5, .retAddr 0]) (st' := [.int 5, .ref a0]) lk_M118 lk_s118_56_2 rfl ?_
            refine lk_wp_cv (as := [.int 5]) (r := []) (a := a0) lk_i118_58 lk_M118 rfl rfl rfl (Nat.le_of_ble_eq_true rfl) H (fun k37 H => lk_gi H (fun r36 h35 H => ?_))
            exact lk_wp_ret lk_i118_61 lk_M118 rfl H
        · refine lk_wp_seg (lo' := [.ref a0, .int x1, .int x2, .int x3, .int x4, .int x5, .retAddr 0]) (st' := [.int 1, .ref a0]) lk_M118 lk_s118_35_2 rfl ?_
          refine lk_wp_cv (as := [.int 1]) (r := []) (a := a0) lk_i118_37 lk_M118 rfl rfl rfl (Nat.le_of_ble_eq_true rfl) H (fun k40 H => lk_gi H (fun r39 h38 H => ?_))
          exact lk_wp_ret lk_i118_40 lk_M118 rfl H
    · refine lk_wp_seg (lo' := [.ref a0, .int x1, .int x2, .int x3, .int x4, .int x5, .retAddr 0]) (st' := [.int ((-1000001))]) lk_M118 lk_s118_14_1 rfl ?_
      exact lk_wp_ret lk_i118_16 lk_M118 rfl H
set_option maxRecDepth 20000 in
theorem F_m_copy_120 {X : lk_X} {d : Nat} {x1 x2 x3 x4 x5 x6 : Int32} {a0 : Nat} {h : lk_H} {Q : Option Value → lk_H → Prop} (H : (x5 ≤ x6 → lk_wp X (d + 1) 118 157 [.ref a0, .retAddr 0, .retAddr 0, .int x3, .int x4, .int x5, .int 0] [] h Q) ∧ (¬ x5 ≤ x6 → lk_fR h a0 3 [(11, 0)] (fun r1 => lk_fR h a0 2 [(11, 0)] (fun r2 => lk_ai h r2 (((60 * x1) + x2) + x6) (fun r3 => lk_as h r1 x6 r3 (fun h4 => lk_wp X (d + 1) 118 120 [.ref a0, .int x1, .int x2, .int x3, .int x4, .int x5, .int (x6 + 1)] [] h4 Q)))))) : lk_wp X (d + 1) 118 120 [.ref a0, .int x1, .int x2, .int x3, .int x4, .int x5, .int x6] [] h Q := by
  refine lk_wp_seg (lo' := [.ref a0, .int x1, .int x2, .int x3, .int x4, .int x5, .int x6]) (st' := [.int x5, .int x6]) lk_M118 lk_s118_120_2 rfl ?_
  refine lk_wp_ic_ge lk_i118_124 lk_M118 H (fun H => ?_) (fun H => ?_)
  · refine lk_wp_seg (lo' := [.ref a0, .int x1, .int x2, .int x3, .int x4, .int x5, .int 0]) (st' := []) lk_M118 lk_s118_154_2 rfl ?_
    exact H.forget (lk_le_s (lk_le_d (lk_le_d (lk_le_s (lk_le_s (lk_le_s (lk_le_s lk_le_n)))))))
  · refine lk_wp_seg (lo' := [.ref a0, .int x1, .int x2, .int x3, .int x4, .int x5, .int x6]) (st' := [.ref a0]) lk_M118 lk_s118_127_1 rfl ?_
    refine lk_wp_fR lk_i118_128 lk_M118 H (fun r1 H => ?_)
    refine lk_wp_seg (lo' := [.ref a0, .int x1, .int x2, .int x3, .int x4, .int x5, .int x6]) (st' := [.ref a0, .int x6, .ref r1]) lk_M118 lk_s118_131_2 rfl ?_
    refine lk_wp_fR lk_i118_134 lk_M118 H (fun r2 H => ?_)
    refine lk_wp_seg (lo' := [.ref a0, .int x1, .int x2, .int x3, .int x4, .int x5, .int x6]) (st' := [.int (((60 * x1) + x2) + x6), .ref r2, .int x6, .ref r1]) lk_M118 lk_s118_137_7 rfl ?_
    refine lk_wp_ai lk_i118_146 lk_M118 H (fun r3 H => ?_)
    refine lk_wp_as lk_i118_147 lk_M118 H (fun h4 H => ?_)
    refine lk_wp_seg (lo' := [.ref a0, .int x1, .int x2, .int x3, .int x4, .int x5, .int (x6 + 1)]) (st' := []) lk_M118 lk_s118_148_2 rfl ?_
    exact H
set_option maxRecDepth 20000 in
theorem F_m_copy_157 {X : lk_X} {d : Nat} {x3 x4 x5 x6 : Int32} {a0 : Nat} {h : lk_H} {Q : Option Value → lk_H → Prop} (H : (x5 ≤ x6 → lk_vc h a0 [(11, 114)] (fun k3 => lk_wxi X d k3 [.ref a0, .int x5] h (fun r2 h1 => Q (some (.int r2)) h1))) ∧ (¬ x5 ≤ x6 → lk_fR h a0 2 [(11, 0)] (fun r4 => lk_fR h a0 3 [(11, 0)] (fun r5 => lk_ai h r5 x6 (fun r6 => lk_as h r4 (((60 * x3) + x4) + x6) r6 (fun h7 => lk_wp X (d + 1) 118 157 [.ref a0, .retAddr 0, .retAddr 0, .int x3, .int x4, .int x5, .int (x6 + 1)] [] h7 Q)))))) : lk_wp X (d + 1) 118 157 [.ref a0, .retAddr 0, .retAddr 0, .int x3, .int x4, .int x5, .int x6] [] h Q := by
  refine lk_wp_seg (lo' := [.ref a0, .retAddr 0, .retAddr 0, .int x3, .int x4, .int x5, .int x6]) (st' := [.int x5, .int x6]) lk_M118 lk_s118_157_2 rfl ?_
  refine lk_wp_ic_ge lk_i118_161 lk_M118 H (fun H => ?_) (fun H => ?_)
  · refine lk_wp_seg (lo' := [.ref a0, .retAddr 0, .retAddr 0, .int x3, .int x4, .int x5, .int x6]) (st' := [.int x5, .ref a0]) lk_M118 lk_s118_192_2 rfl ?_
    refine lk_wp_cv (as := [.int x5]) (r := []) (a := a0) lk_i118_195 lk_M118 rfl rfl rfl (Nat.le_of_ble_eq_true rfl) H (fun k3 H => lk_gi H (fun r2 h1 H => ?_))
    exact lk_wp_ret lk_i118_198 lk_M118 rfl H
  · refine lk_wp_seg (lo' := [.ref a0, .retAddr 0, .retAddr 0, .int x3, .int x4, .int x5, .int x6]) (st' := [.ref a0]) lk_M118 lk_s118_164_1 rfl ?_
    refine lk_wp_fR lk_i118_165 lk_M118 H (fun r4 H => ?_)
    refine lk_wp_seg (lo' := [.ref a0, .retAddr 0, .retAddr 0, .int x3, .int x4, .int x5, .int x6]) (st' := [.ref a0, .int (((60 * x3) + x4) + x6), .ref r4]) lk_M118 lk_s118_168_8 rfl ?_
    refine lk_wp_fR lk_i118_179 lk_M118 H (fun r5 H => ?_)
    refine lk_wp_seg (lo' := [.ref a0, .retAddr 0, .retAddr 0, .int x3, .int x4, .int x5, .int x6]) (st' := [.int x6, .ref r5, .int (((60 * x3) + x4) + x6), .ref r4]) lk_M118 lk_s118_182_1 rfl ?_
    refine lk_wp_ai lk_i118_184 lk_M118 H (fun r6 H => ?_)
    refine lk_wp_as lk_i118_185 lk_M118 H (fun h7 H => ?_)
    refine lk_wp_seg (lo' := [.ref a0, .retAddr 0, .retAddr 0, .int x3, .int x4, .int x5, .int (x6 + 1)]) (st' := []) lk_M118 lk_s118_186_2 rfl ?_
    exact H
/-! LonelyDotsModel.drop(I)I -/
theorem lk_M119 : lk_mt[119]? = some (yX12_drop, cX12_drop, 2, ((some FieldType.int))) := rfl
theorem lk_s119_0_1 : lk_seg 119 [(.iload_n 1, 1, (0, [], .null))] 0 = some 1 := by decide +kernel
theorem lk_i119_1 : lk_ins 119 1 = some (.invokestatic 64, 3, (0, [(0, 115)], .ref 81)) := lk_eqE_eq (by decide +kernel)
theorem lk_i119_4 : lk_ins 119 4 = some (.ifCond .ne 6, 3, (10, [], .null)) := lk_eqE_eq (by decide +kernel)
theorem lk_s119_10_1 : lk_seg 119 [(.aload_n 0, 1, (0, [], .null))] 10 = some 11 := by decide +kernel
theorem lk_i119_11 : lk_ins 119 11 = some (.getfield 7, 3, (0, [(11, 0)], .null)) := lk_eqE_eq (by decide +kernel)
theorem lk_s119_14_1 : lk_seg 119 [(.iload_n 1, 1, (0, [], .null))] 14 = some 15 := by decide +kernel
theorem lk_i119_15 : lk_ins 119 15 = some (.iaload, 1, (0, [], .null)) := lk_eqE_eq (by decide +kernel)
theorem lk_i119_16 : lk_ins 119 16 = some (.ifCond .ne 9, 3, (25, [], .null)) := lk_eqE_eq (by decide +kernel)
theorem lk_s119_25_1 : lk_seg 119 [(.aload_n 0, 1, (0, [], .null))] 25 = some 26 := by decide +kernel
theorem lk_i119_26 : lk_ins 119 26 = some (.getfield 7, 3, (0, [(11, 0)], .null)) := lk_eqE_eq (by decide +kernel)
theorem lk_s119_29_2 : lk_seg 119 [(.iload_n 1, 1, (0, [], .null)), (.iconst 0, 1, (0, [], .int (0)))] 29 = some 31 := by decide +kernel
theorem lk_i119_31 : lk_ins 119 31 = some (.iastore, 1, (0, [], .null)) := lk_eqE_eq (by decide +kernel)
theorem lk_s119_32_2 : lk_seg 119 [(.aload_n 0, 1, (0, [], .null)), (.aload_n 0, 1, (0, [], .null))] 32 = some 34 := by decide +kernel
theorem lk_i119_34 : lk_ins 119 34 = some (.getfield 13, 3, (1, [(11, 0)], .null)) := lk_eqE_eq (by decide +kernel)
theorem lk_s119_37_1 : lk_seg 119 [(.iload_n 1, 1, (0, [], .null))] 37 = some 38 := by decide +kernel
theorem lk_i119_38 : lk_ins 119 38 = some (.iaload, 1, (0, [], .null)) := lk_eqE_eq (by decide +kernel)
theorem lk_i119_39 : lk_ins 119 39 = some (.invokevirtual 75, 3, (1, [(11, 114)], .ref 83)) := lk_eqE_eq (by decide +kernel)
theorem lk_i119_42 : lk_ins 119 42 = some (.ireturn, 1, (0, [], .null)) := lk_eqE_eq (by decide +kernel)
theorem lk_s119_19_2 : lk_seg 119 [(.aload_n 0, 1, (0, [], .null)), (.iconst 1, 1, (0, [], .int (1)))] 19 = some 21 := by decide +kernel
theorem lk_i119_21 : lk_ins 119 21 = some (.invokevirtual 71, 3, (1, [(11, 113)], .ref 82)) := lk_eqE_eq (by decide +kernel)
theorem lk_i119_24 : lk_ins 119 24 = some (.ireturn, 1, (0, [], .null)) := lk_eqE_eq (by decide +kernel)
theorem lk_s119_7_1 : lk_seg 119 [(.ldc 70, 2, (0, [], .int (-1000001)))] 7 = some 9 := by decide +kernel
theorem lk_i119_9 : lk_ins 119 9 = some (.ireturn, 1, (0, [], .null)) := lk_eqE_eq (by decide +kernel)
set_option maxRecDepth 20000 in
theorem E_m_drop {X : lk_X} {d : Nat} {x1 : Int32} {a0 : Nat} {h : lk_H} {Q : Option Value → lk_H → Prop} (H : lk_wxi X d 115 [.int x1] h (fun r2 h1 => (¬ r2 = 0 → lk_fR h1 a0 0 [(11, 0)] (fun r3 => lk_ai h1 r3 x1 (fun r4 => (¬ r4 = 0 → lk_fR h1 a0 0 [(11, 0)] (fun r5 => lk_as h1 r5 x1 0 (fun h6 => lk_fR h6 a0 1 [(11, 0)] (fun r7 => lk_ai h6 r7 x1 (fun r8 => lk_vc h6 a0 [(11, 114)] (fun k11 => lk_wxi X d k11 [.ref a0, .int r8] h6 (fun r10 h9 => Q (some (.int r10)) h9))))))) ∧ (r4 = 0 → lk_vc h1 a0 [(11, 113)] (fun k14 => lk_wxi X d k14 [.ref a0, .int 1] h1 (fun r13 h12 => Q (some (.int r13)) h12)))))) ∧ (r2 = 0 → Q (some (.int ((-1000001)))) h1))) : lk_wx X (d + 1) 119 [.ref a0, .int x1] h Q := by
  refine lk_enter (lo := [.ref a0, .int x1]) lk_M119 rfl (Nat.le_of_ble_eq_true rfl) ?_
  refine lk_wp_seg (lo' := [.ref a0, .int x1]) (st' := [.int x1]) lk_M119 lk_s119_0_1 rfl ?_
  refine lk_wp_cs (as := [.int x1]) (r := []) lk_i119_1 lk_M119 rfl rfl rfl rfl (Nat.le_of_ble_eq_true rfl) (lk_gi H (fun r2 h1 H => ?_))
  refine lk_wp_if_ne lk_i119_4 lk_M119 H (fun H => ?_) (fun H => ?_)
  · refine lk_wp_seg (lo' := [.ref a0, .int x1]) (st' := [.ref a0]) lk_M119 lk_s119_10_1 rfl ?_
    refine lk_wp_fR lk_i119_11 lk_M119 H (fun r3 H => ?_)
    refine lk_wp_seg (lo' := [.ref a0, .int x1]) (st' := [.int x1, .ref r3]) lk_M119 lk_s119_14_1 rfl ?_
    refine lk_wp_ai lk_i119_15 lk_M119 H (fun r4 H => ?_)
    refine lk_wp_if_ne lk_i119_16 lk_M119 H (fun H => ?_) (fun H => ?_)
    · refine lk_wp_seg (lo' := [.ref a0, .int x1]) (st' := [.ref a0]) lk_M119 lk_s119_25_1 rfl ?_
      refine lk_wp_fR lk_i119_26 lk_M119 H (fun r5 H => ?_)
      refine lk_wp_seg (lo' := [.ref a0, .int x1]) (st' := [.int 0, .int x1, .ref r5]) lk_M119 lk_s119_29_2 rfl ?_
      refine lk_wp_as lk_i119_31 lk_M119 H (fun h6 H => ?_)
      refine lk_wp_seg (lo' := [.ref a0, .int x1]) (st' := [.ref a0, .ref a0]) lk_M119 lk_s119_32_2 rfl ?_
      refine lk_wp_fR lk_i119_34 lk_M119 H (fun r7 H => ?_)
      refine lk_wp_seg (lo' := [.ref a0, .int x1]) (st' := [.int x1, .ref r7, .ref a0]) lk_M119 lk_s119_37_1 rfl ?_
      refine lk_wp_ai lk_i119_38 lk_M119 H (fun r8 H => ?_)
      refine lk_wp_cv (as := [.int r8]) (r := []) (a := a0) lk_i119_39 lk_M119 rfl rfl rfl (Nat.le_of_ble_eq_true rfl) H (fun k11 H => lk_gi H (fun r10 h9 H => ?_))
      exact lk_wp_ret lk_i119_42 lk_M119 rfl H
    · refine lk_wp_seg (lo' := [.ref a0, .int x1]) (st' := [.int 1, .ref a0]) lk_M119 lk_s119_19_2 rfl ?_
      refine lk_wp_cv (as := [.int 1]) (r := []) (a := a0) lk_i119_21 lk_M119 rfl rfl rfl (Nat.le_of_ble_eq_true rfl) H (fun k14 H => lk_gi H (fun r13 h12 H => ?_))
      exact lk_wp_ret lk_i119_24 lk_M119 rfl H
  · refine lk_wp_seg (lo' := [.ref a0, .int x1]) (st' := [.int ((-1000001))]) lk_M119 lk_s119_7_1 rfl ?_
    exact lk_wp_ret lk_i119_9 lk_M119 rfl H
/-! LonelyDotsModel.isPlace(I)Z -/
theorem lk_M120 : lk_mt[120]? = some (yX12_isPlace, cX12_isPlace, 1, ((some FieldType.boolean))) := rfl
theorem lk_s120_0_4 : lk_seg 120 [(.iload_n 0, 1, (0, [], .null)), (.i2l, 1, (0, [], .null)), (.lconst 0, 1, (0, [], .long 0)), (.ldc2_w 78, 3, (0, [], .long (9)))] 0 = some 6 := by decide +kernel
theorem lk_i120_6 : lk_ins 120 6 = some (.invokestatic 60, 3, (0, [(0, 112)], .ref 80)) := lk_eqE_eq (by decide +kernel)
theorem lk_i120_9 : lk_ins 120 9 = some (.ireturn, 1, (0, [], .null)) := lk_eqE_eq (by decide +kernel)
set_option maxRecDepth 20000 in
theorem E_m_isPlace {X : lk_X} {d : Nat} {x0 : Int32} {h : lk_H} {Q : Option Value → lk_H → Prop} (H : lk_wxi X d 112 [.long (x0.toInt64), .long 0, .long 9] h (fun r2 h1 => (r2 = 0 ∨ r2 = 1) ∧ Q (some (.int r2)) h1)) : lk_wx X (d + 1) 120 [.int x0] h Q := by
  refine lk_enter (lo := [.int x0]) lk_M120 rfl (Nat.le_of_ble_eq_true rfl) ?_
  refine lk_wp_seg (lo' := [.int x0]) (st' := [.long 9, .long 0, .long (x0.toInt64)]) lk_M120 lk_s120_0_4 rfl ?_
  refine lk_wp_cs (as := [.long (x0.toInt64), .long 0, .long 9]) (r := []) lk_i120_6 lk_M120 rfl rfl rfl rfl (Nat.le_of_ble_eq_true rfl) (lk_gi H (fun r2 h1 H => ?_))
  exact lk_wp_retz lk_i120_9 lk_M120 rfl H
/-! LonelyDotsModel.isOf(II)Z -/
theorem lk_M121 : lk_mt[121]? = some (yX12_isOf, cX12_isOf, 2, ((some FieldType.boolean))) := rfl
theorem lk_s121_0_2 : lk_seg 121 [(.iload_n 0, 1, (0, [], .null)), (.iload_n 1, 1, (0, [], .null))] 0 = some 2 := by decide +kernel
theorem lk_i121_2 : lk_ins 121 2 = some (.if_icmp .eq 37, 3, (39, [], .null)) := lk_eqE_eq (by decide +kernel)
theorem lk_s121_39_2 : lk_seg 121 [(.iconst 1, 1, (0, [], .int (1))), (.goto 4, 3, (44, [], .null))] 39 = some 44 := by decide +kernel
theorem lk_i121_44 : lk_ins 121 44 = some (.ireturn, 1, (0, [], .null)) := lk_eqE_eq (by decide +kernel)
theorem lk_s121_5_1 : lk_seg 121 [(.iload_n 1, 1, (0, [], .null))] 5 = some 6 := by decide +kernel
theorem lk_i121_6 : lk_ins 121 6 = some (.ifCond .eq 33, 3, (39, [], .null)) := lk_eqE_eq (by decide +kernel)
theorem lk_s121_9_2 : lk_seg 121 [(.iload_n 1, 1, (0, [], .null)), (.iconst 1, 1, (0, [], .int (1)))] 9 = some 11 := by decide +kernel
theorem lk_i121_11 : lk_ins 121 11 = some (.if_icmp .ne 8, 3, (19, [], .null)) := lk_eqE_eq (by decide +kernel)
theorem lk_s121_19_2 : lk_seg 121 [(.iload_n 1, 1, (0, [], .null)), (.iconst 3, 1, (0, [], .int (3)))] 19 = some 21 := by decide +kernel
theorem lk_i121_21 : lk_ins 121 21 = some (.if_icmp .ne 8, 3, (29, [], .null)) := lk_eqE_eq (by decide +kernel)
theorem lk_s121_29_2 : lk_seg 121 [(.iload_n 1, 1, (0, [], .null)), (.iconst 4, 1, (0, [], .int (4)))] 29 = some 31 := by decide +kernel
theorem lk_i121_31 : lk_ins 121 31 = some (.if_icmp .ne 12, 3, (43, [], .null)) := lk_eqE_eq (by decide +kernel)
theorem lk_s121_43_1 : lk_seg 121 [(.iconst 0, 1, (0, [], .int (0)))] 43 = some 44 := by decide +kernel
theorem lk_s121_34_2 : lk_seg 121 [(.iload_n 0, 1, (0, [], .null)), (.iconst 5, 1, (0, [], .int (5)))] 34 = some 36 := by decide +kernel
theorem lk_i121_36 : lk_ins 121 36 = some (.if_icmp .ne 7, 3, (43, [], .null)) := lk_eqE_eq (by decide +kernel)
theorem lk_s121_24_2 : lk_seg 121 [(.iload_n 0, 1, (0, [], .null)), (.iconst 3, 1, (0, [], .int (3)))] 24 = some 26 := by decide +kernel
theorem lk_i121_26 : lk_ins 121 26 = some (.if_icmp .gt 13, 3, (39, [], .null)) := lk_eqE_eq (by decide +kernel)
theorem lk_s121_14_2 : lk_seg 121 [(.iload_n 0, 1, (0, [], .null)), (.iconst 2, 1, (0, [], .int (2)))] 14 = some 16 := by decide +kernel
theorem lk_i121_16 : lk_ins 121 16 = some (.if_icmp .eq 23, 3, (39, [], .null)) := lk_eqE_eq (by decide +kernel)
set_option maxRecDepth 20000 in
theorem E_m_isOf {X : lk_X} {d : Nat} {x0 x1 : Int32} {h : lk_H} {Q : Option Value → lk_H → Prop} (H : (x0 = x1 → Q (some (.int 1)) h) ∧ (¬ x0 = x1 → (x1 = 0 → Q (some (.int 1)) h) ∧ (¬ x1 = 0 → (¬ x1 = 1 → (¬ x1 = 3 → (¬ x1 = 4 → Q (some (.int 0)) h) ∧ (x1 = 4 → (¬ x0 = 5 → Q (some (.int 0)) h) ∧ (x0 = 5 → Q (some (.int 1)) h))) ∧ (x1 = 3 → (3 < x0 → Q (some (.int 1)) h) ∧ (¬ 3 < x0 → (¬ x1 = 4 → Q (some (.int 0)) h) ∧ (x1 = 4 → (¬ x0 = 5 → Q (some (.int 0)) h) ∧ (x0 = 5 → Q (some (.int 1)) h))))) ∧ (x1 = 1 → (x0 = 2 → Q (some (.int 1)) h) ∧ (¬ x0 = 2 → (¬ x1 = 3 → (¬ x1 = 4 → Q (some (.int 0)) h) ∧ (x1 = 4 → (¬ x0 = 5 → Q (some (.int 0)) h) ∧ (x0 = 5 → Q (some (.int 1)) h))) ∧ (x1 = 3 → (3 < x0 → Q (some (.int 1)) h) ∧ (¬ 3 < x0 → (¬ x1 = 4 → Q (some (.int 0)) h) ∧ (x1 = 4 → (¬ x0 = 5 → Q (some (.int 0)) h) ∧ (x0 = 5 → Q (some (.int 1)) h))))))))) : lk_wx X (d + 1) 121 [.int x0, .int x1] h Q := by
  refine lk_enter (lo := [.int x0, .int x1]) lk_M121 rfl (Nat.le_of_ble_eq_true rfl) ?_
  refine lk_wp_seg (lo' := [.int x0, .int x1]) (st' := [.int x1, .int x0]) lk_M121 lk_s121_0_2 rfl ?_
  refine lk_wp_ic_eq lk_i121_2 lk_M121 H (fun H => ?_) (fun H => ?_)
  · refine lk_wp_seg (lo' := [.int x0, .int x1]) (st' := [.int 1]) lk_M121 lk_s121_39_2 rfl ?_
    exact lk_wp_ret lk_i121_44 lk_M121 rfl H
  · refine lk_wp_seg (lo' := [.int x0, .int x1]) (st' := [.int x1]) lk_M121 lk_s121_5_1 rfl ?_
    refine lk_wp_if_eq lk_i121_6 lk_M121 H (fun H => ?_) (fun H => ?_)
    · refine lk_wp_seg (lo' := [.int x0, .int x1]) (st' := [.int 1]) lk_M121 lk_s121_39_2 rfl ?_
      exact lk_wp_ret lk_i121_44 lk_M121 rfl H
    · refine lk_wp_seg (lo' := [.int x0, .int x1]) (st' := [.int 1, .int x1]) lk_M121 lk_s121_9_2 rfl ?_
      refine lk_wp_ic_ne lk_i121_11 lk_M121 H (fun H => ?_) (fun H => ?_)
      · refine lk_wp_seg (lo' := [.int x0, .int x1]) (st' := [.int 3, .int x1]) lk_M121 lk_s121_19_2 rfl ?_
        refine lk_wp_ic_ne lk_i121_21 lk_M121 H (fun H => ?_) (fun H => ?_)
        · refine lk_wp_seg (lo' := [.int x0, .int x1]) (st' := [.int 4, .int x1]) lk_M121 lk_s121_29_2 rfl ?_
          refine lk_wp_ic_ne lk_i121_31 lk_M121 H (fun H => ?_) (fun H => ?_)
          · refine lk_wp_seg (lo' := [.int x0, .int x1]) (st' := [.int 0]) lk_M121 lk_s121_43_1 rfl ?_
            exact lk_wp_ret lk_i121_44 lk_M121 rfl H
          · refine lk_wp_seg (lo' := [.int x0, .int x1]) (st' := [.int 5, .int x0]) lk_M121 lk_s121_34_2 rfl ?_
            refine lk_wp_ic_ne lk_i121_36 lk_M121 H (fun H => ?_) (fun H => ?_)
            · refine lk_wp_seg (lo' := [.int x0, .int x1]) (st' := [.int 0]) lk_M121 lk_s121_43_1 rfl ?_
              exact lk_wp_ret lk_i121_44 lk_M121 rfl H
            · refine lk_wp_seg (lo' := [.int x0, .int x1]) (st' := [.int 1]) lk_M121 lk_s121_39_2 rfl ?_
              exact lk_wp_ret lk_i121_44 lk_M121 rfl H
        · refine lk_wp_seg (lo' := [.int x0, .int x1]) (st' := [.int 3, .int x0]) lk_M121 lk_s121_24_2 rfl ?_
          refine lk_wp_ic_gt lk_i121_26 lk_M121 H (fun H => ?_) (fun H => ?_)
          · refine lk_wp_seg (lo' := [.int x0, .int x1]) (st' := [.int 1]) lk_M121 lk_s121_39_2 rfl ?_
            exact lk_wp_ret lk_i121_44 lk_M121 rfl H
          · refine lk_wp_seg (lo' := [.int x0, .int x1]) (st' := [.int 4, .int x1]) lk_M121 lk_s121_29_2 rfl ?_
            refine lk_wp_ic_ne lk_i121_31 lk_M121 H (fun H => ?_) (fun H => ?_)
            · refine lk_wp_seg (lo' := [.int x0, .int x1]) (st' := [.int 0]) lk_M121 lk_s121_43_1 rfl ?_
              exact lk_wp_ret lk_i121_44 lk_M121 rfl H
            · refine lk_wp_seg (lo' := [.int x0, .int x1]) (st' := [.int 5, .int x0]) lk_M121 lk_s121_34_2 rfl ?_
              refine lk_wp_ic_ne lk_i121_36 lk_M121 H (fun H => ?_) (fun H => ?_)
              · refine lk_wp_seg (lo' := [.int x0, .int x1]) (st' := [.int 0]) lk_M121 lk_s121_43_1 rfl ?_
                exact lk_wp_ret lk_i121_44 lk_M121 rfl H
              · refine lk_wp_seg (lo' := [.int x0, .int x1]) (st' := [.int 1]) lk_M121 lk_s121_39_2 rfl ?_
                exact lk_wp_ret lk_i121_44 lk_M121 rfl H
      · refine lk_wp_seg (lo' := [.int x0, .int x1]) (st' := [.int 2, .int x0]) lk_M121 lk_s121_14_2 rfl ?_
        refine lk_wp_ic_eq lk_i121_16 lk_M121 H (fun H => ?_) (fun H => ?_)
        · refine lk_wp_seg (lo' := [.int x0, .int x1]) (st' := [.int 1]) lk_M121 lk_s121_39_2 rfl ?_
          exact lk_wp_ret lk_i121_44 lk_M121 rfl H
        · refine lk_wp_seg (lo' := [.int x0, .int x1]) (st' := [.int 3, .int x1]) lk_M121 lk_s121_19_2 rfl ?_
          refine lk_wp_ic_ne lk_i121_21 lk_M121 H (fun H => ?_) (fun H => ?_)
          · refine lk_wp_seg (lo' := [.int x0, .int x1]) (st' := [.int 4, .int x1]) lk_M121 lk_s121_29_2 rfl ?_
            refine lk_wp_ic_ne lk_i121_31 lk_M121 H (fun H => ?_) (fun H => ?_)
            · refine lk_wp_seg (lo' := [.int x0, .int x1]) (st' := [.int 0]) lk_M121 lk_s121_43_1 rfl ?_
              exact lk_wp_ret lk_i121_44 lk_M121 rfl H
            · refine lk_wp_seg (lo' := [.int x0, .int x1]) (st' := [.int 5, .int x0]) lk_M121 lk_s121_34_2 rfl ?_
              refine lk_wp_ic_ne lk_i121_36 lk_M121 H (fun H => ?_) (fun H => ?_)
              · refine lk_wp_seg (lo' := [.int x0, .int x1]) (st' := [.int 0]) lk_M121 lk_s121_43_1 rfl ?_
                exact lk_wp_ret lk_i121_44 lk_M121 rfl H
              · refine lk_wp_seg (lo' := [.int x0, .int x1]) (st' := [.int 1]) lk_M121 lk_s121_39_2 rfl ?_
                exact lk_wp_ret lk_i121_44 lk_M121 rfl H
          · refine lk_wp_seg (lo' := [.int x0, .int x1]) (st' := [.int 3, .int x0]) lk_M121 lk_s121_24_2 rfl ?_
            refine lk_wp_ic_gt lk_i121_26 lk_M121 H (fun H => ?_) (fun H => ?_)
            · refine lk_wp_seg (lo' := [.int x0, .int x1]) (st' := [.int 1]) lk_M121 lk_s121_39_2 rfl ?_
              exact lk_wp_ret lk_i121_44 lk_M121 rfl H
            · refine lk_wp_seg (lo' := [.int x0, .int x1]) (st' := [.int 4, .int x1]) lk_M121 lk_s121_29_2 rfl ?_
              refine lk_wp_ic_ne lk_i121_31 lk_M121 H (fun H => ?_) (fun H => ?_)
              · refine lk_wp_seg (lo' := [.int x0, .int x1]) (st' := [.int 0]) lk_M121 lk_s121_43_1 rfl ?_
                exact lk_wp_ret lk_i121_44 lk_M121 rfl H
              · refine lk_wp_seg (lo' := [.int x0, .int x1]) (st' := [.int 5, .int x0]) lk_M121 lk_s121_34_2 rfl ?_
                refine lk_wp_ic_ne lk_i121_36 lk_M121 H (fun H => ?_) (fun H => ?_)
                · refine lk_wp_seg (lo' := [.int x0, .int x1]) (st' := [.int 0]) lk_M121 lk_s121_43_1 rfl ?_
                  exact lk_wp_ret lk_i121_44 lk_M121 rfl H
                · refine lk_wp_seg (lo' := [.int x0, .int x1]) (st' := [.int 1]) lk_M121 lk_s121_39_2 rfl ?_
                  exact lk_wp_ret lk_i121_44 lk_M121 rfl H
/-! LonelyDotsModel.at0(II)I -/
theorem lk_M122 : lk_mt[122]? = some (yX12_at0, cX12_at0, 3, ((some FieldType.int))) := rfl
theorem lk_s122_0_1 : lk_seg 122 [(.aload_n 0, 1, (0, [], .null))] 0 = some 1 := by decide +kernel
theorem lk_i122_1 : lk_ins 122 1 = some (.getfield 28, 3, (6, [(11, 0)], .null)) := lk_eqE_eq (by decide +kernel)
theorem lk_s122_4_5 : lk_seg 122 [(.bipush 16, 2, (0, [], .int (16))), (.iload_n 1, 1, (0, [], .null)), (.imul, 1, (0, [], .null)), (.iload_n 2, 1, (0, [], .null)), (.iadd, 1, (0, [], .null))] 4 = some 10 := by decide +kernel
theorem lk_i122_10 : lk_ins 122 10 = some (.iaload, 1, (0, [], .null)) := lk_eqE_eq (by decide +kernel)
theorem lk_i122_11 : lk_ins 122 11 = some (.ireturn, 1, (0, [], .null)) := lk_eqE_eq (by decide +kernel)
set_option maxRecDepth 20000 in
theorem E_m_at0 {X : lk_X} {d : Nat} {x1 x2 : Int32} {a0 : Nat} {h : lk_H} {Q : Option Value → lk_H → Prop} (H : lk_fR h a0 6 [(11, 0)] (fun r1 => lk_ai h r1 ((16 * x1) + x2) (fun r2 => Q (some (.int r2)) h))) : lk_wx X (d + 1) 122 [.ref a0, .int x1, .int x2] h Q := by
  refine lk_enter (lo := [.ref a0, .int x1, .int x2]) lk_M122 rfl (Nat.le_of_ble_eq_true rfl) ?_
  refine lk_wp_seg (lo' := [.ref a0, .int x1, .int x2]) (st' := [.ref a0]) lk_M122 lk_s122_0_1 rfl ?_
  refine lk_wp_fR lk_i122_1 lk_M122 H (fun r1 H => ?_)
  refine lk_wp_seg (lo' := [.ref a0, .int x1, .int x2]) (st' := [.int ((16 * x1) + x2), .ref r1]) lk_M122 lk_s122_4_5 rfl ?_
  refine lk_wp_ai lk_i122_10 lk_M122 H (fun r2 H => ?_)
  exact lk_wp_ret lk_i122_11 lk_M122 rfl H
/-! LonelyDotsModel.areAlike(IZIIII)Z -/
theorem lk_M123 : lk_mt[123]? = some (yX12_areAlike, cX12_areAlike, 7, ((some FieldType.boolean))) := rfl
theorem lk_s123_0_1 : lk_seg 123 [(.iload_n 2, 1, (0, [], .null))] 0 = some 1 := by decide +kernel
theorem lk_i123_1 : lk_ins 123 1 = some (.ifCond .eq 15, 3, (16, [], .null)) := lk_eqE_eq (by decide +kernel)
theorem lk_s123_16_3 : lk_seg 123 [(.aload_n 0, 1, (0, [], .null)), (.iload_n 1, 1, (0, [], .null)), (.iload 4, 2, (0, [], .null))] 16 = some 20 := by decide +kernel
theorem lk_i123_20 : lk_ins 123 20 = some (.invokevirtual 80, 3, (1, [(11, 122)], .ref 84)) := lk_eqE_eq (by decide +kernel)
theorem lk_s123_23_3 : lk_seg 123 [(.aload_n 0, 1, (0, [], .null)), (.iload_n 1, 1, (0, [], .null)), (.iload_n 3, 1, (0, [], .null))] 23 = some 26 := by decide +kernel
theorem lk_i123_26 : lk_ins 123 26 = some (.invokevirtual 80, 3, (1, [(11, 122)], .ref 84)) := lk_eqE_eq (by decide +kernel)
theorem lk_s123_29_4 : lk_seg 123 [(.isub, 1, (0, [], .null)), (.aload_n 0, 1, (0, [], .null)), (.iload_n 1, 1, (0, [], .null)), (.iload 6, 2, (0, [], .null))] 29 = some 34 := by decide +kernel
theorem lk_i123_34 : lk_ins 123 34 = some (.invokevirtual 80, 3, (1, [(11, 122)], .ref 84)) := lk_eqE_eq (by decide +kernel)
theorem lk_s123_37_3 : lk_seg 123 [(.aload_n 0, 1, (0, [], .null)), (.iload_n 1, 1, (0, [], .null)), (.iload 5, 2, (0, [], .null))] 37 = some 41 := by decide +kernel
theorem lk_i123_41 : lk_ins 123 41 = some (.invokevirtual 80, 3, (1, [(11, 122)], .ref 84)) := lk_eqE_eq (by decide +kernel)
theorem lk_s123_44_1 : lk_seg 123 [(.isub, 1, (0, [], .null))] 44 = some 45 := by decide +kernel
theorem lk_i123_45 : lk_ins 123 45 = some (.if_icmp .ne 7, 3, (52, [], .null)) := lk_eqE_eq (by decide +kernel)
theorem lk_s123_52_1 : lk_seg 123 [(.iconst 0, 1, (0, [], .int (0)))] 52 = some 53 := by decide +kernel
theorem lk_i123_53 : lk_ins 123 53 = some (.ireturn, 1, (0, [], .null)) := lk_eqE_eq (by decide +kernel)
theorem lk_s123_48_2 : lk_seg 123 [(.iconst 1, 1, (0, [], .int (1))), (.goto 4, 3, (53, [], .null))] 48 = some 53 := by decide +kernel
theorem lk_s123_4_6 : lk_seg 123 [(.iload 4, 2, (0, [], .null)), (.iload_n 3, 1, (0, [], .null)), (.isub, 1, (0, [], .null)), (.iload 6, 2, (0, [], .null)), (.iload 5, 2, (0, [], .null)), (.isub, 1, (0, [], .null))] 4 = some 13 := by decide +kernel
theorem lk_i123_13 : lk_ins 123 13 = some (.if_icmp .ne 39, 3, (52, [], .null)) := lk_eqE_eq (by decide +kernel)
set_option maxRecDepth 20000 in
theorem E_m_areAlike {X : lk_X} {d : Nat} {x1 x2 x3 x4 x5 x6 : Int32} {a0 : Nat} {h : lk_H} {Q : Option Value → lk_H → Prop} (H : (x2 = 0 → lk_vc h a0 [(11, 122)] (fun k12 => lk_wxi X d k12 [.ref a0, .int x1, .int x4] h (fun r2 h1 => lk_vc h1 a0 [(11, 122)] (fun k11 => lk_wxi X d k11 [.ref a0, .int x1, .int x3] h1 (fun r4 h3 => lk_vc h3 a0 [(11, 122)] (fun k10 => lk_wxi X d k10 [.ref a0, .int x1, .int x6] h3 (fun r6 h5 => lk_vc h5 a0 [(11, 122)] (fun k9 => lk_wxi X d k9 [.ref a0, .int x1, .int x5] h5 (fun r8 h7 => (¬ (r2 - r4) = (r6 - r8) → Q (some (.int 0)) h7) ∧ ((r2 - r4) = (r6 - r8) → Q (some (.int 1)) h7)))))))))) ∧ (¬ x2 = 0 → (¬ (x4 - x3) = (x6 - x5) → Q (some (.int 0)) h) ∧ ((x4 - x3) = (x6 - x5) → lk_vc h a0 [(11, 122)] (fun k24 => lk_wxi X d k24 [.ref a0, .int x1, .int x4] h (fun r14 h13 => lk_vc h13 a0 [(11, 122)] (fun k23 => lk_wxi X d k23 [.ref a0, .int x1, .int x3] h13 (fun r16 h15 => lk_vc h15 a0 [(11, 122)] (fun k22 => lk_wxi X d k22 [.ref a0, .int x1, .int x6] h15 (fun r18 h17 => lk_vc h17 a0 [(11, 122)] (fun k21 => lk_wxi X d k21 [.ref a0, .int x1, .int x5] h17 (fun r20 h19 => (¬ (r14 - r16) = (r18 - r20) → Q (some (.int 0)) h19) ∧ ((r14 - r16) = (r18 - r20) → Q (some (.int 1)) h19)))))))))))) : lk_wx X (d + 1) 123 [.ref a0, .int x1, .int x2, .int x3, .int x4, .int x5, .int x6] h Q := by
  refine lk_enter (lo := [.ref a0, .int x1, .int x2, .int x3, .int x4, .int x5, .int x6]) lk_M123 rfl (Nat.le_of_ble_eq_true rfl) ?_
  refine lk_wp_seg (lo' := [.ref a0, .int x1, .int x2, .int x3, .int x4, .int x5, .int x6]) (st' := [.int x2]) lk_M123 lk_s123_0_1 rfl ?_
  refine lk_wp_if_eq lk_i123_1 lk_M123 H (fun H => ?_) (fun H => ?_)
  · refine lk_wp_seg (lo' := [.ref a0, .int x1, .int x2, .int x3, .int x4, .int x5, .int x6]) (st' := [.int x4, .int x1, .ref a0]) lk_M123 lk_s123_16_3 rfl ?_
    refine lk_wp_cv (as := [.int x1, .int x4]) (r := []) (a := a0) lk_i123_20 lk_M123 rfl rfl rfl (Nat.le_of_ble_eq_true rfl) H (fun k12 H => lk_gi H (fun r2 h1 H => ?_))
    refine lk_wp_seg (lo' := [.ref a0, .int x1, .int x2, .int x3, .int x4, .int x5, .int x6]) (st' := [.int x3, .int x1, .ref a0, .int r2]) lk_M123 lk_s123_23_3 rfl ?_
    refine lk_wp_cv (as := [.int x1, .int x3]) (r := [.int r2]) (a := a0) lk_i123_26 lk_M123 rfl rfl rfl (Nat.le_of_ble_eq_true rfl) H (fun k11 H => lk_gi H (fun r4 h3 H => ?_))
    refine lk_wp_seg (lo' := [.ref a0, .int x1, .int x2, .int x3, .int x4, .int x5, .int x6]) (st' := [.int x6, .int x1, .ref a0, .int (r2 - r4)]) lk_M123 lk_s123_29_4 rfl ?_
    refine lk_wp_cv (as := [.int x1, .int x6]) (r := [.int (r2 - r4)]) (a := a0) lk_i123_34 lk_M123 rfl rfl rfl (Nat.le_of_ble_eq_true rfl) H (fun k10 H => lk_gi H (fun r6 h5 H => ?_))
    refine lk_wp_seg (lo' := [.ref a0, .int x1, .int x2, .int x3, .int x4, .int x5, .int x6]) (st' := [.int x5, .int x1, .ref a0, .int r6, .int (r2 - r4)]) lk_M123 lk_s123_37_3 rfl ?_
    refine lk_wp_cv (as := [.int x1, .int x5]) (r := [.int r6, .int (r2 - r4)]) (a := a0) lk_i123_41 lk_M123 rfl rfl rfl (Nat.le_of_ble_eq_true rfl) H (fun k9 H => lk_gi H (fun r8 h7 H => ?_))
    refine lk_wp_seg (lo' := [.ref a0, .int x1, .int x2, .int x3, .int x4, .int x5, .int x6]) (st' := [.int (r6 - r8), .int (r2 - r4)]) lk_M123 lk_s123_44_1 rfl ?_
    refine lk_wp_ic_ne lk_i123_45 lk_M123 H (fun H => ?_) (fun H => ?_)
    · refine lk_wp_seg (lo' := [.ref a0, .int x1, .int x2, .int x3, .int x4, .int x5, .int x6]) (st' := [.int 0]) lk_M123 lk_s123_52_1 rfl ?_
      exact lk_wp_ret lk_i123_53 lk_M123 rfl H
    · refine lk_wp_seg (lo' := [.ref a0, .int x1, .int x2, .int x3, .int x4, .int x5, .int x6]) (st' := [.int 1]) lk_M123 lk_s123_48_2 rfl ?_
      exact lk_wp_ret lk_i123_53 lk_M123 rfl H
  · refine lk_wp_seg (lo' := [.ref a0, .int x1, .int x2, .int x3, .int x4, .int x5, .int x6]) (st' := [.int (x6 - x5), .int (x4 - x3)]) lk_M123 lk_s123_4_6 rfl ?_
    refine lk_wp_ic_ne lk_i123_13 lk_M123 H (fun H => ?_) (fun H => ?_)
    · refine lk_wp_seg (lo' := [.ref a0, .int x1, .int x2, .int x3, .int x4, .int x5, .int x6]) (st' := [.int 0]) lk_M123 lk_s123_52_1 rfl ?_
      exact lk_wp_ret lk_i123_53 lk_M123 rfl H
    · refine lk_wp_seg (lo' := [.ref a0, .int x1, .int x2, .int x3, .int x4, .int x5, .int x6]) (st' := [.int x4, .int x1, .ref a0]) lk_M123 lk_s123_16_3 rfl ?_
      refine lk_wp_cv (as := [.int x1, .int x4]) (r := []) (a := a0) lk_i123_20 lk_M123 rfl rfl rfl (Nat.le_of_ble_eq_true rfl) H (fun k24 H => lk_gi H (fun r14 h13 H => ?_))
      refine lk_wp_seg (lo' := [.ref a0, .int x1, .int x2, .int x3, .int x4, .int x5, .int x6]) (st' := [.int x3, .int x1, .ref a0, .int r14]) lk_M123 lk_s123_23_3 rfl ?_
      refine lk_wp_cv (as := [.int x1, .int x3]) (r := [.int r14]) (a := a0) lk_i123_26 lk_M123 rfl rfl rfl (Nat.le_of_ble_eq_true rfl) H (fun k23 H => lk_gi H (fun r16 h15 H => ?_))
      refine lk_wp_seg (lo' := [.ref a0, .int x1, .int x2, .int x3, .int x4, .int x5, .int x6]) (st' := [.int x6, .int x1, .ref a0, .int (r14 - r16)]) lk_M123 lk_s123_29_4 rfl ?_
      refine lk_wp_cv (as := [.int x1, .int x6]) (r := [.int (r14 - r16)]) (a := a0) lk_i123_34 lk_M123 rfl rfl rfl (Nat.le_of_ble_eq_true rfl) H (fun k22 H => lk_gi H (fun r18 h17 H => ?_))
      refine lk_wp_seg (lo' := [.ref a0, .int x1, .int x2, .int x3, .int x4, .int x5, .int x6]) (st' := [.int x5, .int x1, .ref a0, .int r18, .int (r14 - r16)]) lk_M123 lk_s123_37_3 rfl ?_
      refine lk_wp_cv (as := [.int x1, .int x5]) (r := [.int r18, .int (r14 - r16)]) (a := a0) lk_i123_41 lk_M123 rfl rfl rfl (Nat.le_of_ble_eq_true rfl) H (fun k21 H => lk_gi H (fun r20 h19 H => ?_))
      refine lk_wp_seg (lo' := [.ref a0, .int x1, .int x2, .int x3, .int x4, .int x5, .int x6]) (st' := [.int (r18 - r20), .int (r14 - r16)]) lk_M123 lk_s123_44_1 rfl ?_
      refine lk_wp_ic_ne lk_i123_45 lk_M123 H (fun H => ?_) (fun H => ?_)
      · refine lk_wp_seg (lo' := [.ref a0, .int x1, .int x2, .int x3, .int x4, .int x5, .int x6]) (st' := [.int 0]) lk_M123 lk_s123_52_1 rfl ?_
        exact lk_wp_ret lk_i123_53 lk_M123 rfl H
      · refine lk_wp_seg (lo' := [.ref a0, .int x1, .int x2, .int x3, .int x4, .int x5, .int x6]) (st' := [.int 1]) lk_M123 lk_s123_48_2 rfl ?_
        exact lk_wp_ret lk_i123_53 lk_M123 rfl H
/-! LonelyDotsModel.findAlike(IZ)Z -/
theorem lk_M124 : lk_mt[124]? = some (yX12_findAlike, cX12_findAlike, 8, ((some FieldType.boolean))) := rfl
theorem lk_s124_0_1 : lk_seg 124 [(.aload_n 0, 1, (0, [], .null))] 0 = some 1 := by decide +kernel
theorem lk_i124_1 : lk_ins 124 1 = some (.getfield 25, 3, (5, [(11, 0)], .null)) := lk_eqE_eq (by decide +kernel)
theorem lk_s124_4_1 : lk_seg 124 [(.iload_n 1, 1, (0, [], .null))] 4 = some 5 := by decide +kernel
theorem lk_i124_5 : lk_ins 124 5 = some (.iaload, 1, (0, [], .null)) := lk_eqE_eq (by decide +kernel)
theorem lk_s124_6_3 : lk_seg 124 [(.istore_n 3, 1, (0, [], .null)), (.iconst 0, 1, (0, [], .int (0))), (.istore 4, 2, (0, [], .null))] 6 = some 10 := by decide +kernel
theorem lk_s124_10_2 : lk_seg 124 [(.iload 4, 2, (0, [], .null)), (.iload_n 3, 1, (0, [], .null))] 10 = some 13 := by decide +kernel
theorem lk_i124_13 : lk_ins 124 13 = some (.if_icmp .ge 126, 3, (139, [], .null)) := lk_eqE_eq (by decide +kernel)
theorem lk_s124_139_2 : lk_seg 124 [(.iconst 0, 1, (0, [], .int (0))), (.istore 4, 2, (0, [], .null))] 139 = some 142 := by decide +kernel
theorem lk_s124_16_4 : lk_seg 124 [(.iload 4, 2, (0, [], .null)), (.iconst 1, 1, (0, [], .int (1))), (.iadd, 1, (0, [], .null)), (.istore 5, 2, (0, [], .null))] 16 = some 22 := by decide +kernel
theorem lk_s124_22_2 : lk_seg 124 [(.iload 5, 2, (0, [], .null)), (.iload_n 3, 1, (0, [], .null))] 22 = some 25 := by decide +kernel
theorem lk_i124_25 : lk_ins 124 25 = some (.if_icmp .ge 108, 3, (133, [], .null)) := lk_eqE_eq (by decide +kernel)
theorem lk_s124_133_2 : lk_seg 124 [(.iinc 4 1, 3, (0, [], .int (1))), (.goto (-126), 3, (10, [], .null))] 133 = some 10 := by decide +kernel
theorem lk_s124_28_2 : lk_seg 124 [(.iload 4, 2, (0, [], .null)), (.istore 6, 2, (0, [], .null))] 28 = some 32 := by decide +kernel
theorem lk_s124_32_2 : lk_seg 124 [(.iload 6, 2, (0, [], .null)), (.iload_n 3, 1, (0, [], .null))] 32 = some 35 := by decide +kernel
theorem lk_i124_35 : lk_ins 124 35 = some (.if_icmp .ge 92, 3, (127, [], .null)) := lk_eqE_eq (by decide +kernel)
theorem lk_s124_127_2 : lk_seg 124 [(.iinc 5 1, 3, (0, [], .int (1))), (.goto (-108), 3, (22, [], .null))] 127 = some 22 := by decide +kernel
theorem lk_s124_38_2 : lk_seg 124 [(.iload 6, 2, (0, [], .null)), (.iload 4, 2, (0, [], .null))] 38 = some 42 := by decide +kernel
theorem lk_i124_42 : lk_ins 124 42 = some (.if_icmp .ne 10, 3, (52, [], .null)) := lk_eqE_eq (by decide +kernel)
theorem lk_s124_52_4 : lk_seg 124 [(.iload 6, 2, (0, [], .null)), (.iconst 1, 1, (0, [], .int (1))), (.iadd, 1, (0, [], .null)), (.istore 7, 2, (0, [], .null))] 52 = some 58 := by decide +kernel
theorem lk_s124_45_4 : lk_seg 124 [(.iload 5, 2, (0, [], .null)), (.iconst 1, 1, (0, [], .int (1))), (.iadd, 1, (0, [], .null)), (.goto 7, 3, (56, [], .null))] 45 = some 56 := by decide +kernel
theorem lk_s124_56_1 : lk_seg 124 [(.istore 7, 2, (0, [], .null))] 56 = some 58 := by decide +kernel
theorem lk_s124_58_2 : lk_seg 124 [(.iload 7, 2, (0, [], .null)), (.iload_n 3, 1, (0, [], .null))] 58 = some 61 := by decide +kernel
theorem lk_i124_61 : lk_ins 124 61 = some (.if_icmp .ge 60, 3, (121, [], .null)) := lk_eqE_eq (by decide +kernel)
theorem lk_s124_121_2 : lk_seg 124 [(.iinc 6 1, 3, (0, [], .int (1))), (.goto (-92), 3, (32, [], .null))] 121 = some 32 := by decide +kernel
theorem lk_s124_64_7 : lk_seg 124 [(.aload_n 0, 1, (0, [], .null)), (.iload_n 1, 1, (0, [], .null)), (.iload_n 2, 1, (0, [], .null)), (.iload 4, 2, (0, [], .null)), (.iload 5, 2, (0, [], .null)), (.iload 6, 2, (0, [], .null)), (.iload 7, 2, (0, [], .null))] 64 = some 75 := by decide +kernel
theorem lk_i124_75 : lk_ins 124 75 = some (.invokevirtual 84, 3, (1, [(11, 123)], .ref 85)) := lk_eqE_eq (by decide +kernel)
theorem lk_i124_78 : lk_ins 124 78 = some (.ifCond .eq 37, 3, (115, [], .null)) := lk_eqE_eq (by decide +kernel)
theorem lk_s124_115_2 : lk_seg 124 [(.iinc 7 1, 3, (0, [], .int (1))), (.goto (-60), 3, (58, [], .null))] 115 = some 58 := by decide +kernel
theorem lk_s124_81_1 : lk_seg 124 [(.aload_n 0, 1, (0, [], .null))] 81 = some 82 := by decide +kernel
theorem lk_i124_82 : lk_ins 124 82 = some (.getfield 34, 3, (10, [(11, 0)], .null)) := lk_eqE_eq (by decide +kernel)
theorem lk_s124_85_2 : lk_seg 124 [(.iconst 0, 1, (0, [], .int (0))), (.iload 4, 2, (0, [], .null))] 85 = some 88 := by decide +kernel
theorem lk_i124_88 : lk_ins 124 88 = some (.iastore, 1, (0, [], .null)) := lk_eqE_eq (by decide +kernel)
theorem lk_s124_89_1 : lk_seg 124 [(.aload_n 0, 1, (0, [], .null))] 89 = some 90 := by decide +kernel
theorem lk_i124_90 : lk_ins 124 90 = some (.getfield 34, 3, (10, [(11, 0)], .null)) := lk_eqE_eq (by decide +kernel)
theorem lk_s124_93_2 : lk_seg 124 [(.iconst 1, 1, (0, [], .int (1))), (.iload 5, 2, (0, [], .null))] 93 = some 96 := by decide +kernel
theorem lk_i124_96 : lk_ins 124 96 = some (.iastore, 1, (0, [], .null)) := lk_eqE_eq (by decide +kernel)
theorem lk_s124_97_1 : lk_seg 124 [(.aload_n 0, 1, (0, [], .null))] 97 = some 98 := by decide +kernel
theorem lk_i124_98 : lk_ins 124 98 = some (.getfield 34, 3, (10, [(11, 0)], .null)) := lk_eqE_eq (by decide +kernel)
theorem lk_s124_101_2 : lk_seg 124 [(.iconst 2, 1, (0, [], .int (2))), (.iload 6, 2, (0, [], .null))] 101 = some 104 := by decide +kernel
theorem lk_i124_104 : lk_ins 124 104 = some (.iastore, 1, (0, [], .null)) := lk_eqE_eq (by decide +kernel)
theorem lk_s124_105_1 : lk_seg 124 [(.aload_n 0, 1, (0, [], .null))] 105 = some 106 := by decide +kernel
theorem lk_i124_106 : lk_ins 124 106 = some (.getfield 34, 3, (10, [(11, 0)], .null)) := lk_eqE_eq (by decide +kernel)
theorem lk_s124_109_2 : lk_seg 124 [(.iconst 3, 1, (0, [], .int (3))), (.iload 7, 2, (0, [], .null))] 109 = some 112 := by decide +kernel
theorem lk_i124_112 : lk_ins 124 112 = some (.iastore, 1, (0, [], .null)) := lk_eqE_eq (by decide +kernel)
theorem lk_s124_113_1 : lk_seg 124 [(.iconst 1, 1, (0, [], .int (1)))] 113 = some 114 := by decide +kernel
theorem lk_i124_114 : lk_ins 124 114 = some (.ireturn, 1, (0, [], .null)) := lk_eqE_eq (by decide +kernel)
theorem lk_s124_142_2 : lk_seg 124 [(.iload 4, 2, (0, [], .null)), (.iconst 4, 1, (0, [], .int (4)))] 142 = some 145 := by decide +kernel
theorem lk_i124_145 : lk_ins 124 145 = some (.if_icmp .ge 18, 3, (163, [], .null)) := lk_eqE_eq (by decide +kernel)
theorem lk_s124_163_1 : lk_seg 124 [(.iconst 0, 1, (0, [], .int (0)))] 163 = some 164 := by decide +kernel
theorem lk_i124_164 : lk_ins 124 164 = some (.ireturn, 1, (0, [], .null)) := lk_eqE_eq (by decide +kernel)
theorem lk_s124_148_1 : lk_seg 124 [(.aload_n 0, 1, (0, [], .null))] 148 = some 149 := by decide +kernel
theorem lk_i124_149 : lk_ins 124 149 = some (.getfield 34, 3, (10, [(11, 0)], .null)) := lk_eqE_eq (by decide +kernel)
theorem lk_s124_152_2 : lk_seg 124 [(.iload 4, 2, (0, [], .null)), (.ldc 88, 2, (0, [], .int (-1000000)))] 152 = some 156 := by decide +kernel
theorem lk_i124_156 : lk_ins 124 156 = some (.iastore, 1, (0, [], .null)) := lk_eqE_eq (by decide +kernel)
theorem lk_s124_157_2 : lk_seg 124 [(.iinc 4 1, 3, (0, [], .int (1))), (.goto (-18), 3, (142, [], .null))] 157 = some 142 := by decide +kernel
set_option maxRecDepth 20000 in
theorem E_m_findAlike {X : lk_X} {d : Nat} {x1 x2 : Int32} {a0 : Nat} {h : lk_H} {Q : Option Value → lk_H → Prop} (H : lk_fR h a0 5 [(11, 0)] (fun r1 => lk_ai h r1 x1 (fun r2 => lk_wp X (d + 1) 124 10 [.ref a0, .int x1, .int x2, .int r2, .int 0, .retAddr 0, .retAddr 0, .retAddr 0] [] h Q))) : lk_wx X (d + 1) 124 [.ref a0, .int x1, .int x2] h Q := by
  refine lk_enter (lo := [.ref a0, .int x1, .int x2, .retAddr 0, .retAddr 0, .retAddr 0, .retAddr 0, .retAddr 0]) lk_M124 rfl (Nat.le_of_ble_eq_true rfl) ?_
  refine lk_wp_seg (lo' := [.ref a0, .int x1, .int x2, .retAddr 0, .retAddr 0, .retAddr 0, .retAddr 0, .retAddr 0]) (st' := [.ref a0]) lk_M124 lk_s124_0_1 rfl ?_
  refine lk_wp_fR lk_i124_1 lk_M124 H (fun r1 H => ?_)
  refine lk_wp_seg (lo' := [.ref a0, .int x1, .int x2, .retAddr 0, .retAddr 0, .retAddr 0, .retAddr 0, .retAddr 0]) (st' := [.int x1, .ref r1]) lk_M124 lk_s124_4_1 rfl ?_
  refine lk_wp_ai lk_i124_5 lk_M124 H (fun r2 H => ?_)
  refine lk_wp_seg (lo' := [.ref a0, .int x1, .int x2, .int r2, .int 0, .retAddr 0, .retAddr 0, .retAddr 0]) (st' := []) lk_M124 lk_s124_6_3 rfl ?_
  exact H
set_option maxRecDepth 20000 in
theorem F_m_findAlike_10 {X : lk_X} {d : Nat} {x1 x2 x3 x4 : Int32} {a0 : Nat} {h : lk_H} {Q : Option Value → lk_H → Prop} (H : (x3 ≤ x4 → lk_wp X (d + 1) 124 142 [.ref a0, .retAddr 0, .retAddr 0, .retAddr 0, .int 0, .retAddr 0, .retAddr 0, .retAddr 0] [] h Q) ∧ (¬ x3 ≤ x4 → lk_wp X (d + 1) 124 22 [.ref a0, .int x1, .int x2, .int x3, .int x4, .int (x4 + 1), .retAddr 0, .retAddr 0] [] h Q)) : lk_wp X (d + 1) 124 10 [.ref a0, .int x1, .int x2, .int x3, .int x4, .retAddr 0, .retAddr 0, .retAddr 0] [] h Q := by
  refine lk_wp_seg (lo' := [.ref a0, .int x1, .int x2, .int x3, .int x4, .retAddr 0, .retAddr 0, .retAddr 0]) (st' := [.int x3, .int x4]) lk_M124 lk_s124_10_2 rfl ?_
  refine lk_wp_ic_ge lk_i124_13 lk_M124 H (fun H => ?_) (fun H => ?_)
  · refine lk_wp_seg (lo' := [.ref a0, .int x1, .int x2, .int x3, .int 0, .retAddr 0, .retAddr 0, .retAddr 0]) (st' := []) lk_M124 lk_s124_139_2 rfl ?_
    exact H.forget (lk_le_s (lk_le_d (lk_le_d (lk_le_d (lk_le_s (lk_le_s (lk_le_s (lk_le_s lk_le_n))))))))
  · refine lk_wp_seg (lo' := [.ref a0, .int x1, .int x2, .int x3, .int x4, .int (x4 + 1), .retAddr 0, .retAddr 0]) (st' := []) lk_M124 lk_s124_16_4 rfl ?_
    exact H
set_option maxRecDepth 20000 in
theorem F_m_findAlike_22 {X : lk_X} {d : Nat} {x1 x2 x3 x4 x5 : Int32} {a0 : Nat} {h : lk_H} {Q : Option Value → lk_H → Prop} (H : (x3 ≤ x5 → lk_wp X (d + 1) 124 10 [.ref a0, .int x1, .int x2, .int x3, .int (x4 + 1), .retAddr 0, .retAddr 0, .retAddr 0] [] h Q) ∧ (¬ x3 ≤ x5 → lk_wp X (d + 1) 124 32 [.ref a0, .int x1, .int x2, .int x3, .int x4, .int x5, .int x4, .retAddr 0] [] h Q)) : lk_wp X (d + 1) 124 22 [.ref a0, .int x1, .int x2, .int x3, .int x4, .int x5, .retAddr 0, .retAddr 0] [] h Q := by
  refine lk_wp_seg (lo' := [.ref a0, .int x1, .int x2, .int x3, .int x4, .int x5, .retAddr 0, .retAddr 0]) (st' := [.int x3, .int x5]) lk_M124 lk_s124_22_2 rfl ?_
  refine lk_wp_ic_ge lk_i124_25 lk_M124 H (fun H => ?_) (fun H => ?_)
  · refine lk_wp_seg (lo' := [.ref a0, .int x1, .int x2, .int x3, .int (x4 + 1), .int x5, .retAddr 0, .retAddr 0]) (st' := []) lk_M124 lk_s124_133_2 rfl ?_
    exact H.forget (lk_le_s (lk_le_s (lk_le_s (lk_le_s (lk_le_s (lk_le_d (lk_le_s (lk_le_s lk_le_n))))))))
  · refine lk_wp_seg (lo' := [.ref a0, .int x1, .int x2, .int x3, .int x4, .int x5, .int x4, .retAddr 0]) (st' := []) lk_M124 lk_s124_28_2 rfl ?_
    exact H
set_option maxRecDepth 20000 in
theorem F_m_findAlike_32 {X : lk_X} {d : Nat} {x1 x2 x3 x4 x5 x6 : Int32} {a0 : Nat} {h : lk_H} {Q : Option Value → lk_H → Prop} (H : (x3 ≤ x6 → lk_wp X (d + 1) 124 22 [.ref a0, .int x1, .int x2, .int x3, .int x4, .int (x5 + 1), .retAddr 0, .retAddr 0] [] h Q) ∧ (¬ x3 ≤ x6 → (¬ x6 = x4 → lk_wp X (d + 1) 124 58 [.ref a0, .int x1, .int x2, .int x3, .int x4, .int x5, .int x6, .int (x6 + 1)] [] h Q) ∧ (x6 = x4 → lk_wp X (d + 1) 124 58 [.ref a0, .int x1, .int x2, .int x3, .int x4, .int x5, .int x6, .int (x5 + 1)] [] h Q))) : lk_wp X (d + 1) 124 32 [.ref a0, .int x1, .int x2, .int x3, .int x4, .int x5, .int x6, .retAddr 0] [] h Q := by
  refine lk_wp_seg (lo' := [.ref a0, .int x1, .int x2, .int x3, .int x4, .int x5, .int x6, .retAddr 0]) (st' := [.int x3, .int x6]) lk_M124 lk_s124_32_2 rfl ?_
  refine lk_wp_ic_ge lk_i124_35 lk_M124 H (fun H => ?_) (fun H => ?_)
  · refine lk_wp_seg (lo' := [.ref a0, .int x1, .int x2, .int x3, .int x4, .int (x5 + 1), .int x6, .retAddr 0]) (st' := []) lk_M124 lk_s124_127_2 rfl ?_
    exact H.forget (lk_le_s (lk_le_s (lk_le_s (lk_le_s (lk_le_s (lk_le_s (lk_le_d (lk_le_s lk_le_n))))))))
  · refine lk_wp_seg (lo' := [.ref a0, .int x1, .int x2, .int x3, .int x4, .int x5, .int x6, .retAddr 0]) (st' := [.int x4, .int x6]) lk_M124 lk_s124_38_2 rfl ?_
    refine lk_wp_ic_ne lk_i124_42 lk_M124 H (fun H => ?_) (fun H => ?_)
    · refine lk_wp_seg (lo' := [.ref a0, .int x1, .int x2, .int x3, .int x4, .int x5, .int x6, .int (x6 + 1)]) (st' := []) lk_M124 lk_s124_52_4 rfl ?_
      exact H
    · refine lk_wp_seg (lo' := [.ref a0, .int x1, .int x2, .int x3, .int x4, .int x5, .int x6, .retAddr 0]) (st' := [.int (x5 + 1)]) lk_M124 lk_s124_45_4 rfl ?_
      refine lk_wp_seg (lo' := [.ref a0, .int x1, .int x2, .int x3, .int x4, .int x5, .int x6, .int (x5 + 1)]) (st' := []) lk_M124 lk_s124_56_1 rfl ?_
      exact H
set_option maxRecDepth 20000 in
theorem F_m_findAlike_58 {X : lk_X} {d : Nat} {x1 x2 x3 x4 x5 x6 x7 : Int32} {a0 : Nat} {h : lk_H} {Q : Option Value → lk_H → Prop} (H : (x3 ≤ x7 → lk_wp X (d + 1) 124 32 [.ref a0, .int x1, .int x2, .int x3, .int x4, .int x5, .int (x6 + 1), .retAddr 0] [] h Q) ∧ (¬ x3 ≤ x7 → lk_vc h a0 [(11, 123)] (fun k11 => lk_wxi X d k11 [.ref a0, .int x1, .int x2, .int x4, .int x5, .int x6, .int x7] h (fun r2 h1 => (r2 = 0 → lk_wp X (d + 1) 124 58 [.ref a0, .int x1, .int x2, .int x3, .int x4, .int x5, .int x6, .int (x7 + 1)] [] h1 Q) ∧ (¬ r2 = 0 → lk_fR h1 a0 10 [(11, 0)] (fun r3 => lk_as h1 r3 0 x4 (fun h4 => lk_fR h4 a0 10 [(11, 0)] (fun r5 => lk_as h4 r5 1 x5 (fun h6 => lk_fR h6 a0 10 [(11, 0)] (fun r7 => lk_as h6 r7 2 x6 (fun h8 => lk_fR h8 a0 10 [(11, 0)] (fun r9 => lk_as h8 r9 3 x7 (fun h10 => Q (some (.int 1)) h10))))))))))))) : lk_wp X (d + 1) 124 58 [.ref a0, .int x1, .int x2, .int x3, .int x4, .int x5, .int x6, .int x7] [] h Q := by
  refine lk_wp_seg (lo' := [.ref a0, .int x1, .int x2, .int x3, .int x4, .int x5, .int x6, .int x7]) (st' := [.int x3, .int x7]) lk_M124 lk_s124_58_2 rfl ?_
  refine lk_wp_ic_ge lk_i124_61 lk_M124 H (fun H => ?_) (fun H => ?_)
  · refine lk_wp_seg (lo' := [.ref a0, .int x1, .int x2, .int x3, .int x4, .int x5, .int (x6 + 1), .int x7]) (st' := []) lk_M124 lk_s124_121_2 rfl ?_
    exact H.forget (lk_le_s (lk_le_s (lk_le_s (lk_le_s (lk_le_s (lk_le_s (lk_le_s (lk_le_d lk_le_n))))))))
  · refine lk_wp_seg (lo' := [.ref a0, .int x1, .int x2, .int x3, .int x4, .int x5, .int x6, .int x7]) (st' := [.int x7, .int x6, .int x5, .int x4, .int x2, .int x1, .ref a0]) lk_M124 lk_s124_64_7 rfl ?_
    refine lk_wp_cv (as := [.int x1, .int x2, .int x4, .int x5, .int x6, .int x7]) (r := []) (a := a0) lk_i124_75 lk_M124 rfl rfl rfl (Nat.le_of_ble_eq_true rfl) H (fun k11 H => lk_gi H (fun r2 h1 H => ?_))
    refine lk_wp_if_eq lk_i124_78 lk_M124 H (fun H => ?_) (fun H => ?_)
    · refine lk_wp_seg (lo' := [.ref a0, .int x1, .int x2, .int x3, .int x4, .int x5, .int x6, .int (x7 + 1)]) (st' := []) lk_M124 lk_s124_115_2 rfl ?_
      exact H
    · refine lk_wp_seg (lo' := [.ref a0, .int x1, .int x2, .int x3, .int x4, .int x5, .int x6, .int x7]) (st' := [.ref a0]) lk_M124 lk_s124_81_1 rfl ?_
      refine lk_wp_fR lk_i124_82 lk_M124 H (fun r3 H => ?_)
      refine lk_wp_seg (lo' := [.ref a0, .int x1, .int x2, .int x3, .int x4, .int x5, .int x6, .int x7]) (st' := [.int x4, .int 0, .ref r3]) lk_M124 lk_s124_85_2 rfl ?_
      refine lk_wp_as lk_i124_88 lk_M124 H (fun h4 H => ?_)
      refine lk_wp_seg (lo' := [.ref a0, .int x1, .int x2, .int x3, .int x4, .int x5, .int x6, .int x7]) (st' := [.ref a0]) lk_M124 lk_s124_89_1 rfl ?_
      refine lk_wp_fR lk_i124_90 lk_M124 H (fun r5 H => ?_)
      refine lk_wp_seg (lo' := [.ref a0, .int x1, .int x2, .int x3, .int x4, .int x5, .int x6, .int x7]) (st' := [.int x5, .int 1, .ref r5]) lk_M124 lk_s124_93_2 rfl ?_
      refine lk_wp_as lk_i124_96 lk_M124 H (fun h6 H => ?_)
      refine lk_wp_seg (lo' := [.ref a0, .int x1, .int x2, .int x3, .int x4, .int x5, .int x6, .int x7]) (st' := [.ref a0]) lk_M124 lk_s124_97_1 rfl ?_
      refine lk_wp_fR lk_i124_98 lk_M124 H (fun r7 H => ?_)
      refine lk_wp_seg (lo' := [.ref a0, .int x1, .int x2, .int x3, .int x4, .int x5, .int x6, .int x7]) (st' := [.int x6, .int 2, .ref r7]) lk_M124 lk_s124_101_2 rfl ?_
      refine lk_wp_as lk_i124_104 lk_M124 H (fun h8 H => ?_)
      refine lk_wp_seg (lo' := [.ref a0, .int x1, .int x2, .int x3, .int x4, .int x5, .int x6, .int x7]) (st' := [.ref a0]) lk_M124 lk_s124_105_1 rfl ?_
      refine lk_wp_fR lk_i124_106 lk_M124 H (fun r9 H => ?_)
      refine lk_wp_seg (lo' := [.ref a0, .int x1, .int x2, .int x3, .int x4, .int x5, .int x6, .int x7]) (st' := [.int x7, .int 3, .ref r9]) lk_M124 lk_s124_109_2 rfl ?_
      refine lk_wp_as lk_i124_112 lk_M124 H (fun h10 H => ?_)
      refine lk_wp_seg (lo' := [.ref a0, .int x1, .int x2, .int x3, .int x4, .int x5, .int x6, .int x7]) (st' := [.int 1]) lk_M124 lk_s124_113_1 rfl ?_
      exact lk_wp_ret lk_i124_114 lk_M124 rfl H
set_option maxRecDepth 20000 in
theorem F_m_findAlike_142 {X : lk_X} {d : Nat} {x4 : Int32} {a0 : Nat} {h : lk_H} {Q : Option Value → lk_H → Prop} (H : (4 ≤ x4 → Q (some (.int 0)) h) ∧ (¬ 4 ≤ x4 → lk_fR h a0 10 [(11, 0)] (fun r1 => lk_as h r1 x4 (-1000000) (fun h2 => lk_wp X (d + 1) 124 142 [.ref a0, .retAddr 0, .retAddr 0, .retAddr 0, .int (x4 + 1), .retAddr 0, .retAddr 0, .retAddr 0] [] h2 Q)))) : lk_wp X (d + 1) 124 142 [.ref a0, .retAddr 0, .retAddr 0, .retAddr 0, .int x4, .retAddr 0, .retAddr 0, .retAddr 0] [] h Q := by
  refine lk_wp_seg (lo' := [.ref a0, .retAddr 0, .retAddr 0, .retAddr 0, .int x4, .retAddr 0, .retAddr 0, .retAddr 0]) (st' := [.int 4, .int x4]) lk_M124 lk_s124_142_2 rfl ?_
  refine lk_wp_ic_ge lk_i124_145 lk_M124 H (fun H => ?_) (fun H => ?_)
  · refine lk_wp_seg (lo' := [.ref a0, .retAddr 0, .retAddr 0, .retAddr 0, .int x4, .retAddr 0, .retAddr 0, .retAddr 0]) (st' := [.int 0]) lk_M124 lk_s124_163_1 rfl ?_
    exact lk_wp_ret lk_i124_164 lk_M124 rfl H
  · refine lk_wp_seg (lo' := [.ref a0, .retAddr 0, .retAddr 0, .retAddr 0, .int x4, .retAddr 0, .retAddr 0, .retAddr 0]) (st' := [.ref a0]) lk_M124 lk_s124_148_1 rfl ?_
    refine lk_wp_fR lk_i124_149 lk_M124 H (fun r1 H => ?_)
    refine lk_wp_seg (lo' := [.ref a0, .retAddr 0, .retAddr 0, .retAddr 0, .int x4, .retAddr 0, .retAddr 0, .retAddr 0]) (st' := [.int ((-1000000)), .int x4, .ref r1]) lk_M124 lk_s124_152_2 rfl ?_
    refine lk_wp_as lk_i124_156 lk_M124 H (fun h2 H => ?_)
    refine lk_wp_seg (lo' := [.ref a0, .retAddr 0, .retAddr 0, .retAddr 0, .int (x4 + 1), .retAddr 0, .retAddr 0, .retAddr 0]) (st' := []) lk_M124 lk_s124_157_2 rfl ?_
    exact H
/-! LonelyDotsModel.hasAll(I)Z -/
theorem lk_M125 : lk_mt[125]? = some (yX12_hasAll, cX12_hasAll, 7, ((some FieldType.boolean))) := rfl
theorem lk_s125_0_1 : lk_seg 125 [(.aload_n 0, 1, (0, [], .null))] 0 = some 1 := by decide +kernel
theorem lk_i125_1 : lk_ins 125 1 = some (.getfield 25, 3, (5, [(11, 0)], .null)) := lk_eqE_eq (by decide +kernel)
theorem lk_s125_4_1 : lk_seg 125 [(.iload_n 1, 1, (0, [], .null))] 4 = some 5 := by decide +kernel
theorem lk_i125_5 : lk_ins 125 5 = some (.iaload, 1, (0, [], .null)) := lk_eqE_eq (by decide +kernel)
theorem lk_s125_6_3 : lk_seg 125 [(.istore_n 2, 1, (0, [], .null)), (.iconst 1, 1, (0, [], .int (1))), (.istore_n 3, 1, (0, [], .null))] 6 = some 9 := by decide +kernel
theorem lk_s125_9_6 : lk_seg 125 [(.iload_n 3, 1, (0, [], .null)), (.aload_n 0, 1, (0, [], .null)), (.iload_n 1, 1, (0, [], .null)), (.iload_n 2, 1, (0, [], .null)), (.iconst 1, 1, (0, [], .int (1))), (.isub, 1, (0, [], .null))] 9 = some 15 := by decide +kernel
theorem lk_i125_15 : lk_ins 125 15 = some (.invokevirtual 80, 3, (1, [(11, 122)], .ref 84)) := lk_eqE_eq (by decide +kernel)
theorem lk_s125_18_3 : lk_seg 125 [(.aload_n 0, 1, (0, [], .null)), (.iload_n 1, 1, (0, [], .null)), (.iconst 0, 1, (0, [], .int (0)))] 18 = some 21 := by decide +kernel
theorem lk_i125_21 : lk_ins 125 21 = some (.invokevirtual 80, 3, (1, [(11, 122)], .ref 84)) := lk_eqE_eq (by decide +kernel)
theorem lk_s125_24_1 : lk_seg 125 [(.isub, 1, (0, [], .null))] 24 = some 25 := by decide +kernel
theorem lk_i125_25 : lk_ins 125 25 = some (.if_icmp .gt 83, 3, (108, [], .null)) := lk_eqE_eq (by decide +kernel)
theorem lk_s125_108_1 : lk_seg 125 [(.iconst 1, 1, (0, [], .int (1)))] 108 = some 109 := by decide +kernel
theorem lk_i125_109 : lk_ins 125 109 = some (.ireturn, 1, (0, [], .null)) := lk_eqE_eq (by decide +kernel)
theorem lk_s125_28_4 : lk_seg 125 [(.iconst 0, 1, (0, [], .int (0))), (.istore 4, 2, (0, [], .null)), (.iconst 0, 1, (0, [], .int (0))), (.istore 5, 2, (0, [], .null))] 28 = some 34 := by decide +kernel
theorem lk_s125_34_2 : lk_seg 125 [(.iload 5, 2, (0, [], .null)), (.iload_n 2, 1, (0, [], .null))] 34 = some 37 := by decide +kernel
theorem lk_i125_37 : lk_ins 125 37 = some (.if_icmp .ge 58, 3, (95, [], .null)) := lk_eqE_eq (by decide +kernel)
theorem lk_s125_95_1 : lk_seg 125 [(.iload 4, 2, (0, [], .null))] 95 = some 97 := by decide +kernel
theorem lk_i125_97 : lk_ins 125 97 = some (.ifCond .ne 5, 3, (102, [], .null)) := lk_eqE_eq (by decide +kernel)
theorem lk_s125_102_2 : lk_seg 125 [(.iinc 3 1, 3, (0, [], .int (1))), (.goto (-96), 3, (9, [], .null))] 102 = some 9 := by decide +kernel
theorem lk_s125_100_1 : lk_seg 125 [(.iconst 0, 1, (0, [], .int (0)))] 100 = some 101 := by decide +kernel
theorem lk_i125_101 : lk_ins 125 101 = some (.ireturn, 1, (0, [], .null)) := lk_eqE_eq (by decide +kernel)
theorem lk_s125_40_4 : lk_seg 125 [(.iload 5, 2, (0, [], .null)), (.iconst 1, 1, (0, [], .int (1))), (.iadd, 1, (0, [], .null)), (.istore 6, 2, (0, [], .null))] 40 = some 46 := by decide +kernel
theorem lk_s125_46_2 : lk_seg 125 [(.iload 6, 2, (0, [], .null)), (.iload_n 2, 1, (0, [], .null))] 46 = some 49 := by decide +kernel
theorem lk_i125_49 : lk_ins 125 49 = some (.if_icmp .ge 40, 3, (89, [], .null)) := lk_eqE_eq (by decide +kernel)
theorem lk_s125_89_2 : lk_seg 125 [(.iinc 5 1, 3, (0, [], .int (1))), (.goto (-58), 3, (34, [], .null))] 89 = some 34 := by decide +kernel
theorem lk_s125_52_1 : lk_seg 125 [(.iload 4, 2, (0, [], .null))] 52 = some 54 := by decide +kernel
theorem lk_i125_54 : lk_ins 125 54 = some (.ifCond .ne 22, 3, (76, [], .null)) := lk_eqE_eq (by decide +kernel)
theorem lk_s125_76_2 : lk_seg 125 [(.iconst 1, 1, (0, [], .int (1))), (.goto 4, 3, (81, [], .null))] 76 = some 81 := by decide +kernel
theorem lk_s125_81_3 : lk_seg 125 [(.istore 4, 2, (0, [], .null)), (.iinc 6 1, 3, (0, [], .int (1))), (.goto (-40), 3, (46, [], .null))] 81 = some 46 := by decide +kernel
theorem lk_s125_57_3 : lk_seg 125 [(.aload_n 0, 1, (0, [], .null)), (.iload_n 1, 1, (0, [], .null)), (.iload 6, 2, (0, [], .null))] 57 = some 61 := by decide +kernel
theorem lk_i125_61 : lk_ins 125 61 = some (.invokevirtual 80, 3, (1, [(11, 122)], .ref 84)) := lk_eqE_eq (by decide +kernel)
theorem lk_s125_64_3 : lk_seg 125 [(.aload_n 0, 1, (0, [], .null)), (.iload_n 1, 1, (0, [], .null)), (.iload 5, 2, (0, [], .null))] 64 = some 68 := by decide +kernel
theorem lk_i125_68 : lk_ins 125 68 = some (.invokevirtual 80, 3, (1, [(11, 122)], .ref 84)) := lk_eqE_eq (by decide +kernel)
theorem lk_s125_71_2 : lk_seg 125 [(.isub, 1, (0, [], .null)), (.iload_n 3, 1, (0, [], .null))] 71 = some 73 := by decide +kernel
theorem lk_i125_73 : lk_ins 125 73 = some (.if_icmp .ne 7, 3, (80, [], .null)) := lk_eqE_eq (by decide +kernel)
theorem lk_s125_80_4 : lk_seg 125 [(.iconst 0, 1, (0, [], .int (0))), (.istore 4, 2, (0, [], .null)), (.iinc 6 1, 3, (0, [], .int (1))), (.goto (-40), 3, (46, [], .null))] 80 = some 46 := by decide +kernel
set_option maxRecDepth 20000 in
theorem E_m_hasAll {X : lk_X} {d : Nat} {x1 : Int32} {a0 : Nat} {h : lk_H} {Q : Option Value → lk_H → Prop} (H : lk_fR h a0 5 [(11, 0)] (fun r1 => lk_ai h r1 x1 (fun r2 => lk_wp X (d + 1) 125 9 [.ref a0, .int x1, .int r2, .int 1, .retAddr 0, .retAddr 0, .retAddr 0] [] h Q))) : lk_wx X (d + 1) 125 [.ref a0, .int x1] h Q := by
  refine lk_enter (lo := [.ref a0, .int x1, .retAddr 0, .retAddr 0, .retAddr 0, .retAddr 0, .retAddr 0]) lk_M125 rfl (Nat.le_of_ble_eq_true rfl) ?_
  refine lk_wp_seg (lo' := [.ref a0, .int x1, .retAddr 0, .retAddr 0, .retAddr 0, .retAddr 0, .retAddr 0]) (st' := [.ref a0]) lk_M125 lk_s125_0_1 rfl ?_
  refine lk_wp_fR lk_i125_1 lk_M125 H (fun r1 H => ?_)
  refine lk_wp_seg (lo' := [.ref a0, .int x1, .retAddr 0, .retAddr 0, .retAddr 0, .retAddr 0, .retAddr 0]) (st' := [.int x1, .ref r1]) lk_M125 lk_s125_4_1 rfl ?_
  refine lk_wp_ai lk_i125_5 lk_M125 H (fun r2 H => ?_)
  refine lk_wp_seg (lo' := [.ref a0, .int x1, .int r2, .int 1, .retAddr 0, .retAddr 0, .retAddr 0]) (st' := []) lk_M125 lk_s125_6_3 rfl ?_
  exact H
set_option maxRecDepth 20000 in
theorem F_m_hasAll_9 {X : lk_X} {d : Nat} {x1 x2 x3 : Int32} {a0 : Nat} {h : lk_H} {Q : Option Value → lk_H → Prop} (H : lk_vc h a0 [(11, 122)] (fun k6 => lk_wxi X d k6 [.ref a0, .int x1, .int (x2 - 1)] h (fun r2 h1 => lk_vc h1 a0 [(11, 122)] (fun k5 => lk_wxi X d k5 [.ref a0, .int x1, .int 0] h1 (fun r4 h3 => ((r2 - r4) < x3 → Q (some (.int 1)) h3) ∧ (¬ (r2 - r4) < x3 → lk_wp X (d + 1) 125 34 [.ref a0, .int x1, .int x2, .int x3, .int 0, .int 0, .retAddr 0] [] h3 Q)))))) : lk_wp X (d + 1) 125 9 [.ref a0, .int x1, .int x2, .int x3, .retAddr 0, .retAddr 0, .retAddr 0] [] h Q := by
  refine lk_wp_seg (lo' := [.ref a0, .int x1, .int x2, .int x3, .retAddr 0, .retAddr 0, .retAddr 0]) (st' := [.int (x2 - 1), .int x1, .ref a0, .int x3]) lk_M125 lk_s125_9_6 rfl ?_
  refine lk_wp_cv (as := [.int x1, .int (x2 - 1)]) (r := [.int x3]) (a := a0) lk_i125_15 lk_M125 rfl rfl rfl (Nat.le_of_ble_eq_true rfl) H (fun k6 H => lk_gi H (fun r2 h1 H => ?_))
  refine lk_wp_seg (lo' := [.ref a0, .int x1, .int x2, .int x3, .retAddr 0, .retAddr 0, .retAddr 0]) (st' := [.int 0, .int x1, .ref a0, .int r2, .int x3]) lk_M125 lk_s125_18_3 rfl ?_
  refine lk_wp_cv (as := [.int x1, .int 0]) (r := [.int r2, .int x3]) (a := a0) lk_i125_21 lk_M125 rfl rfl rfl (Nat.le_of_ble_eq_true rfl) H (fun k5 H => lk_gi H (fun r4 h3 H => ?_))
  refine lk_wp_seg (lo' := [.ref a0, .int x1, .int x2, .int x3, .retAddr 0, .retAddr 0, .retAddr 0]) (st' := [.int (r2 - r4), .int x3]) lk_M125 lk_s125_24_1 rfl ?_
  refine lk_wp_ic_gt lk_i125_25 lk_M125 H (fun H => ?_) (fun H => ?_)
  · refine lk_wp_seg (lo' := [.ref a0, .int x1, .int x2, .int x3, .retAddr 0, .retAddr 0, .retAddr 0]) (st' := [.int 1]) lk_M125 lk_s125_108_1 rfl ?_
    exact lk_wp_ret lk_i125_109 lk_M125 rfl H
  · refine lk_wp_seg (lo' := [.ref a0, .int x1, .int x2, .int x3, .int 0, .int 0, .retAddr 0]) (st' := []) lk_M125 lk_s125_28_4 rfl ?_
    exact H
set_option maxRecDepth 20000 in
theorem F_m_hasAll_34 {X : lk_X} {d : Nat} {x1 x2 x3 x4 x5 : Int32} {a0 : Nat} {h : lk_H} {Q : Option Value → lk_H → Prop} (H : (x2 ≤ x5 → (¬ x4 = 0 → lk_wp X (d + 1) 125 9 [.ref a0, .int x1, .int x2, .int (x3 + 1), .retAddr 0, .retAddr 0, .retAddr 0] [] h Q) ∧ (x4 = 0 → Q (some (.int 0)) h)) ∧ (¬ x2 ≤ x5 → lk_wp X (d + 1) 125 46 [.ref a0, .int x1, .int x2, .int x3, .int x4, .int x5, .int (x5 + 1)] [] h Q)) : lk_wp X (d + 1) 125 34 [.ref a0, .int x1, .int x2, .int x3, .int x4, .int x5, .retAddr 0] [] h Q := by
  refine lk_wp_seg (lo' := [.ref a0, .int x1, .int x2, .int x3, .int x4, .int x5, .retAddr 0]) (st' := [.int x2, .int x5]) lk_M125 lk_s125_34_2 rfl ?_
  refine lk_wp_ic_ge lk_i125_37 lk_M125 H (fun H => ?_) (fun H => ?_)
  · refine lk_wp_seg (lo' := [.ref a0, .int x1, .int x2, .int x3, .int x4, .int x5, .retAddr 0]) (st' := [.int x4]) lk_M125 lk_s125_95_1 rfl ?_
    refine lk_wp_if_ne lk_i125_97 lk_M125 H (fun H => ?_) (fun H => ?_)
    · refine lk_wp_seg (lo' := [.ref a0, .int x1, .int x2, .int (x3 + 1), .int x4, .int x5, .retAddr 0]) (st' := []) lk_M125 lk_s125_102_2 rfl ?_
      exact H.forget (lk_le_s (lk_le_s (lk_le_s (lk_le_s (lk_le_d (lk_le_d (lk_le_s lk_le_n)))))))
    · refine lk_wp_seg (lo' := [.ref a0, .int x1, .int x2, .int x3, .int x4, .int x5, .retAddr 0]) (st' := [.int 0]) lk_M125 lk_s125_100_1 rfl ?_
      exact lk_wp_ret lk_i125_101 lk_M125 rfl H
  · refine lk_wp_seg (lo' := [.ref a0, .int x1, .int x2, .int x3, .int x4, .int x5, .int (x5 + 1)]) (st' := []) lk_M125 lk_s125_40_4 rfl ?_
    exact H
set_option maxRecDepth 20000 in
theorem F_m_hasAll_46 {X : lk_X} {d : Nat} {x1 x2 x3 x4 x5 x6 : Int32} {a0 : Nat} {h : lk_H} {Q : Option Value → lk_H → Prop} (H : (x2 ≤ x6 → lk_wp X (d + 1) 125 34 [.ref a0, .int x1, .int x2, .int x3, .int x4, .int (x5 + 1), .retAddr 0] [] h Q) ∧ (¬ x2 ≤ x6 → (¬ x4 = 0 → lk_wp X (d + 1) 125 46 [.ref a0, .int x1, .int x2, .int x3, .int 1, .int x5, .int (x6 + 1)] [] h Q) ∧ (x4 = 0 → lk_vc h a0 [(11, 122)] (fun k6 => lk_wxi X d k6 [.ref a0, .int x1, .int x6] h (fun r2 h1 => lk_vc h1 a0 [(11, 122)] (fun k5 => lk_wxi X d k5 [.ref a0, .int x1, .int x5] h1 (fun r4 h3 => (¬ (r2 - r4) = x3 → lk_wp X (d + 1) 125 46 [.ref a0, .int x1, .int x2, .int x3, .int 0, .int x5, .int (x6 + 1)] [] h3 Q) ∧ ((r2 - r4) = x3 → lk_wp X (d + 1) 125 46 [.ref a0, .int x1, .int x2, .int x3, .int 1, .int x5, .int (x6 + 1)] [] h3 Q)))))))) : lk_wp X (d + 1) 125 46 [.ref a0, .int x1, .int x2, .int x3, .int x4, .int x5, .int x6] [] h Q := by
  refine lk_wp_seg (lo' := [.ref a0, .int x1, .int x2, .int x3, .int x4, .int x5, .int x6]) (st' := [.int x2, .int x6]) lk_M125 lk_s125_46_2 rfl ?_
  refine lk_wp_ic_ge lk_i125_49 lk_M125 H (fun H => ?_) (fun H => ?_)
  · refine lk_wp_seg (lo' := [.ref a0, .int x1, .int x2, .int x3, .int x4, .int (x5 + 1), .int x6]) (st' := []) lk_M125 lk_s125_89_2 rfl ?_
    exact H.forget (lk_le_s (lk_le_s (lk_le_s (lk_le_s (lk_le_s (lk_le_s (lk_le_d lk_le_n)))))))
  · refine lk_wp_seg (lo' := [.ref a0, .int x1, .int x2, .int x3, .int x4, .int x5, .int x6]) (st' := [.int x4]) lk_M125 lk_s125_52_1 rfl ?_
    refine lk_wp_if_ne lk_i125_54 lk_M125 H (fun H => ?_) (fun H => ?_)
    · refine lk_wp_seg (lo' := [.ref a0, .int x1, .int x2, .int x3, .int x4, .int x5, .int x6]) (st' := [.int 1]) lk_M125 lk_s125_76_2 rfl ?_
      refine lk_wp_seg (lo' := [.ref a0, .int x1, .int x2, .int x3, .int 1, .int x5, .int (x6 + 1)]) (st' := []) lk_M125 lk_s125_81_3 rfl ?_
      exact H
    · refine lk_wp_seg (lo' := [.ref a0, .int x1, .int x2, .int x3, .int x4, .int x5, .int x6]) (st' := [.int x6, .int x1, .ref a0]) lk_M125 lk_s125_57_3 rfl ?_
      refine lk_wp_cv (as := [.int x1, .int x6]) (r := []) (a := a0) lk_i125_61 lk_M125 rfl rfl rfl (Nat.le_of_ble_eq_true rfl) H (fun k6 H => lk_gi H (fun r2 h1 H => ?_))
      refine lk_wp_seg (lo' := [.ref a0, .int x1, .int x2, .int x3, .int x4, .int x5, .int x6]) (st' := [.int x5, .int x1, .ref a0, .int r2]) lk_M125 lk_s125_64_3 rfl ?_
      refine lk_wp_cv (as := [.int x1, .int x5]) (r := [.int r2]) (a := a0) lk_i125_68 lk_M125 rfl rfl rfl (Nat.le_of_ble_eq_true rfl) H (fun k5 H => lk_gi H (fun r4 h3 H => ?_))
      refine lk_wp_seg (lo' := [.ref a0, .int x1, .int x2, .int x3, .int x4, .int x5, .int x6]) (st' := [.int x3, .int (r2 - r4)]) lk_M125 lk_s125_71_2 rfl ?_
      refine lk_wp_ic_ne lk_i125_73 lk_M125 H (fun H => ?_) (fun H => ?_)
      · refine lk_wp_seg (lo' := [.ref a0, .int x1, .int x2, .int x3, .int 0, .int x5, .int (x6 + 1)]) (st' := []) lk_M125 lk_s125_80_4 rfl ?_
        exact H
      · refine lk_wp_seg (lo' := [.ref a0, .int x1, .int x2, .int x3, .int x4, .int x5, .int x6]) (st' := [.int 1]) lk_M125 lk_s125_76_2 rfl ?_
        refine lk_wp_seg (lo' := [.ref a0, .int x1, .int x2, .int x3, .int 1, .int x5, .int (x6 + 1)]) (st' := []) lk_M125 lk_s125_81_3 rfl ?_
        exact H
/-! LonelyDotsModel.copyThing(II)V -/
theorem lk_M126 : lk_mt[126]? = some (yX12_copyThing, cX12_copyThing, 4, ((none))) := rfl
theorem lk_s126_0_1 : lk_seg 126 [(.aload_n 0, 1, (0, [], .null))] 0 = some 1 := by decide +kernel
theorem lk_i126_1 : lk_ins 126 1 = some (.getfield 22, 3, (4, [(11, 0)], .null)) := lk_eqE_eq (by decide +kernel)
theorem lk_s126_4_2 : lk_seg 126 [(.iload_n 1, 1, (0, [], .null)), (.aload_n 0, 1, (0, [], .null))] 4 = some 6 := by decide +kernel
theorem lk_i126_6 : lk_ins 126 6 = some (.getfield 22, 3, (4, [(11, 0)], .null)) := lk_eqE_eq (by decide +kernel)
theorem lk_s126_9_1 : lk_seg 126 [(.iload_n 2, 1, (0, [], .null))] 9 = some 10 := by decide +kernel
theorem lk_i126_10 : lk_ins 126 10 = some (.iaload, 1, (0, [], .null)) := lk_eqE_eq (by decide +kernel)
theorem lk_i126_11 : lk_ins 126 11 = some (.iastore, 1, (0, [], .null)) := lk_eqE_eq (by decide +kernel)
theorem lk_s126_12_1 : lk_seg 126 [(.aload_n 0, 1, (0, [], .null))] 12 = some 13 := by decide +kernel
theorem lk_i126_13 : lk_ins 126 13 = some (.getfield 25, 3, (5, [(11, 0)], .null)) := lk_eqE_eq (by decide +kernel)
theorem lk_s126_16_2 : lk_seg 126 [(.iload_n 1, 1, (0, [], .null)), (.aload_n 0, 1, (0, [], .null))] 16 = some 18 := by decide +kernel
theorem lk_i126_18 : lk_ins 126 18 = some (.getfield 25, 3, (5, [(11, 0)], .null)) := lk_eqE_eq (by decide +kernel)
theorem lk_s126_21_1 : lk_seg 126 [(.iload_n 2, 1, (0, [], .null))] 21 = some 22 := by decide +kernel
theorem lk_i126_22 : lk_ins 126 22 = some (.iaload, 1, (0, [], .null)) := lk_eqE_eq (by decide +kernel)
theorem lk_i126_23 : lk_ins 126 23 = some (.iastore, 1, (0, [], .null)) := lk_eqE_eq (by decide +kernel)
theorem lk_s126_24_2 : lk_seg 126 [(.iconst 0, 1, (0, [], .int (0))), (.istore_n 3, 1, (0, [], .null))] 24 = some 26 := by decide +kernel
theorem lk_s126_26_2 : lk_seg 126 [(.iload_n 3, 1, (0, [], .null)), (.bipush 16, 2, (0, [], .int (16)))] 26 = some 29 := by decide +kernel
theorem lk_i126_29 : lk_ins 126 29 = some (.if_icmp .ge 31, 3, (60, [], .null)) := lk_eqE_eq (by decide +kernel)
theorem lk_i126_60 : lk_ins 126 60 = some (.return_, 1, (0, [], .null)) := lk_eqE_eq (by decide +kernel)
theorem lk_s126_32_1 : lk_seg 126 [(.aload_n 0, 1, (0, [], .null))] 32 = some 33 := by decide +kernel
theorem lk_i126_33 : lk_ins 126 33 = some (.getfield 28, 3, (6, [(11, 0)], .null)) := lk_eqE_eq (by decide +kernel)
theorem lk_s126_36_6 : lk_seg 126 [(.bipush 16, 2, (0, [], .int (16))), (.iload_n 1, 1, (0, [], .null)), (.imul, 1, (0, [], .null)), (.iload_n 3, 1, (0, [], .null)), (.iadd, 1, (0, [], .null)), (.aload_n 0, 1, (0, [], .null))] 36 = some 43 := by decide +kernel
theorem lk_i126_43 : lk_ins 126 43 = some (.getfield 28, 3, (6, [(11, 0)], .null)) := lk_eqE_eq (by decide +kernel)
theorem lk_s126_46_5 : lk_seg 126 [(.bipush 16, 2, (0, [], .int (16))), (.iload_n 2, 1, (0, [], .null)), (.imul, 1, (0, [], .null)), (.iload_n 3, 1, (0, [], .null)), (.iadd, 1, (0, [], .null))] 46 = some 52 := by decide +kernel
theorem lk_i126_52 : lk_ins 126 52 = some (.iaload, 1, (0, [], .null)) := lk_eqE_eq (by decide +kernel)
theorem lk_i126_53 : lk_ins 126 53 = some (.iastore, 1, (0, [], .null)) := lk_eqE_eq (by decide +kernel)
theorem lk_s126_54_2 : lk_seg 126 [(.iinc 3 1, 3, (0, [], .int (1))), (.goto (-31), 3, (26, [], .null))] 54 = some 26 := by decide +kernel
set_option maxRecDepth 20000 in
theorem E_m_copyThing {X : lk_X} {d : Nat} {x1 x2 : Int32} {a0 : Nat} {h : lk_H} {Q : Option Value → lk_H → Prop} (H : lk_fR h a0 4 [(11, 0)] (fun r1 => lk_fR h a0 4 [(11, 0)] (fun r2 => lk_ai h r2 x2 (fun r3 => lk_as h r1 x1 r3 (fun h4 => lk_fR h4 a0 5 [(11, 0)] (fun r5 => lk_fR h4 a0 5 [(11, 0)] (fun r6 => lk_ai h4 r6 x2 (fun r7 => lk_as h4 r5 x1 r7 (fun h8 => lk_wp X (d + 1) 126 26 [.ref a0, .int x1, .int x2, .int 0] [] h8 Q))))))))) : lk_wx X (d + 1) 126 [.ref a0, .int x1, .int x2] h Q := by
  refine lk_enter (lo := [.ref a0, .int x1, .int x2, .retAddr 0]) lk_M126 rfl (Nat.le_of_ble_eq_true rfl) ?_
  refine lk_wp_seg (lo' := [.ref a0, .int x1, .int x2, .retAddr 0]) (st' := [.ref a0]) lk_M126 lk_s126_0_1 rfl ?_
  refine lk_wp_fR lk_i126_1 lk_M126 H (fun r1 H => ?_)
  refine lk_wp_seg (lo' := [.ref a0, .int x1, .int x2, .retAddr 0]) (st' := [.ref a0, .int x1, .ref r1]) lk_M126 lk_s126_4_2 rfl ?_
  refine lk_wp_fR lk_i126_6 lk_M126 H (fun r2 H => ?_)
  refine lk_wp_seg (lo' := [.ref a0, .int x1, .int x2, .retAddr 0]) (st' := [.int x2, .ref r2, .int x1, .ref r1]) lk_M126 lk_s126_9_1 rfl ?_
  refine lk_wp_ai lk_i126_10 lk_M126 H (fun r3 H => ?_)
  refine lk_wp_as lk_i126_11 lk_M126 H (fun h4 H => ?_)
  refine lk_wp_seg (lo' := [.ref a0, .int x1, .int x2, .retAddr 0]) (st' := [.ref a0]) lk_M126 lk_s126_12_1 rfl ?_
  refine lk_wp_fR lk_i126_13 lk_M126 H (fun r5 H => ?_)
  refine lk_wp_seg (lo' := [.ref a0, .int x1, .int x2, .retAddr 0]) (st' := [.ref a0, .int x1, .ref r5]) lk_M126 lk_s126_16_2 rfl ?_
  refine lk_wp_fR lk_i126_18 lk_M126 H (fun r6 H => ?_)
  refine lk_wp_seg (lo' := [.ref a0, .int x1, .int x2, .retAddr 0]) (st' := [.int x2, .ref r6, .int x1, .ref r5]) lk_M126 lk_s126_21_1 rfl ?_
  refine lk_wp_ai lk_i126_22 lk_M126 H (fun r7 H => ?_)
  refine lk_wp_as lk_i126_23 lk_M126 H (fun h8 H => ?_)
  refine lk_wp_seg (lo' := [.ref a0, .int x1, .int x2, .int 0]) (st' := []) lk_M126 lk_s126_24_2 rfl ?_
  exact H
set_option maxRecDepth 20000 in
theorem F_m_copyThing_26 {X : lk_X} {d : Nat} {x1 x2 x3 : Int32} {a0 : Nat} {h : lk_H} {Q : Option Value → lk_H → Prop} (H : (16 ≤ x3 → Q none h) ∧ (¬ 16 ≤ x3 → lk_fR h a0 6 [(11, 0)] (fun r1 => lk_fR h a0 6 [(11, 0)] (fun r2 => lk_ai h r2 ((16 * x2) + x3) (fun r3 => lk_as h r1 ((16 * x1) + x3) r3 (fun h4 => lk_wp X (d + 1) 126 26 [.ref a0, .int x1, .int x2, .int (x3 + 1)] [] h4 Q)))))) : lk_wp X (d + 1) 126 26 [.ref a0, .int x1, .int x2, .int x3] [] h Q := by
  refine lk_wp_seg (lo' := [.ref a0, .int x1, .int x2, .int x3]) (st' := [.int 16, .int x3]) lk_M126 lk_s126_26_2 rfl ?_
  refine lk_wp_ic_ge lk_i126_29 lk_M126 H (fun H => ?_) (fun H => ?_)
  · exact lk_wp_ret lk_i126_60 lk_M126 rfl H
  · refine lk_wp_seg (lo' := [.ref a0, .int x1, .int x2, .int x3]) (st' := [.ref a0]) lk_M126 lk_s126_32_1 rfl ?_
    refine lk_wp_fR lk_i126_33 lk_M126 H (fun r1 H => ?_)
    refine lk_wp_seg (lo' := [.ref a0, .int x1, .int x2, .int x3]) (st' := [.ref a0, .int ((16 * x1) + x3), .ref r1]) lk_M126 lk_s126_36_6 rfl ?_
    refine lk_wp_fR lk_i126_43 lk_M126 H (fun r2 H => ?_)
    refine lk_wp_seg (lo' := [.ref a0, .int x1, .int x2, .int x3]) (st' := [.int ((16 * x2) + x3), .ref r2, .int ((16 * x1) + x3), .ref r1]) lk_M126 lk_s126_46_5 rfl ?_
    refine lk_wp_ai lk_i126_52 lk_M126 H (fun r3 H => ?_)
    refine lk_wp_as lk_i126_53 lk_M126 H (fun h4 H => ?_)
    refine lk_wp_seg (lo' := [.ref a0, .int x1, .int x2, .int (x3 + 1)]) (st' := []) lk_M126 lk_s126_54_2 rfl ?_
    exact H
/-! LonelyDotsModel.keep(IZ)I -/
theorem lk_M127 : lk_mt[127]? = some (yX12_keep, cX12_keep, 4, ((some FieldType.int))) := rfl
theorem lk_s127_0_3 : lk_seg 127 [(.aload_n 0, 1, (0, [], .null)), (.bipush 10, 2, (0, [], .int (10))), (.iload_n 2, 1, (0, [], .null))] 0 = some 4 := by decide +kernel
theorem lk_i127_4 : lk_ins 127 4 = some (.invokevirtual 89, 3, (1, [(11, 124)], .ref 86)) := lk_eqE_eq (by decide +kernel)
theorem lk_s127_7_2 : lk_seg 127 [(.istore_n 3, 1, (0, [], .null)), (.aload_n 0, 1, (0, [], .null))] 7 = some 9 := by decide +kernel
theorem lk_i127_9 : lk_ins 127 9 = some (.getfield 22, 3, (4, [(11, 0)], .null)) := lk_eqE_eq (by decide +kernel)
theorem lk_s127_12_2 : lk_seg 127 [(.bipush 10, 2, (0, [], .int (10))), (.iload_n 2, 1, (0, [], .null))] 12 = some 15 := by decide +kernel
theorem lk_i127_15 : lk_ins 127 15 = some (.ifCond .eq 15, 3, (30, [], .null)) := lk_eqE_eq (by decide +kernel)
theorem lk_s127_30_1 : lk_seg 127 [(.iload_n 3, 1, (0, [], .null))] 30 = some 31 := by decide +kernel
theorem lk_i127_31 : lk_ins 127 31 = some (.ifCond .eq 7, 3, (38, [], .null)) := lk_eqE_eq (by decide +kernel)
theorem lk_s127_38_2 : lk_seg 127 [(.aload_n 0, 1, (0, [], .null)), (.bipush 10, 2, (0, [], .int (10)))] 38 = some 41 := by decide +kernel
theorem lk_i127_41 : lk_ins 127 41 = some (.invokevirtual 93, 3, (1, [(11, 125)], .ref 87)) := lk_eqE_eq (by decide +kernel)
theorem lk_i127_44 : lk_ins 127 44 = some (.ifCond .eq 7, 3, (51, [], .null)) := lk_eqE_eq (by decide +kernel)
theorem lk_s127_51_1 : lk_seg 127 [(.iconst 4, 1, (0, [], .int (4)))] 51 = some 52 := by decide +kernel
theorem lk_i127_52 : lk_ins 127 52 = some (.iastore, 1, (0, [], .null)) := lk_eqE_eq (by decide +kernel)
theorem lk_s127_53_3 : lk_seg 127 [(.aload_n 0, 1, (0, [], .null)), (.iload_n 1, 1, (0, [], .null)), (.bipush 10, 2, (0, [], .int (10)))] 53 = some 57 := by decide +kernel
theorem lk_i127_57 : lk_ins 127 57 = some (.invokevirtual 96, 3, (1, [(11, 126)], .ref 88)) := lk_eqE_eq (by decide +kernel)
theorem lk_s127_60_2 : lk_seg 127 [(.aload_n 0, 1, (0, [], .null)), (.aload_n 0, 1, (0, [], .null))] 60 = some 62 := by decide +kernel
theorem lk_i127_62 : lk_ins 127 62 = some (.getfield 22, 3, (4, [(11, 0)], .null)) := lk_eqE_eq (by decide +kernel)
theorem lk_s127_65_1 : lk_seg 127 [(.iload_n 1, 1, (0, [], .null))] 65 = some 66 := by decide +kernel
theorem lk_i127_66 : lk_ins 127 66 = some (.iaload, 1, (0, [], .null)) := lk_eqE_eq (by decide +kernel)
theorem lk_i127_67 : lk_ins 127 67 = some (.invokevirtual 75, 3, (1, [(11, 114)], .ref 83)) := lk_eqE_eq (by decide +kernel)
theorem lk_i127_70 : lk_ins 127 70 = some (.ireturn, 1, (0, [], .null)) := lk_eqE_eq (by decide +kernel)
theorem lk_s127_47_2 : lk_seg 127 [(.iconst 5, 1, (0, [], .int (5))), (.goto 4, 3, (52, [], .null))] 47 = some 52 := by decide +kernel
theorem lk_s127_34_2 : lk_seg 127 [(.iconst 3, 1, (0, [], .int (3))), (.goto 17, 3, (52, [], .null))] 34 = some 52 := by decide +kernel
theorem lk_s127_18_1 : lk_seg 127 [(.iload_n 3, 1, (0, [], .null))] 18 = some 19 := by decide +kernel
theorem lk_i127_19 : lk_ins 127 19 = some (.ifCond .eq 7, 3, (26, [], .null)) := lk_eqE_eq (by decide +kernel)
theorem lk_s127_26_2 : lk_seg 127 [(.iconst 2, 1, (0, [], .int (2))), (.goto 25, 3, (52, [], .null))] 26 = some 52 := by decide +kernel
theorem lk_s127_22_2 : lk_seg 127 [(.iconst 1, 1, (0, [], .int (1))), (.goto 29, 3, (52, [], .null))] 22 = some 52 := by decide +kernel
set_option maxRecDepth 20000 in
theorem E_m_keep {X : lk_X} {d : Nat} {x1 x2 : Int32} {a0 : Nat} {h : lk_H} {Q : Option Value → lk_H → Prop} (H : lk_vc h a0 [(11, 124)] (fun k47 => lk_wxi X d k47 [.ref a0, .int 10, .int x2] h (fun r2 h1 => lk_fR h1 a0 4 [(11, 0)] (fun r3 => (x2 = 0 → (r2 = 0 → lk_vc h1 a0 [(11, 125)] (fun k22 => lk_wxi X d k22 [.ref a0, .int 10] h1 (fun r5 h4 => (r5 = 0 → lk_as h4 r3 10 4 (fun h6 => lk_vc h6 a0 [(11, 126)] (fun k13 => lk_wxv X d k13 [.ref a0, .int x1, .int 10] h6 (fun h7 => lk_fR h7 a0 4 [(11, 0)] (fun r8 => lk_ai h7 r8 x1 (fun r9 => lk_vc h7 a0 [(11, 114)] (fun k12 => lk_wxi X d k12 [.ref a0, .int r9] h7 (fun r11 h10 => Q (some (.int r11)) h10)))))))) ∧ (¬ r5 = 0 → lk_as h4 r3 10 5 (fun h14 => lk_vc h14 a0 [(11, 126)] (fun k21 => lk_wxv X d k21 [.ref a0, .int x1, .int 10] h14 (fun h15 => lk_fR h15 a0 4 [(11, 0)] (fun r16 => lk_ai h15 r16 x1 (fun r17 => lk_vc h15 a0 [(11, 114)] (fun k20 => lk_wxi X d k20 [.ref a0, .int r17] h15 (fun r19 h18 => Q (some (.int r19)) h18))))))))))) ∧ (¬ r2 = 0 → lk_as h1 r3 10 3 (fun h23 => lk_vc h23 a0 [(11, 126)] (fun k30 => lk_wxv X d k30 [.ref a0, .int x1, .int 10] h23 (fun h24 => lk_fR h24 a0 4 [(11, 0)] (fun r25 => lk_ai h24 r25 x1 (fun r26 => lk_vc h24 a0 [(11, 114)] (fun k29 => lk_wxi X d k29 [.ref a0, .int r26] h24 (fun r28 h27 => Q (some (.int r28)) h27))))))))) ∧ (¬ x2 = 0 → (r2 = 0 → lk_as h1 r3 10 2 (fun h31 => lk_vc h31 a0 [(11, 126)] (fun k38 => lk_wxv X d k38 [.ref a0, .int x1, .int 10] h31 (fun h32 => lk_fR h32 a0 4 [(11, 0)] (fun r33 => lk_ai h32 r33 x1 (fun r34 => lk_vc h32 a0 [(11, 114)] (fun k37 => lk_wxi X d k37 [.ref a0, .int r34] h32 (fun r36 h35 => Q (some (.int r36)) h35)))))))) ∧ (¬ r2 = 0 → lk_as h1 r3 10 1 (fun h39 => lk_vc h39 a0 [(11, 126)] (fun k46 => lk_wxv X d k46 [.ref a0, .int x1, .int 10] h39 (fun h40 => lk_fR h40 a0 4 [(11, 0)] (fun r41 => lk_ai h40 r41 x1 (fun r42 => lk_vc h40 a0 [(11, 114)] (fun k45 => lk_wxi X d k45 [.ref a0, .int r42] h40 (fun r44 h43 => Q (some (.int r44)) h43))))))))))))) : lk_wx X (d + 1) 127 [.ref a0, .int x1, .int x2] h Q := by
  refine lk_enter (lo := [.ref a0, .int x1, .int x2, .retAddr 0]) lk_M127 rfl (Nat.le_of_ble_eq_true rfl) ?_
  refine lk_wp_seg (lo' := [.ref a0, .int x1, .int x2, .retAddr 0]) (st' := [.int x2, .int 10, .ref a0]) lk_M127 lk_s127_0_3 rfl ?_
  refine lk_wp_cv (as := [.int 10, .int x2]) (r := []) (a := a0) lk_i127_4 lk_M127 rfl rfl rfl (Nat.le_of_ble_eq_true rfl) H (fun k47 H => lk_gi H (fun r2 h1 H => ?_))
  refine lk_wp_seg (lo' := [.ref a0, .int x1, .int x2, .int r2]) (st' := [.ref a0]) lk_M127 lk_s127_7_2 rfl ?_
  refine lk_wp_fR lk_i127_9 lk_M127 H (fun r3 H => ?_)
  refine lk_wp_seg (lo' := [.ref a0, .int x1, .int x2, .int r2]) (st' := [.int x2, .int 10, .ref r3]) lk_M127 lk_s127_12_2 rfl ?_
  refine lk_wp_if_eq lk_i127_15 lk_M127 H (fun H => ?_) (fun H => ?_)
  · refine lk_wp_seg (lo' := [.ref a0, .int x1, .int x2, .int r2]) (st' := [.int r2, .int 10, .ref r3]) lk_M127 lk_s127_30_1 rfl ?_
    refine lk_wp_if_eq lk_i127_31 lk_M127 H (fun H => ?_) (fun H => ?_)
    · refine lk_wp_seg (lo' := [.ref a0, .int x1, .int x2, .int r2]) (st' := [.int 10, .ref a0, .int 10, .ref r3]) lk_M127 lk_s127_38_2 rfl ?_
      refine lk_wp_cv (as := [.int 10]) (r := [.int 10, .ref r3]) (a := a0) lk_i127_41 lk_M127 rfl rfl rfl (Nat.le_of_ble_eq_true rfl) H (fun k22 H => lk_gi H (fun r5 h4 H => ?_))
      refine lk_wp_if_eq lk_i127_44 lk_M127 H (fun H => ?_) (fun H => ?_)
      · refine lk_wp_seg (lo' := [.ref a0, .int x1, .int x2, .int r2]) (st' := [.int 4, .int 10, .ref r3]) lk_M127 lk_s127_51_1 rfl ?_
        refine lk_wp_as lk_i127_52 lk_M127 H (fun h6 H => ?_)
        refine lk_wp_seg (lo' := [.ref a0, .int x1, .int x2, .int r2]) (st' := [.int 10, .int x1, .ref a0]) lk_M127 lk_s127_53_3 rfl ?_
        refine lk_wp_cv (as := [.int x1, .int 10]) (r := []) (a := a0) lk_i127_57 lk_M127 rfl rfl rfl (Nat.le_of_ble_eq_true rfl) H (fun k13 H => lk_gv H (fun h7 H => ?_))
        refine lk_wp_seg (lo' := [.ref a0, .int x1, .int x2, .int r2]) (st' := [.ref a0, .ref a0]) lk_M127 lk_s127_60_2 rfl ?_
        refine lk_wp_fR lk_i127_62 lk_M127 H (fun r8 H => ?_)
        refine lk_wp_seg (lo' := [.ref a0, .int x1, .int x2, .int r2]) (st' := [.int x1, .ref r8, .ref a0]) lk_M127 lk_s127_65_1 rfl ?_
        refine lk_wp_ai lk_i127_66 lk_M127 H (fun r9 H => ?_)
        refine lk_wp_cv (as := [.int r9]) (r := []) (a := a0) lk_i127_67 lk_M127 rfl rfl rfl (Nat.le_of_ble_eq_true rfl) H (fun k12 H => lk_gi H (fun r11 h10 H => ?_))
        exact lk_wp_ret lk_i127_70 lk_M127 rfl H
      · refine lk_wp_seg (lo' := [.ref a0, .int x1, .int x2, .int r2]) (st' := [.int 5, .int 10, .ref r3]) lk_M127 lk_s127_47_2 rfl ?_
        refine lk_wp_as lk_i127_52 lk_M127 H (fun h14 H => ?_)
        refine lk_wp_seg (lo' := [.ref a0, .int x1, .int x2, .int r2]) (st' := [.int 10, .int x1, .ref a0]) lk_M127 lk_s127_53_3 rfl ?_
        refine lk_wp_cv (as := [.int x1, .int 10]) (r := []) (a := a0) lk_i127_57 lk_M127 rfl rfl rfl (Nat.le_of_ble_eq_true rfl) H (fun k21 H => lk_gv H (fun h15 H => ?_))
        refine lk_wp_seg (lo' := [.ref a0, .int x1, .int x2, .int r2]) (st' := [.ref a0, .ref a0]) lk_M127 lk_s127_60_2 rfl ?_
        refine lk_wp_fR lk_i127_62 lk_M127 H (fun r16 H => ?_)
        refine lk_wp_seg (lo' := [.ref a0, .int x1, .int x2, .int r2]) (st' := [.int x1, .ref r16, .ref a0]) lk_M127 lk_s127_65_1 rfl ?_
        refine lk_wp_ai lk_i127_66 lk_M127 H (fun r17 H => ?_)
        refine lk_wp_cv (as := [.int r17]) (r := []) (a := a0) lk_i127_67 lk_M127 rfl rfl rfl (Nat.le_of_ble_eq_true rfl) H (fun k20 H => lk_gi H (fun r19 h18 H => ?_))
        exact lk_wp_ret lk_i127_70 lk_M127 rfl H
    · refine lk_wp_seg (lo' := [.ref a0, .int x1, .int x2, .int r2]) (st' := [.int 3, .int 10, .ref r3]) lk_M127 lk_s127_34_2 rfl ?_
      refine lk_wp_as lk_i127_52 lk_M127 H (fun h23 H => ?_)
      refine lk_wp_seg (lo' := [.ref a0, .int x1, .int x2, .int r2]) (st' := [.int 10, .int x1, .ref a0]) lk_M127 lk_s127_53_3 rfl ?_
      refine lk_wp_cv (as := [.int x1, .int 10]) (r := []) (a := a0) lk_i127_57 lk_M127 rfl rfl rfl (Nat.le_of_ble_eq_true rfl) H (fun k30 H => lk_gv H (fun h24 H => ?_))
      refine lk_wp_seg (lo' := [.ref a0, .int x1, .int x2, .int r2]) (st' := [.ref a0, .ref a0]) lk_M127 lk_s127_60_2 rfl ?_
      refine lk_wp_fR lk_i127_62 lk_M127 H (fun r25 H => ?_)
      refine lk_wp_seg (lo' := [.ref a0, .int x1, .int x2, .int r2]) (st' := [.int x1, .ref r25, .ref a0]) lk_M127 lk_s127_65_1 rfl ?_
      refine lk_wp_ai lk_i127_66 lk_M127 H (fun r26 H => ?_)
      refine lk_wp_cv (as := [.int r26]) (r := []) (a := a0) lk_i127_67 lk_M127 rfl rfl rfl (Nat.le_of_ble_eq_true rfl) H (fun k29 H => lk_gi H (fun r28 h27 H => ?_))
      exact lk_wp_ret lk_i127_70 lk_M127 rfl H
  · refine lk_wp_seg (lo' := [.ref a0, .int x1, .int x2, .int r2]) (st' := [.int r2, .int 10, .ref r3]) lk_M127 lk_s127_18_1 rfl ?_
    refine lk_wp_if_eq lk_i127_19 lk_M127 H (fun H => ?_) (fun H => ?_)
    · refine lk_wp_seg (lo' := [.ref a0, .int x1, .int x2, .int r2]) (st' := [.int 2, .int 10, .ref r3]) lk_M127 lk_s127_26_2 rfl ?_
      refine lk_wp_as lk_i127_52 lk_M127 H (fun h31 H => ?_)
      refine lk_wp_seg (lo' := [.ref a0, .int x1, .int x2, .int r2]) (st' := [.int 10, .int x1, .ref a0]) lk_M127 lk_s127_53_3 rfl ?_
      refine lk_wp_cv (as := [.int x1, .int 10]) (r := []) (a := a0) lk_i127_57 lk_M127 rfl rfl rfl (Nat.le_of_ble_eq_true rfl) H (fun k38 H => lk_gv H (fun h32 H => ?_))
      refine lk_wp_seg (lo' := [.ref a0, .int x1, .int x2, .int r2]) (st' := [.ref a0, .ref a0]) lk_M127 lk_s127_60_2 rfl ?_
      refine lk_wp_fR lk_i127_62 lk_M127 H (fun r33 H => ?_)
      refine lk_wp_seg (lo' := [.ref a0, .int x1, .int x2, .int r2]) (st' := [.int x1, .ref r33, .ref a0]) lk_M127 lk_s127_65_1 rfl ?_
      refine lk_wp_ai lk_i127_66 lk_M127 H (fun r34 H => ?_)
      refine lk_wp_cv (as := [.int r34]) (r := []) (a := a0) lk_i127_67 lk_M127 rfl rfl rfl (Nat.le_of_ble_eq_true rfl) H (fun k37 H => lk_gi H (fun r36 h35 H => ?_))
      exact lk_wp_ret lk_i127_70 lk_M127 rfl H
    · refine lk_wp_seg (lo' := [.ref a0, .int x1, .int x2, .int r2]) (st' := [.int 1, .int 10, .ref r3]) lk_M127 lk_s127_22_2 rfl ?_
      refine lk_wp_as lk_i127_52 lk_M127 H (fun h39 H => ?_)
      refine lk_wp_seg (lo' := [.ref a0, .int x1, .int x2, .int r2]) (st' := [.int 10, .int x1, .ref a0]) lk_M127 lk_s127_53_3 rfl ?_
      refine lk_wp_cv (as := [.int x1, .int 10]) (r := []) (a := a0) lk_i127_57 lk_M127 rfl rfl rfl (Nat.le_of_ble_eq_true rfl) H (fun k46 H => lk_gv H (fun h40 H => ?_))
      refine lk_wp_seg (lo' := [.ref a0, .int x1, .int x2, .int r2]) (st' := [.ref a0, .ref a0]) lk_M127 lk_s127_60_2 rfl ?_
      refine lk_wp_fR lk_i127_62 lk_M127 H (fun r41 H => ?_)
      refine lk_wp_seg (lo' := [.ref a0, .int x1, .int x2, .int r2]) (st' := [.int x1, .ref r41, .ref a0]) lk_M127 lk_s127_65_1 rfl ?_
      refine lk_wp_ai lk_i127_66 lk_M127 H (fun r42 H => ?_)
      refine lk_wp_cv (as := [.int r42]) (r := []) (a := a0) lk_i127_67 lk_M127 rfl rfl rfl (Nat.le_of_ble_eq_true rfl) H (fun k45 H => lk_gi H (fun r44 h43 H => ?_))
      exact lk_wp_ret lk_i127_70 lk_M127 rfl H
/-! LonelyDotsModel.make(II)V -/
theorem lk_M128 : lk_mt[128]? = some (yX12_make, cX12_make, 3, ((none))) := rfl
theorem lk_s128_0_1 : lk_seg 128 [(.aload_n 0, 1, (0, [], .null))] 0 = some 1 := by decide +kernel
theorem lk_i128_1 : lk_ins 128 1 = some (.getfield 28, 3, (6, [(11, 0)], .null)) := lk_eqE_eq (by decide +kernel)
theorem lk_s128_4_4 : lk_seg 128 [(.sipush 160, 3, (0, [], .int (160))), (.iload_n 1, 1, (0, [], .null)), (.iadd, 1, (0, [], .null)), (.iload_n 2, 1, (0, [], .null))] 4 = some 10 := by decide +kernel
theorem lk_i128_10 : lk_ins 128 10 = some (.iastore, 1, (0, [], .null)) := lk_eqE_eq (by decide +kernel)
theorem lk_i128_11 : lk_ins 128 11 = some (.return_, 1, (0, [], .null)) := lk_eqE_eq (by decide +kernel)
set_option maxRecDepth 20000 in
theorem E_m_make {X : lk_X} {d : Nat} {x1 x2 : Int32} {a0 : Nat} {h : lk_H} {Q : Option Value → lk_H → Prop} (H : lk_fR h a0 6 [(11, 0)] (fun r1 => lk_as h r1 (160 + x1) x2 (fun h2 => Q none h2))) : lk_wx X (d + 1) 128 [.ref a0, .int x1, .int x2] h Q := by
  refine lk_enter (lo := [.ref a0, .int x1, .int x2]) lk_M128 rfl (Nat.le_of_ble_eq_true rfl) ?_
  refine lk_wp_seg (lo' := [.ref a0, .int x1, .int x2]) (st' := [.ref a0]) lk_M128 lk_s128_0_1 rfl ?_
  refine lk_wp_fR lk_i128_1 lk_M128 H (fun r1 H => ?_)
  refine lk_wp_seg (lo' := [.ref a0, .int x1, .int x2]) (st' := [.int x2, .int (160 + x1), .ref r1]) lk_M128 lk_s128_4_4 rfl ?_
  refine lk_wp_as lk_i128_10 lk_M128 H (fun h2 H => ?_)
  exact lk_wp_ret lk_i128_11 lk_M128 rfl H
/-! LonelyDotsModel.order(IIII)I -/
theorem lk_M129 : lk_mt[129]? = some (yX12_order, cX12_order, 7, ((some FieldType.int))) := rfl
theorem lk_s129_0_1 : lk_seg 129 [(.iload_n 1, 1, (0, [], .null))] 0 = some 1 := by decide +kernel
theorem lk_i129_1 : lk_ins 129 1 = some (.invokestatic 100, 3, (0, [(0, 120)], .ref 89)) := lk_eqE_eq (by decide +kernel)
theorem lk_i129_4 : lk_ins 129 4 = some (.ifCond .eq 23, 3, (27, [], .null)) := lk_eqE_eq (by decide +kernel)
theorem lk_s129_27_1 : lk_seg 129 [(.ldc 70, 2, (0, [], .int (-1000001)))] 27 = some 29 := by decide +kernel
theorem lk_i129_29 : lk_ins 129 29 = some (.ireturn, 1, (0, [], .null)) := lk_eqE_eq (by decide +kernel)
theorem lk_s129_7_1 : lk_seg 129 [(.iload_n 2, 1, (0, [], .null))] 7 = some 8 := by decide +kernel
theorem lk_i129_8 : lk_ins 129 8 = some (.invokestatic 64, 3, (0, [(0, 115)], .ref 81)) := lk_eqE_eq (by decide +kernel)
theorem lk_i129_11 : lk_ins 129 11 = some (.ifCond .eq 16, 3, (27, [], .null)) := lk_eqE_eq (by decide +kernel)
theorem lk_s129_14_4 : lk_seg 129 [(.iload 4, 2, (0, [], .null)), (.i2l, 1, (0, [], .null)), (.lconst 1, 1, (0, [], .long 1)), (.ldc2_w 103, 3, (0, [], .long (16)))] 14 = some 21 := by decide +kernel
theorem lk_i129_21 : lk_ins 129 21 = some (.invokestatic 60, 3, (0, [(0, 112)], .ref 80)) := lk_eqE_eq (by decide +kernel)
theorem lk_i129_24 : lk_ins 129 24 = some (.ifCond .ne 6, 3, (30, [], .null)) := lk_eqE_eq (by decide +kernel)
theorem lk_s129_30_1 : lk_seg 129 [(.aload_n 0, 1, (0, [], .null))] 30 = some 31 := by decide +kernel
theorem lk_i129_31 : lk_ins 129 31 = some (.getfield 7, 3, (0, [(11, 0)], .null)) := lk_eqE_eq (by decide +kernel)
theorem lk_s129_34_1 : lk_seg 129 [(.iload_n 2, 1, (0, [], .null))] 34 = some 35 := by decide +kernel
theorem lk_i129_35 : lk_ins 129 35 = some (.iaload, 1, (0, [], .null)) := lk_eqE_eq (by decide +kernel)
theorem lk_i129_36 : lk_ins 129 36 = some (.ifCond .ne 9, 3, (45, [], .null)) := lk_eqE_eq (by decide +kernel)
theorem lk_s129_45_1 : lk_seg 129 [(.iload_n 3, 1, (0, [], .null))] 45 = some 46 := by decide +kernel
theorem lk_i129_46 : lk_ins 129 46 = some (.ifCond .lt 20, 3, (66, [], .null)) := lk_eqE_eq (by decide +kernel)
theorem lk_s129_66_2 : lk_seg 129 [(.aload_n 0, 1, (0, [], .null)), (.iconst 2, 1, (0, [], .int (2)))] 66 = some 68 := by decide +kernel
theorem lk_i129_68 : lk_ins 129 68 = some (.invokevirtual 71, 3, (1, [(11, 113)], .ref 82)) := lk_eqE_eq (by decide +kernel)
theorem lk_i129_71 : lk_ins 129 71 = some (.ireturn, 1, (0, [], .null)) := lk_eqE_eq (by decide +kernel)
theorem lk_s129_49_6 : lk_seg 129 [(.iload_n 3, 1, (0, [], .null)), (.i2l, 1, (0, [], .null)), (.iload 4, 2, (0, [], .null)), (.i2l, 1, (0, [], .null)), (.ladd, 1, (0, [], .null)), (.aload_n 0, 1, (0, [], .null))] 49 = some 56 := by decide +kernel
theorem lk_i129_56 : lk_ins 129 56 = some (.getfield 13, 3, (1, [(11, 0)], .null)) := lk_eqE_eq (by decide +kernel)
theorem lk_s129_59_1 : lk_seg 129 [(.iload_n 2, 1, (0, [], .null))] 59 = some 60 := by decide +kernel
theorem lk_i129_60 : lk_ins 129 60 = some (.iaload, 1, (0, [], .null)) := lk_eqE_eq (by decide +kernel)
theorem lk_s129_61_2 : lk_seg 129 [(.i2l, 1, (0, [], .null)), (.lcmp, 1, (0, [], .null))] 61 = some 63 := by decide +kernel
theorem lk_i129_63 : lk_ins 129 63 = some (.ifCond .le 9, 3, (72, [], .null)) := lk_eqE_eq (by decide +kernel)
theorem lk_s129_72_2 : lk_seg 129 [(.iconst 0, 1, (0, [], .int (0))), (.istore 5, 2, (0, [], .null))] 72 = some 75 := by decide +kernel
theorem lk_s129_39_2 : lk_seg 129 [(.aload_n 0, 1, (0, [], .null)), (.iconst 1, 1, (0, [], .int (1)))] 39 = some 41 := by decide +kernel
theorem lk_i129_41 : lk_ins 129 41 = some (.invokevirtual 71, 3, (1, [(11, 113)], .ref 82)) := lk_eqE_eq (by decide +kernel)
theorem lk_i129_44 : lk_ins 129 44 = some (.ireturn, 1, (0, [], .null)) := lk_eqE_eq (by decide +kernel)
theorem lk_s129_75_2 : lk_seg 129 [(.iload 5, 2, (0, [], .null)), (.bipush 16, 2, (0, [], .int (16)))] 75 = some 79 := by decide +kernel
theorem lk_i129_79 : lk_ins 129 79 = some (.if_icmp .ge 17, 3, (96, [], .null)) := lk_eqE_eq (by decide +kernel)
theorem lk_s129_96_2 : lk_seg 129 [(.iconst 0, 1, (0, [], .int (0))), (.istore 5, 2, (0, [], .null))] 96 = some 99 := by decide +kernel
theorem lk_s129_82_1 : lk_seg 129 [(.aload_n 0, 1, (0, [], .null))] 82 = some 83 := by decide +kernel
theorem lk_i129_83 : lk_ins 129 83 = some (.getfield 37, 3, (11, [(11, 0)], .null)) := lk_eqE_eq (by decide +kernel)
theorem lk_s129_86_2 : lk_seg 129 [(.iload 5, 2, (0, [], .null)), (.iconst 0, 1, (0, [], .int (0)))] 86 = some 89 := by decide +kernel
theorem lk_i129_89 : lk_ins 129 89 = some (.bastore, 1, (0, [], .null)) := lk_eqE_eq (by decide +kernel)
theorem lk_s129_90_2 : lk_seg 129 [(.iinc 5 1, 3, (0, [], .int (1))), (.goto (-18), 3, (75, [], .null))] 90 = some 75 := by decide +kernel
theorem lk_s129_99_2 : lk_seg 129 [(.iload 5, 2, (0, [], .null)), (.iload 4, 2, (0, [], .null))] 99 = some 103 := by decide +kernel
theorem lk_i129_103 : lk_ins 129 103 = some (.if_icmp .ge 69, 3, (172, [], .null)) := lk_eqE_eq (by decide +kernel)
theorem lk_s129_172_1 : lk_seg 129 [(.aload_n 0, 1, (0, [], .null))] 172 = some 173 := by decide +kernel
theorem lk_i129_173 : lk_ins 129 173 = some (.getfield 25, 3, (5, [(11, 0)], .null)) := lk_eqE_eq (by decide +kernel)
theorem lk_s129_176_2 : lk_seg 129 [(.bipush 10, 2, (0, [], .int (10))), (.iload 4, 2, (0, [], .null))] 176 = some 180 := by decide +kernel
theorem lk_i129_180 : lk_ins 129 180 = some (.iastore, 1, (0, [], .null)) := lk_eqE_eq (by decide +kernel)
theorem lk_s129_181_3 : lk_seg 129 [(.aload_n 0, 1, (0, [], .null)), (.iload_n 1, 1, (0, [], .null)), (.iconst 1, 1, (0, [], .int (1)))] 181 = some 184 := by decide +kernel
theorem lk_i129_184 : lk_ins 129 184 = some (.invokevirtual 108, 3, (1, [(11, 127)], .ref 91)) := lk_eqE_eq (by decide +kernel)
theorem lk_i129_187 : lk_ins 129 187 = some (.ireturn, 1, (0, [], .null)) := lk_eqE_eq (by decide +kernel)
theorem lk_s129_106_1 : lk_seg 129 [(.aload_n 0, 1, (0, [], .null))] 106 = some 107 := by decide +kernel
theorem lk_i129_107 : lk_ins 129 107 = some (.getfield 16, 3, (2, [(11, 0)], .null)) := lk_eqE_eq (by decide +kernel)
theorem lk_s129_110_7 : lk_seg 129 [(.bipush 60, 2, (0, [], .int (60))), (.iload_n 2, 1, (0, [], .null)), (.imul, 1, (0, [], .null)), (.iload_n 3, 1, (0, [], .null)), (.iadd, 1, (0, [], .null)), (.iload 5, 2, (0, [], .null)), (.iadd, 1, (0, [], .null))] 110 = some 119 := by decide +kernel
theorem lk_i129_119 : lk_ins 129 119 = some (.iaload, 1, (0, [], .null)) := lk_eqE_eq (by decide +kernel)
theorem lk_s129_120_8 : lk_seg 129 [(.istore 6, 2, (0, [], .null)), (.iload 6, 2, (0, [], .null)), (.i2l, 1, (0, [], .null)), (.lconst 0, 1, (0, [], .long 0)), (.iload 4, 2, (0, [], .null)), (.iconst 1, 1, (0, [], .int (1))), (.isub, 1, (0, [], .null)), (.i2l, 1, (0, [], .null))] 120 = some 131 := by decide +kernel
theorem lk_i129_131 : lk_ins 129 131 = some (.invokestatic 60, 3, (0, [(0, 112)], .ref 80)) := lk_eqE_eq (by decide +kernel)
theorem lk_i129_134 : lk_ins 129 134 = some (.ifCond .eq 13, 3, (147, [], .null)) := lk_eqE_eq (by decide +kernel)
theorem lk_s129_147_1 : lk_seg 129 [(.ldc 70, 2, (0, [], .int (-1000001)))] 147 = some 149 := by decide +kernel
theorem lk_i129_149 : lk_ins 129 149 = some (.ireturn, 1, (0, [], .null)) := lk_eqE_eq (by decide +kernel)
theorem lk_s129_137_1 : lk_seg 129 [(.aload_n 0, 1, (0, [], .null))] 137 = some 138 := by decide +kernel
theorem lk_i129_138 : lk_ins 129 138 = some (.getfield 37, 3, (11, [(11, 0)], .null)) := lk_eqE_eq (by decide +kernel)
theorem lk_s129_141_1 : lk_seg 129 [(.iload 6, 2, (0, [], .null))] 141 = some 143 := by decide +kernel
theorem lk_i129_143 : lk_ins 129 143 = some (.baload, 1, (0, [], .null)) := lk_eqE_eq (by decide +kernel)
theorem lk_i129_144 : lk_ins 129 144 = some (.ifCond .eq 6, 3, (150, [], .null)) := lk_eqE_eq (by decide +kernel)
theorem lk_s129_150_1 : lk_seg 129 [(.aload_n 0, 1, (0, [], .null))] 150 = some 151 := by decide +kernel
theorem lk_i129_151 : lk_ins 129 151 = some (.getfield 37, 3, (11, [(11, 0)], .null)) := lk_eqE_eq (by decide +kernel)
theorem lk_s129_154_2 : lk_seg 129 [(.iload 6, 2, (0, [], .null)), (.iconst 1, 1, (0, [], .int (1)))] 154 = some 157 := by decide +kernel
theorem lk_i129_157 : lk_ins 129 157 = some (.bastore, 1, (0, [], .null)) := lk_eqE_eq (by decide +kernel)
theorem lk_s129_158_3 : lk_seg 129 [(.aload_n 0, 1, (0, [], .null)), (.iload 5, 2, (0, [], .null)), (.iload 6, 2, (0, [], .null))] 158 = some 163 := by decide +kernel
theorem lk_i129_163 : lk_ins 129 163 = some (.invokevirtual 105, 3, (1, [(11, 128)], .ref 90)) := lk_eqE_eq (by decide +kernel)
theorem lk_s129_166_2 : lk_seg 129 [(.iinc 5 1, 3, (0, [], .int (1))), (.goto (-70), 3, (99, [], .null))] 166 = some 99 := by decide +kernel
set_option maxRecDepth 20000 in
theorem E_m_order {X : lk_X} {d : Nat} {x1 x2 x3 x4 : Int32} {a0 : Nat} {h : lk_H} {Q : Option Value → lk_H → Prop} (H : lk_wxi X d 120 [.int x1] h (fun r2 h1 => (r2 = 0 → Q (some (.int ((-1000001)))) h1) ∧ (¬ r2 = 0 → lk_wxi X d 115 [.int x2] h1 (fun r4 h3 => (r4 = 0 → Q (some (.int ((-1000001)))) h3) ∧ (¬ r4 = 0 → lk_wxi X d 112 [.long (x4.toInt64), .long 1, .long 16] h3 (fun r6 h5 => (¬ r6 = 0 → lk_fR h5 a0 0 [(11, 0)] (fun r7 => lk_ai h5 r7 x2 (fun r8 => (¬ r8 = 0 → (x3 < 0 → lk_vc h5 a0 [(11, 113)] (fun k11 => lk_wxi X d k11 [.ref a0, .int 2] h5 (fun r10 h9 => Q (some (.int r10)) h9))) ∧ (¬ x3 < 0 → lk_fR h5 a0 1 [(11, 0)] (fun r12 => lk_ai h5 r12 x2 (fun r13 => ((lg_cmp (x3.toInt64 + x4.toInt64) r13.toInt64) ≤ 0 → lk_wp X (d + 1) 129 75 [.ref a0, .int x1, .int x2, .int x3, .int x4, .int 0, .retAddr 0] [] h5 Q) ∧ (¬ (lg_cmp (x3.toInt64 + x4.toInt64) r13.toInt64) ≤ 0 → lk_vc h5 a0 [(11, 113)] (fun k16 => lk_wxi X d k16 [.ref a0, .int 2] h5 (fun r15 h14 => Q (some (.int r15)) h14))))))) ∧ (r8 = 0 → lk_vc h5 a0 [(11, 113)] (fun k19 => lk_wxi X d k19 [.ref a0, .int 1] h5 (fun r18 h17 => Q (some (.int r18)) h17)))))) ∧ (r6 = 0 → Q (some (.int ((-1000001)))) h5))))))) : lk_wx X (d + 1) 129 [.ref a0, .int x1, .int x2, .int x3, .int x4] h Q := by
  refine lk_enter (lo := [.ref a0, .int x1, .int x2, .int x3, .int x4, .retAddr 0, .retAddr 0]) lk_M129 rfl (Nat.le_of_ble_eq_true rfl) ?_
  refine lk_wp_seg (lo' := [.ref a0, .int x1, .int x2, .int x3, .int x4, .retAddr 0, .retAddr 0]) (st' := [.int x1]) lk_M129 lk_s129_0_1 rfl ?_
  refine lk_wp_cs (as := [.int x1]) (r := []) lk_i129_1 lk_M129 rfl rfl rfl rfl (Nat.le_of_ble_eq_true rfl) (lk_gi H (fun r2 h1 H => ?_))
  refine lk_wp_if_eq lk_i129_4 lk_M129 H (fun H => ?_) (fun H => ?_)
  · refine lk_wp_seg (lo' := [.ref a0, .int x1, .int x2, .int x3, .int x4, .retAddr 0, .retAddr 0]) (st' := [.int ((-1000001))]) lk_M129 lk_s129_27_1 rfl ?_
    exact lk_wp_ret lk_i129_29 lk_M129 rfl H
  · refine lk_wp_seg (lo' := [.ref a0, .int x1, .int x2, .int x3, .int x4, .retAddr 0, .retAddr 0]) (st' := [.int x2]) lk_M129 lk_s129_7_1 rfl ?_
    refine lk_wp_cs (as := [.int x2]) (r := []) lk_i129_8 lk_M129 rfl rfl rfl rfl (Nat.le_of_ble_eq_true rfl) (lk_gi H (fun r4 h3 H => ?_))
    refine lk_wp_if_eq lk_i129_11 lk_M129 H (fun H => ?_) (fun H => ?_)
    · refine lk_wp_seg (lo' := [.ref a0, .int x1, .int x2, .int x3, .int x4, .retAddr 0, .retAddr 0]) (st' := [.int ((-1000001))]) lk_M129 lk_s129_27_1 rfl ?_
      exact lk_wp_ret lk_i129_29 lk_M129 rfl H
    · refine lk_wp_seg (lo' := [.ref a0, .int x1, .int x2, .int x3, .int x4, .retAddr 0, .retAddr 0]) (st' := [.long 16, .long 1, .long (x4.toInt64)]) lk_M129 lk_s129_14_4 rfl ?_
      refine lk_wp_cs (as := [.long (x4.toInt64), .long 1, .long 16]) (r := []) lk_i129_21 lk_M129 rfl rfl rfl rfl (Nat.le_of_ble_eq_true rfl) (lk_gi H (fun r6 h5 H => ?_))
      refine lk_wp_if_ne lk_i129_24 lk_M129 H (fun H => ?_) (fun H => ?_)
      · refine lk_wp_seg (lo' := [.ref a0, .int x1, .int x2, .int x3, .int x4, .retAddr 0, .retAddr 0]) (st' := [.ref a0]) lk_M129 lk_s129_30_1 rfl ?_
        refine lk_wp_fR lk_i129_31 lk_M129 H (fun r7 H => ?_)
        refine lk_wp_seg (lo' := [.ref a0, .int x1, .int x2, .int x3, .int x4, .retAddr 0, .retAddr 0]) (st' := [.int x2, .ref r7]) lk_M129 lk_s129_34_1 rfl ?_
        refine lk_wp_ai lk_i129_35 lk_M129 H (fun r8 H => ?_)
        refine lk_wp_if_ne lk_i129_36 lk_M129 H (fun H => ?_) (fun H => ?_)
        · refine lk_wp_seg (lo' := [.ref a0, .int x1, .int x2, .int x3, .int x4, .retAddr 0, .retAddr 0]) (st' := [.int x3]) lk_M129 lk_s129_45_1 rfl ?_
          refine lk_wp_if_lt lk_i129_46 lk_M129 H (fun H => ?_) (fun H => ?_)
          · refine lk_wp_seg (lo' := [.ref a0, .int x1, .int x2, .int x3, .int x4, .retAddr 0, .retAddr 0]) (st' := [.int 2, .ref a0]) lk_M129 lk_s129_66_2 rfl ?_
            refine lk_wp_cv (as := [.int 2]) (r := []) (a := a0) lk_i129_68 lk_M129 rfl rfl rfl (Nat.le_of_ble_eq_true rfl) H (fun k11 H => lk_gi H (fun r10 h9 H => ?_))
            exact lk_wp_ret lk_i129_71 lk_M129 rfl H
          · refine lk_wp_seg (lo' := [.ref a0, .int x1, .int x2, .int x3, .int x4, .retAddr 0, .retAddr 0]) (st' := [.ref a0, .long (x3.toInt64 + x4.toInt64)]) lk_M129 lk_s129_49_6 rfl ?_
            refine lk_wp_fR lk_i129_56 lk_M129 H (fun r12 H => ?_)
            refine lk_wp_seg (lo' := [.ref a0, .int x1, .int x2, .int x3, .int x4, .retAddr 0, .retAddr 0]) (st' := [.int x2, .ref r12, .long (x3.toInt64 + x4.toInt64)]) lk_M129 lk_s129_59_1 rfl ?_
            refine lk_wp_ai lk_i129_60 lk_M129 H (fun r13 H => ?_)
            refine lk_wp_seg (lo' := [.ref a0, .int x1, .int x2, .int x3, .int x4, .retAddr 0, .retAddr 0]) (st' := [.int (lg_cmp (x3.toInt64 + x4.toInt64) r13.toInt64)]) lk_M129 lk_s129_61_2 rfl ?_
            refine lk_wp_if_le lk_i129_63 lk_M129 H (fun H => ?_) (fun H => ?_)
            · refine lk_wp_seg (lo' := [.ref a0, .int x1, .int x2, .int x3, .int x4, .int 0, .retAddr 0]) (st' := []) lk_M129 lk_s129_72_2 rfl ?_
              exact H
            · refine lk_wp_seg (lo' := [.ref a0, .int x1, .int x2, .int x3, .int x4, .retAddr 0, .retAddr 0]) (st' := [.int 2, .ref a0]) lk_M129 lk_s129_66_2 rfl ?_
              refine lk_wp_cv (as := [.int 2]) (r := []) (a := a0) lk_i129_68 lk_M129 rfl rfl rfl (Nat.le_of_ble_eq_true rfl) H (fun k16 H => lk_gi H (fun r15 h14 H => ?_))
              exact lk_wp_ret lk_i129_71 lk_M129 rfl H
        · refine lk_wp_seg (lo' := [.ref a0, .int x1, .int x2, .int x3, .int x4, .retAddr 0, .retAddr 0]) (st' := [.int 1, .ref a0]) lk_M129 lk_s129_39_2 rfl ?_
          refine lk_wp_cv (as := [.int 1]) (r := []) (a := a0) lk_i129_41 lk_M129 rfl rfl rfl (Nat.le_of_ble_eq_true rfl) H (fun k19 H => lk_gi H (fun r18 h17 H => ?_))
          exact lk_wp_ret lk_i129_44 lk_M129 rfl H
      · refine lk_wp_seg (lo' := [.ref a0, .int x1, .int x2, .int x3, .int x4, .retAddr 0, .retAddr 0]) (st' := [.int ((-1000001))]) lk_M129 lk_s129_27_1 rfl ?_
        exact lk_wp_ret lk_i129_29 lk_M129 rfl H
set_option maxRecDepth 20000 in
theorem F_m_order_75 {X : lk_X} {d : Nat} {x1 x2 x3 x4 x5 : Int32} {a0 : Nat} {h : lk_H} {Q : Option Value → lk_H → Prop} (H : (16 ≤ x5 → lk_wp X (d + 1) 129 99 [.ref a0, .int x1, .int x2, .int x3, .int x4, .int 0, .retAddr 0] [] h Q) ∧ (¬ 16 ≤ x5 → lk_fR h a0 11 [(11, 0)] (fun r1 => lk_zs h r1 x5 0 (fun h2 => lk_wp X (d + 1) 129 75 [.ref a0, .int x1, .int x2, .int x3, .int x4, .int (x5 + 1), .retAddr 0] [] h2 Q)))) : lk_wp X (d + 1) 129 75 [.ref a0, .int x1, .int x2, .int x3, .int x4, .int x5, .retAddr 0] [] h Q := by
  refine lk_wp_seg (lo' := [.ref a0, .int x1, .int x2, .int x3, .int x4, .int x5, .retAddr 0]) (st' := [.int 16, .int x5]) lk_M129 lk_s129_75_2 rfl ?_
  refine lk_wp_ic_ge lk_i129_79 lk_M129 H (fun H => ?_) (fun H => ?_)
  · refine lk_wp_seg (lo' := [.ref a0, .int x1, .int x2, .int x3, .int x4, .int 0, .retAddr 0]) (st' := []) lk_M129 lk_s129_96_2 rfl ?_
    exact H
  · refine lk_wp_seg (lo' := [.ref a0, .int x1, .int x2, .int x3, .int x4, .int x5, .retAddr 0]) (st' := [.ref a0]) lk_M129 lk_s129_82_1 rfl ?_
    refine lk_wp_fR lk_i129_83 lk_M129 H (fun r1 H => ?_)
    refine lk_wp_seg (lo' := [.ref a0, .int x1, .int x2, .int x3, .int x4, .int x5, .retAddr 0]) (st' := [.int 0, .int x5, .ref r1]) lk_M129 lk_s129_86_2 rfl ?_
    refine lk_wp_zs lk_i129_89 lk_M129 H (fun h2 H => ?_)
    refine lk_wp_seg (lo' := [.ref a0, .int x1, .int x2, .int x3, .int x4, .int (x5 + 1), .retAddr 0]) (st' := []) lk_M129 lk_s129_90_2 rfl ?_
    exact H
set_option maxRecDepth 20000 in
theorem F_m_order_99 {X : lk_X} {d : Nat} {x1 x2 x3 x4 x5 : Int32} {a0 : Nat} {h : lk_H} {Q : Option Value → lk_H → Prop} (H : (x4 ≤ x5 → lk_fR h a0 5 [(11, 0)] (fun r1 => lk_as h r1 10 x4 (fun h2 => lk_vc h2 a0 [(11, 127)] (fun k5 => lk_wxi X d k5 [.ref a0, .int x1, .int 1] h2 (fun r4 h3 => Q (some (.int r4)) h3))))) ∧ (¬ x4 ≤ x5 → lk_fR h a0 2 [(11, 0)] (fun r6 => lk_ai h r6 (((60 * x2) + x3) + x5) (fun r7 => lk_wxi X d 112 [.long (r7.toInt64), .long 0, .long ((x4 - 1).toInt64)] h (fun r9 h8 => (r9 = 0 → Q (some (.int ((-1000001)))) h8) ∧ (¬ r9 = 0 → lk_fR h8 a0 11 [(11, 0)] (fun r10 => lk_zi h8 r10 r7 (fun r11 => (r11 = 0 → lk_fR h8 a0 11 [(11, 0)] (fun r12 => lk_zs h8 r12 r7 1 (fun h13 => lk_vc h13 a0 [(11, 128)] (fun k15 => lk_wxv X d k15 [.ref a0, .int x5, .int r7] h13 (fun h14 => lk_wp X (d + 1) 129 99 [.ref a0, .int x1, .int x2, .int x3, .int x4, .int (x5 + 1), .retAddr 0] [] h14 Q))))) ∧ (¬ r11 = 0 → Q (some (.int ((-1000001)))) h8))))))))) : lk_wp X (d + 1) 129 99 [.ref a0, .int x1, .int x2, .int x3, .int x4, .int x5, .retAddr 0] [] h Q := by
  refine lk_wp_seg (lo' := [.ref a0, .int x1, .int x2, .int x3, .int x4, .int x5, .retAddr 0]) (st' := [.int x4, .int x5]) lk_M129 lk_s129_99_2 rfl ?_
  refine lk_wp_ic_ge lk_i129_103 lk_M129 H (fun H => ?_) (fun H => ?_)
  · refine lk_wp_seg (lo' := [.ref a0, .int x1, .int x2, .int x3, .int x4, .int x5, .retAddr 0]) (st' := [.ref a0]) lk_M129 lk_s129_172_1 rfl ?_
    refine lk_wp_fR lk_i129_173 lk_M129 H (fun r1 H => ?_)
    refine lk_wp_seg (lo' := [.ref a0, .int x1, .int x2, .int x3, .int x4, .int x5, .retAddr 0]) (st' := [.int x4, .int 10, .ref r1]) lk_M129 lk_s129_176_2 rfl ?_
    refine lk_wp_as lk_i129_180 lk_M129 H (fun h2 H => ?_)
    refine lk_wp_seg (lo' := [.ref a0, .int x1, .int x2, .int x3, .int x4, .int x5, .retAddr 0]) (st' := [.int 1, .int x1, .ref a0]) lk_M129 lk_s129_181_3 rfl ?_
    refine lk_wp_cv (as := [.int x1, .int 1]) (r := []) (a := a0) lk_i129_184 lk_M129 rfl rfl rfl (Nat.le_of_ble_eq_true rfl) H (fun k5 H => lk_gi H (fun r4 h3 H => ?_))
    exact lk_wp_ret lk_i129_187 lk_M129 rfl H
  · refine lk_wp_seg (lo' := [.ref a0, .int x1, .int x2, .int x3, .int x4, .int x5, .retAddr 0]) (st' := [.ref a0]) lk_M129 lk_s129_106_1 rfl ?_
    refine lk_wp_fR lk_i129_107 lk_M129 H (fun r6 H => ?_)
    refine lk_wp_seg (lo' := [.ref a0, .int x1, .int x2, .int x3, .int x4, .int x5, .retAddr 0]) (st' := [.int (((60 * x2) + x3) + x5), .ref r6]) lk_M129 lk_s129_110_7 rfl ?_
    refine lk_wp_ai lk_i129_119 lk_M129 H (fun r7 H => ?_)
    refine lk_wp_seg (lo' := [.ref a0, .int x1, .int x2, .int x3, .int x4, .int x5, .int r7]) (st' := [.long ((x4 - 1).toInt64), .long 0, .long (r7.toInt64)]) lk_M129 lk_s129_120_8 rfl ?_
    refine lk_wp_cs (as := [.long (r7.toInt64), .long 0, .long ((x4 - 1).toInt64)]) (r := []) lk_i129_131 lk_M129 rfl rfl rfl rfl (Nat.le_of_ble_eq_true rfl) (lk_gi H (fun r9 h8 H => ?_))
    refine lk_wp_if_eq lk_i129_134 lk_M129 H (fun H => ?_) (fun H => ?_)
    · refine lk_wp_seg (lo' := [.ref a0, .int x1, .int x2, .int x3, .int x4, .int x5, .int r7]) (st' := [.int ((-1000001))]) lk_M129 lk_s129_147_1 rfl ?_
      exact lk_wp_ret lk_i129_149 lk_M129 rfl H
    · refine lk_wp_seg (lo' := [.ref a0, .int x1, .int x2, .int x3, .int x4, .int x5, .int r7]) (st' := [.ref a0]) lk_M129 lk_s129_137_1 rfl ?_
      refine lk_wp_fR lk_i129_138 lk_M129 H (fun r10 H => ?_)
      refine lk_wp_seg (lo' := [.ref a0, .int x1, .int x2, .int x3, .int x4, .int x5, .int r7]) (st' := [.int r7, .ref r10]) lk_M129 lk_s129_141_1 rfl ?_
      refine lk_wp_zi lk_i129_143 lk_M129 H (fun r11 H => ?_)
      refine lk_wp_if_eq lk_i129_144 lk_M129 H (fun H => ?_) (fun H => ?_)
      · refine lk_wp_seg (lo' := [.ref a0, .int x1, .int x2, .int x3, .int x4, .int x5, .int r7]) (st' := [.ref a0]) lk_M129 lk_s129_150_1 rfl ?_
        refine lk_wp_fR lk_i129_151 lk_M129 H (fun r12 H => ?_)
        refine lk_wp_seg (lo' := [.ref a0, .int x1, .int x2, .int x3, .int x4, .int x5, .int r7]) (st' := [.int 1, .int r7, .ref r12]) lk_M129 lk_s129_154_2 rfl ?_
        refine lk_wp_zs lk_i129_157 lk_M129 H (fun h13 H => ?_)
        refine lk_wp_seg (lo' := [.ref a0, .int x1, .int x2, .int x3, .int x4, .int x5, .int r7]) (st' := [.int r7, .int x5, .ref a0]) lk_M129 lk_s129_158_3 rfl ?_
        refine lk_wp_cv (as := [.int x5, .int r7]) (r := []) (a := a0) lk_i129_163 lk_M129 rfl rfl rfl (Nat.le_of_ble_eq_true rfl) H (fun k15 H => lk_gv H (fun h14 H => ?_))
        refine lk_wp_seg (lo' := [.ref a0, .int x1, .int x2, .int x3, .int x4, .int (x5 + 1), .int r7]) (st' := []) lk_M129 lk_s129_166_2 rfl ?_
        exact H.forget (lk_le_s (lk_le_s (lk_le_s (lk_le_s (lk_le_s (lk_le_s (lk_le_d lk_le_n)))))))
      · refine lk_wp_seg (lo' := [.ref a0, .int x1, .int x2, .int x3, .int x4, .int x5, .int r7]) (st' := [.int ((-1000001))]) lk_M129 lk_s129_147_1 rfl ?_
        exact lk_wp_ret lk_i129_149 lk_M129 rfl H
/-! LonelyDotsModel.marks(IIII)I -/
theorem lk_M130 : lk_mt[130]? = some (yX12_marks, cX12_marks, 7, ((some FieldType.int))) := rfl
theorem lk_s130_0_1 : lk_seg 130 [(.iload_n 1, 1, (0, [], .null))] 0 = some 1 := by decide +kernel
theorem lk_i130_1 : lk_ins 130 1 = some (.invokestatic 100, 3, (0, [(0, 120)], .ref 89)) := lk_eqE_eq (by decide +kernel)
theorem lk_i130_4 : lk_ins 130 4 = some (.ifCond .eq 23, 3, (27, [], .null)) := lk_eqE_eq (by decide +kernel)
theorem lk_s130_27_1 : lk_seg 130 [(.ldc 70, 2, (0, [], .int (-1000001)))] 27 = some 29 := by decide +kernel
theorem lk_i130_29 : lk_ins 130 29 = some (.ireturn, 1, (0, [], .null)) := lk_eqE_eq (by decide +kernel)
theorem lk_s130_7_1 : lk_seg 130 [(.iload_n 2, 1, (0, [], .null))] 7 = some 8 := by decide +kernel
theorem lk_i130_8 : lk_ins 130 8 = some (.invokestatic 64, 3, (0, [(0, 115)], .ref 81)) := lk_eqE_eq (by decide +kernel)
theorem lk_i130_11 : lk_ins 130 11 = some (.ifCond .eq 16, 3, (27, [], .null)) := lk_eqE_eq (by decide +kernel)
theorem lk_s130_14_4 : lk_seg 130 [(.iload 4, 2, (0, [], .null)), (.i2l, 1, (0, [], .null)), (.lconst 1, 1, (0, [], .long 1)), (.ldc2_w 112, 3, (0, [], .long (12)))] 14 = some 21 := by decide +kernel
theorem lk_i130_21 : lk_ins 130 21 = some (.invokestatic 60, 3, (0, [(0, 112)], .ref 80)) := lk_eqE_eq (by decide +kernel)
theorem lk_i130_24 : lk_ins 130 24 = some (.ifCond .ne 6, 3, (30, [], .null)) := lk_eqE_eq (by decide +kernel)
theorem lk_s130_30_1 : lk_seg 130 [(.aload_n 0, 1, (0, [], .null))] 30 = some 31 := by decide +kernel
theorem lk_i130_31 : lk_ins 130 31 = some (.getfield 7, 3, (0, [(11, 0)], .null)) := lk_eqE_eq (by decide +kernel)
theorem lk_s130_34_1 : lk_seg 130 [(.iload_n 2, 1, (0, [], .null))] 34 = some 35 := by decide +kernel
theorem lk_i130_35 : lk_ins 130 35 = some (.iaload, 1, (0, [], .null)) := lk_eqE_eq (by decide +kernel)
theorem lk_i130_36 : lk_ins 130 36 = some (.ifCond .ne 9, 3, (45, [], .null)) := lk_eqE_eq (by decide +kernel)
theorem lk_s130_45_1 : lk_seg 130 [(.iload_n 3, 1, (0, [], .null))] 45 = some 46 := by decide +kernel
theorem lk_i130_46 : lk_ins 130 46 = some (.ifCond .lt 20, 3, (66, [], .null)) := lk_eqE_eq (by decide +kernel)
theorem lk_s130_66_2 : lk_seg 130 [(.aload_n 0, 1, (0, [], .null)), (.iconst 2, 1, (0, [], .int (2)))] 66 = some 68 := by decide +kernel
theorem lk_i130_68 : lk_ins 130 68 = some (.invokevirtual 71, 3, (1, [(11, 113)], .ref 82)) := lk_eqE_eq (by decide +kernel)
theorem lk_i130_71 : lk_ins 130 71 = some (.ireturn, 1, (0, [], .null)) := lk_eqE_eq (by decide +kernel)
theorem lk_s130_49_6 : lk_seg 130 [(.iload_n 3, 1, (0, [], .null)), (.i2l, 1, (0, [], .null)), (.iload 4, 2, (0, [], .null)), (.i2l, 1, (0, [], .null)), (.ladd, 1, (0, [], .null)), (.aload_n 0, 1, (0, [], .null))] 49 = some 56 := by decide +kernel
theorem lk_i130_56 : lk_ins 130 56 = some (.getfield 13, 3, (1, [(11, 0)], .null)) := lk_eqE_eq (by decide +kernel)
theorem lk_s130_59_1 : lk_seg 130 [(.iload_n 2, 1, (0, [], .null))] 59 = some 60 := by decide +kernel
theorem lk_i130_60 : lk_ins 130 60 = some (.iaload, 1, (0, [], .null)) := lk_eqE_eq (by decide +kernel)
theorem lk_s130_61_2 : lk_seg 130 [(.i2l, 1, (0, [], .null)), (.lcmp, 1, (0, [], .null))] 61 = some 63 := by decide +kernel
theorem lk_i130_63 : lk_ins 130 63 = some (.ifCond .le 9, 3, (72, [], .null)) := lk_eqE_eq (by decide +kernel)
theorem lk_s130_72_2 : lk_seg 130 [(.iconst 0, 1, (0, [], .int (0))), (.istore 5, 2, (0, [], .null))] 72 = some 75 := by decide +kernel
theorem lk_s130_39_2 : lk_seg 130 [(.aload_n 0, 1, (0, [], .null)), (.iconst 1, 1, (0, [], .int (1)))] 39 = some 41 := by decide +kernel
theorem lk_i130_41 : lk_ins 130 41 = some (.invokevirtual 71, 3, (1, [(11, 113)], .ref 82)) := lk_eqE_eq (by decide +kernel)
theorem lk_i130_44 : lk_ins 130 44 = some (.ireturn, 1, (0, [], .null)) := lk_eqE_eq (by decide +kernel)
theorem lk_s130_75_2 : lk_seg 130 [(.iload 5, 2, (0, [], .null)), (.iload 4, 2, (0, [], .null))] 75 = some 79 := by decide +kernel
theorem lk_i130_79 : lk_ins 130 79 = some (.if_icmp .ge 75, 3, (154, [], .null)) := lk_eqE_eq (by decide +kernel)
theorem lk_s130_154_1 : lk_seg 130 [(.aload_n 0, 1, (0, [], .null))] 154 = some 155 := by decide +kernel
theorem lk_i130_155 : lk_ins 130 155 = some (.getfield 25, 3, (5, [(11, 0)], .null)) := lk_eqE_eq (by decide +kernel)
theorem lk_s130_158_2 : lk_seg 130 [(.bipush 10, 2, (0, [], .int (10))), (.iload 4, 2, (0, [], .null))] 158 = some 162 := by decide +kernel
theorem lk_i130_162 : lk_ins 130 162 = some (.iastore, 1, (0, [], .null)) := lk_eqE_eq (by decide +kernel)
theorem lk_s130_163_3 : lk_seg 130 [(.aload_n 0, 1, (0, [], .null)), (.iload_n 1, 1, (0, [], .null)), (.iconst 0, 1, (0, [], .int (0)))] 163 = some 166 := by decide +kernel
theorem lk_i130_166 : lk_ins 130 166 = some (.invokevirtual 108, 3, (1, [(11, 127)], .ref 91)) := lk_eqE_eq (by decide +kernel)
theorem lk_i130_169 : lk_ins 130 169 = some (.ireturn, 1, (0, [], .null)) := lk_eqE_eq (by decide +kernel)
theorem lk_s130_82_1 : lk_seg 130 [(.aload_n 0, 1, (0, [], .null))] 82 = some 83 := by decide +kernel
theorem lk_i130_83 : lk_ins 130 83 = some (.getfield 16, 3, (2, [(11, 0)], .null)) := lk_eqE_eq (by decide +kernel)
theorem lk_s130_86_7 : lk_seg 130 [(.bipush 60, 2, (0, [], .int (60))), (.iload_n 2, 1, (0, [], .null)), (.imul, 1, (0, [], .null)), (.iload_n 3, 1, (0, [], .null)), (.iadd, 1, (0, [], .null)), (.iload 5, 2, (0, [], .null)), (.iadd, 1, (0, [], .null))] 86 = some 95 := by decide +kernel
theorem lk_i130_95 : lk_ins 130 95 = some (.iaload, 1, (0, [], .null)) := lk_eqE_eq (by decide +kernel)
theorem lk_s130_96_5 : lk_seg 130 [(.istore 6, 2, (0, [], .null)), (.iload 6, 2, (0, [], .null)), (.i2l, 1, (0, [], .null)), (.lconst 0, 1, (0, [], .long 0)), (.ldc2_w 114, 3, (0, [], .long (200)))] 96 = some 105 := by decide +kernel
theorem lk_i130_105 : lk_ins 130 105 = some (.invokestatic 60, 3, (0, [(0, 112)], .ref 80)) := lk_eqE_eq (by decide +kernel)
theorem lk_i130_108 : lk_ins 130 108 = some (.ifCond .eq 29, 3, (137, [], .null)) := lk_eqE_eq (by decide +kernel)
theorem lk_s130_137_1 : lk_seg 130 [(.ldc 70, 2, (0, [], .int (-1000001)))] 137 = some 139 := by decide +kernel
theorem lk_i130_139 : lk_ins 130 139 = some (.ireturn, 1, (0, [], .null)) := lk_eqE_eq (by decide +kernel)
theorem lk_s130_111_1 : lk_seg 130 [(.iload 5, 2, (0, [], .null))] 111 = some 113 := by decide +kernel
theorem lk_i130_113 : lk_ins 130 113 = some (.ifCond .le 27, 3, (140, [], .null)) := lk_eqE_eq (by decide +kernel)
theorem lk_s130_140_3 : lk_seg 130 [(.aload_n 0, 1, (0, [], .null)), (.iload 5, 2, (0, [], .null)), (.iload 6, 2, (0, [], .null))] 140 = some 145 := by decide +kernel
theorem lk_i130_145 : lk_ins 130 145 = some (.invokevirtual 105, 3, (1, [(11, 128)], .ref 90)) := lk_eqE_eq (by decide +kernel)
theorem lk_s130_148_2 : lk_seg 130 [(.iinc 5 1, 3, (0, [], .int (1))), (.goto (-76), 3, (75, [], .null))] 148 = some 75 := by decide +kernel
theorem lk_s130_116_2 : lk_seg 130 [(.iload 6, 2, (0, [], .null)), (.aload_n 0, 1, (0, [], .null))] 116 = some 119 := by decide +kernel
theorem lk_i130_119 : lk_ins 130 119 = some (.getfield 16, 3, (2, [(11, 0)], .null)) := lk_eqE_eq (by decide +kernel)
theorem lk_s130_122_9 : lk_seg 130 [(.bipush 60, 2, (0, [], .int (60))), (.iload_n 2, 1, (0, [], .null)), (.imul, 1, (0, [], .null)), (.iload_n 3, 1, (0, [], .null)), (.iadd, 1, (0, [], .null)), (.iload 5, 2, (0, [], .null)), (.iadd, 1, (0, [], .null)), (.iconst 1, 1, (0, [], .int (1))), (.isub, 1, (0, [], .null))] 122 = some 133 := by decide +kernel
theorem lk_i130_133 : lk_ins 130 133 = some (.iaload, 1, (0, [], .null)) := lk_eqE_eq (by decide +kernel)
theorem lk_i130_134 : lk_ins 130 134 = some (.if_icmp .gt 6, 3, (140, [], .null)) := lk_eqE_eq (by decide +kernel)
set_option maxRecDepth 20000 in
theorem E_m_marks {X : lk_X} {d : Nat} {x1 x2 x3 x4 : Int32} {a0 : Nat} {h : lk_H} {Q : Option Value → lk_H → Prop} (H : lk_wxi X d 120 [.int x1] h (fun r2 h1 => (r2 = 0 → Q (some (.int ((-1000001)))) h1) ∧ (¬ r2 = 0 → lk_wxi X d 115 [.int x2] h1 (fun r4 h3 => (r4 = 0 → Q (some (.int ((-1000001)))) h3) ∧ (¬ r4 = 0 → lk_wxi X d 112 [.long (x4.toInt64), .long 1, .long 12] h3 (fun r6 h5 => (¬ r6 = 0 → lk_fR h5 a0 0 [(11, 0)] (fun r7 => lk_ai h5 r7 x2 (fun r8 => (¬ r8 = 0 → (x3 < 0 → lk_vc h5 a0 [(11, 113)] (fun k11 => lk_wxi X d k11 [.ref a0, .int 2] h5 (fun r10 h9 => Q (some (.int r10)) h9))) ∧ (¬ x3 < 0 → lk_fR h5 a0 1 [(11, 0)] (fun r12 => lk_ai h5 r12 x2 (fun r13 => ((lg_cmp (x3.toInt64 + x4.toInt64) r13.toInt64) ≤ 0 → lk_wp X (d + 1) 130 75 [.ref a0, .int x1, .int x2, .int x3, .int x4, .int 0, .retAddr 0] [] h5 Q) ∧ (¬ (lg_cmp (x3.toInt64 + x4.toInt64) r13.toInt64) ≤ 0 → lk_vc h5 a0 [(11, 113)] (fun k16 => lk_wxi X d k16 [.ref a0, .int 2] h5 (fun r15 h14 => Q (some (.int r15)) h14))))))) ∧ (r8 = 0 → lk_vc h5 a0 [(11, 113)] (fun k19 => lk_wxi X d k19 [.ref a0, .int 1] h5 (fun r18 h17 => Q (some (.int r18)) h17)))))) ∧ (r6 = 0 → Q (some (.int ((-1000001)))) h5))))))) : lk_wx X (d + 1) 130 [.ref a0, .int x1, .int x2, .int x3, .int x4] h Q := by
  refine lk_enter (lo := [.ref a0, .int x1, .int x2, .int x3, .int x4, .retAddr 0, .retAddr 0]) lk_M130 rfl (Nat.le_of_ble_eq_true rfl) ?_
  refine lk_wp_seg (lo' := [.ref a0, .int x1, .int x2, .int x3, .int x4, .retAddr 0, .retAddr 0]) (st' := [.int x1]) lk_M130 lk_s130_0_1 rfl ?_
  refine lk_wp_cs (as := [.int x1]) (r := []) lk_i130_1 lk_M130 rfl rfl rfl rfl (Nat.le_of_ble_eq_true rfl) (lk_gi H (fun r2 h1 H => ?_))
  refine lk_wp_if_eq lk_i130_4 lk_M130 H (fun H => ?_) (fun H => ?_)
  · refine lk_wp_seg (lo' := [.ref a0, .int x1, .int x2, .int x3, .int x4, .retAddr 0, .retAddr 0]) (st' := [.int ((-1000001))]) lk_M130 lk_s130_27_1 rfl ?_
    exact lk_wp_ret lk_i130_29 lk_M130 rfl H
  · refine lk_wp_seg (lo' := [.ref a0, .int x1, .int x2, .int x3, .int x4, .retAddr 0, .retAddr 0]) (st' := [.int x2]) lk_M130 lk_s130_7_1 rfl ?_
    refine lk_wp_cs (as := [.int x2]) (r := []) lk_i130_8 lk_M130 rfl rfl rfl rfl (Nat.le_of_ble_eq_true rfl) (lk_gi H (fun r4 h3 H => ?_))
    refine lk_wp_if_eq lk_i130_11 lk_M130 H (fun H => ?_) (fun H => ?_)
    · refine lk_wp_seg (lo' := [.ref a0, .int x1, .int x2, .int x3, .int x4, .retAddr 0, .retAddr 0]) (st' := [.int ((-1000001))]) lk_M130 lk_s130_27_1 rfl ?_
      exact lk_wp_ret lk_i130_29 lk_M130 rfl H
    · refine lk_wp_seg (lo' := [.ref a0, .int x1, .int x2, .int x3, .int x4, .retAddr 0, .retAddr 0]) (st' := [.long 12, .long 1, .long (x4.toInt64)]) lk_M130 lk_s130_14_4 rfl ?_
      refine lk_wp_cs (as := [.long (x4.toInt64), .long 1, .long 12]) (r := []) lk_i130_21 lk_M130 rfl rfl rfl rfl (Nat.le_of_ble_eq_true rfl) (lk_gi H (fun r6 h5 H => ?_))
      refine lk_wp_if_ne lk_i130_24 lk_M130 H (fun H => ?_) (fun H => ?_)
      · refine lk_wp_seg (lo' := [.ref a0, .int x1, .int x2, .int x3, .int x4, .retAddr 0, .retAddr 0]) (st' := [.ref a0]) lk_M130 lk_s130_30_1 rfl ?_
        refine lk_wp_fR lk_i130_31 lk_M130 H (fun r7 H => ?_)
        refine lk_wp_seg (lo' := [.ref a0, .int x1, .int x2, .int x3, .int x4, .retAddr 0, .retAddr 0]) (st' := [.int x2, .ref r7]) lk_M130 lk_s130_34_1 rfl ?_
        refine lk_wp_ai lk_i130_35 lk_M130 H (fun r8 H => ?_)
        refine lk_wp_if_ne lk_i130_36 lk_M130 H (fun H => ?_) (fun H => ?_)
        · refine lk_wp_seg (lo' := [.ref a0, .int x1, .int x2, .int x3, .int x4, .retAddr 0, .retAddr 0]) (st' := [.int x3]) lk_M130 lk_s130_45_1 rfl ?_
          refine lk_wp_if_lt lk_i130_46 lk_M130 H (fun H => ?_) (fun H => ?_)
          · refine lk_wp_seg (lo' := [.ref a0, .int x1, .int x2, .int x3, .int x4, .retAddr 0, .retAddr 0]) (st' := [.int 2, .ref a0]) lk_M130 lk_s130_66_2 rfl ?_
            refine lk_wp_cv (as := [.int 2]) (r := []) (a := a0) lk_i130_68 lk_M130 rfl rfl rfl (Nat.le_of_ble_eq_true rfl) H (fun k11 H => lk_gi H (fun r10 h9 H => ?_))
            exact lk_wp_ret lk_i130_71 lk_M130 rfl H
          · refine lk_wp_seg (lo' := [.ref a0, .int x1, .int x2, .int x3, .int x4, .retAddr 0, .retAddr 0]) (st' := [.ref a0, .long (x3.toInt64 + x4.toInt64)]) lk_M130 lk_s130_49_6 rfl ?_
            refine lk_wp_fR lk_i130_56 lk_M130 H (fun r12 H => ?_)
            refine lk_wp_seg (lo' := [.ref a0, .int x1, .int x2, .int x3, .int x4, .retAddr 0, .retAddr 0]) (st' := [.int x2, .ref r12, .long (x3.toInt64 + x4.toInt64)]) lk_M130 lk_s130_59_1 rfl ?_
            refine lk_wp_ai lk_i130_60 lk_M130 H (fun r13 H => ?_)
            refine lk_wp_seg (lo' := [.ref a0, .int x1, .int x2, .int x3, .int x4, .retAddr 0, .retAddr 0]) (st' := [.int (lg_cmp (x3.toInt64 + x4.toInt64) r13.toInt64)]) lk_M130 lk_s130_61_2 rfl ?_
            refine lk_wp_if_le lk_i130_63 lk_M130 H (fun H => ?_) (fun H => ?_)
            · refine lk_wp_seg (lo' := [.ref a0, .int x1, .int x2, .int x3, .int x4, .int 0, .retAddr 0]) (st' := []) lk_M130 lk_s130_72_2 rfl ?_
              exact H
            · refine lk_wp_seg (lo' := [.ref a0, .int x1, .int x2, .int x3, .int x4, .retAddr 0, .retAddr 0]) (st' := [.int 2, .ref a0]) lk_M130 lk_s130_66_2 rfl ?_
              refine lk_wp_cv (as := [.int 2]) (r := []) (a := a0) lk_i130_68 lk_M130 rfl rfl rfl (Nat.le_of_ble_eq_true rfl) H (fun k16 H => lk_gi H (fun r15 h14 H => ?_))
              exact lk_wp_ret lk_i130_71 lk_M130 rfl H
        · refine lk_wp_seg (lo' := [.ref a0, .int x1, .int x2, .int x3, .int x4, .retAddr 0, .retAddr 0]) (st' := [.int 1, .ref a0]) lk_M130 lk_s130_39_2 rfl ?_
          refine lk_wp_cv (as := [.int 1]) (r := []) (a := a0) lk_i130_41 lk_M130 rfl rfl rfl (Nat.le_of_ble_eq_true rfl) H (fun k19 H => lk_gi H (fun r18 h17 H => ?_))
          exact lk_wp_ret lk_i130_44 lk_M130 rfl H
      · refine lk_wp_seg (lo' := [.ref a0, .int x1, .int x2, .int x3, .int x4, .retAddr 0, .retAddr 0]) (st' := [.int ((-1000001))]) lk_M130 lk_s130_27_1 rfl ?_
        exact lk_wp_ret lk_i130_29 lk_M130 rfl H
set_option maxRecDepth 20000 in
theorem F_m_marks_75 {X : lk_X} {d : Nat} {x1 x2 x3 x4 x5 : Int32} {a0 : Nat} {h : lk_H} {Q : Option Value → lk_H → Prop} (H : (x4 ≤ x5 → lk_fR h a0 5 [(11, 0)] (fun r1 => lk_as h r1 10 x4 (fun h2 => lk_vc h2 a0 [(11, 127)] (fun k5 => lk_wxi X d k5 [.ref a0, .int x1, .int 0] h2 (fun r4 h3 => Q (some (.int r4)) h3))))) ∧ (¬ x4 ≤ x5 → lk_fR h a0 2 [(11, 0)] (fun r6 => lk_ai h r6 (((60 * x2) + x3) + x5) (fun r7 => lk_wxi X d 112 [.long (r7.toInt64), .long 0, .long 200] h (fun r9 h8 => (r9 = 0 → Q (some (.int ((-1000001)))) h8) ∧ (¬ r9 = 0 → (x5 ≤ 0 → lk_vc h8 a0 [(11, 128)] (fun k11 => lk_wxv X d k11 [.ref a0, .int x5, .int r7] h8 (fun h10 => lk_wp X (d + 1) 130 75 [.ref a0, .int x1, .int x2, .int x3, .int x4, .int (x5 + 1), .retAddr 0] [] h10 Q))) ∧ (¬ x5 ≤ 0 → lk_fR h8 a0 2 [(11, 0)] (fun r12 => lk_ai h8 r12 ((((60 * x2) + x3) + x5) - 1) (fun r13 => (r13 < r7 → lk_vc h8 a0 [(11, 128)] (fun k15 => lk_wxv X d k15 [.ref a0, .int x5, .int r7] h8 (fun h14 => lk_wp X (d + 1) 130 75 [.ref a0, .int x1, .int x2, .int x3, .int x4, .int (x5 + 1), .retAddr 0] [] h14 Q))) ∧ (¬ r13 < r7 → Q (some (.int ((-1000001)))) h8)))))))))) : lk_wp X (d + 1) 130 75 [.ref a0, .int x1, .int x2, .int x3, .int x4, .int x5, .retAddr 0] [] h Q := by
  refine lk_wp_seg (lo' := [.ref a0, .int x1, .int x2, .int x3, .int x4, .int x5, .retAddr 0]) (st' := [.int x4, .int x5]) lk_M130 lk_s130_75_2 rfl ?_
  refine lk_wp_ic_ge lk_i130_79 lk_M130 H (fun H => ?_) (fun H => ?_)
  · refine lk_wp_seg (lo' := [.ref a0, .int x1, .int x2, .int x3, .int x4, .int x5, .retAddr 0]) (st' := [.ref a0]) lk_M130 lk_s130_154_1 rfl ?_
    refine lk_wp_fR lk_i130_155 lk_M130 H (fun r1 H => ?_)
    refine lk_wp_seg (lo' := [.ref a0, .int x1, .int x2, .int x3, .int x4, .int x5, .retAddr 0]) (st' := [.int x4, .int 10, .ref r1]) lk_M130 lk_s130_158_2 rfl ?_
    refine lk_wp_as lk_i130_162 lk_M130 H (fun h2 H => ?_)
    refine lk_wp_seg (lo' := [.ref a0, .int x1, .int x2, .int x3, .int x4, .int x5, .retAddr 0]) (st' := [.int 0, .int x1, .ref a0]) lk_M130 lk_s130_163_3 rfl ?_
    refine lk_wp_cv (as := [.int x1, .int 0]) (r := []) (a := a0) lk_i130_166 lk_M130 rfl rfl rfl (Nat.le_of_ble_eq_true rfl) H (fun k5 H => lk_gi H (fun r4 h3 H => ?_))
    exact lk_wp_ret lk_i130_169 lk_M130 rfl H
  · refine lk_wp_seg (lo' := [.ref a0, .int x1, .int x2, .int x3, .int x4, .int x5, .retAddr 0]) (st' := [.ref a0]) lk_M130 lk_s130_82_1 rfl ?_
    refine lk_wp_fR lk_i130_83 lk_M130 H (fun r6 H => ?_)
    refine lk_wp_seg (lo' := [.ref a0, .int x1, .int x2, .int x3, .int x4, .int x5, .retAddr 0]) (st' := [.int (((60 * x2) + x3) + x5), .ref r6]) lk_M130 lk_s130_86_7 rfl ?_
    refine lk_wp_ai lk_i130_95 lk_M130 H (fun r7 H => ?_)
    refine lk_wp_seg (lo' := [.ref a0, .int x1, .int x2, .int x3, .int x4, .int x5, .int r7]) (st' := [.long 200, .long 0, .long (r7.toInt64)]) lk_M130 lk_s130_96_5 rfl ?_
    refine lk_wp_cs (as := [.long (r7.toInt64), .long 0, .long 200]) (r := []) lk_i130_105 lk_M130 rfl rfl rfl rfl (Nat.le_of_ble_eq_true rfl) (lk_gi H (fun r9 h8 H => ?_))
    refine lk_wp_if_eq lk_i130_108 lk_M130 H (fun H => ?_) (fun H => ?_)
    · refine lk_wp_seg (lo' := [.ref a0, .int x1, .int x2, .int x3, .int x4, .int x5, .int r7]) (st' := [.int ((-1000001))]) lk_M130 lk_s130_137_1 rfl ?_
      exact lk_wp_ret lk_i130_139 lk_M130 rfl H
    · refine lk_wp_seg (lo' := [.ref a0, .int x1, .int x2, .int x3, .int x4, .int x5, .int r7]) (st' := [.int x5]) lk_M130 lk_s130_111_1 rfl ?_
      refine lk_wp_if_le lk_i130_113 lk_M130 H (fun H => ?_) (fun H => ?_)
      · refine lk_wp_seg (lo' := [.ref a0, .int x1, .int x2, .int x3, .int x4, .int x5, .int r7]) (st' := [.int r7, .int x5, .ref a0]) lk_M130 lk_s130_140_3 rfl ?_
        refine lk_wp_cv (as := [.int x5, .int r7]) (r := []) (a := a0) lk_i130_145 lk_M130 rfl rfl rfl (Nat.le_of_ble_eq_true rfl) H (fun k11 H => lk_gv H (fun h10 H => ?_))
        refine lk_wp_seg (lo' := [.ref a0, .int x1, .int x2, .int x3, .int x4, .int (x5 + 1), .int r7]) (st' := []) lk_M130 lk_s130_148_2 rfl ?_
        exact H.forget (lk_le_s (lk_le_s (lk_le_s (lk_le_s (lk_le_s (lk_le_s (lk_le_d lk_le_n)))))))
      · refine lk_wp_seg (lo' := [.ref a0, .int x1, .int x2, .int x3, .int x4, .int x5, .int r7]) (st' := [.ref a0, .int r7]) lk_M130 lk_s130_116_2 rfl ?_
        refine lk_wp_fR lk_i130_119 lk_M130 H (fun r12 H => ?_)
        refine lk_wp_seg (lo' := [.ref a0, .int x1, .int x2, .int x3, .int x4, .int x5, .int r7]) (st' := [.int ((((60 * x2) + x3) + x5) - 1), .ref r12, .int r7]) lk_M130 lk_s130_122_9 rfl ?_
        refine lk_wp_ai lk_i130_133 lk_M130 H (fun r13 H => ?_)
        refine lk_wp_ic_gt lk_i130_134 lk_M130 H (fun H => ?_) (fun H => ?_)
        · refine lk_wp_seg (lo' := [.ref a0, .int x1, .int x2, .int x3, .int x4, .int x5, .int r7]) (st' := [.int r7, .int x5, .ref a0]) lk_M130 lk_s130_140_3 rfl ?_
          refine lk_wp_cv (as := [.int x5, .int r7]) (r := []) (a := a0) lk_i130_145 lk_M130 rfl rfl rfl (Nat.le_of_ble_eq_true rfl) H (fun k15 H => lk_gv H (fun h14 H => ?_))
          refine lk_wp_seg (lo' := [.ref a0, .int x1, .int x2, .int x3, .int x4, .int (x5 + 1), .int r7]) (st' := []) lk_M130 lk_s130_148_2 rfl ?_
          exact H.forget (lk_le_s (lk_le_s (lk_le_s (lk_le_s (lk_le_s (lk_le_s (lk_le_d lk_le_n)))))))
        · refine lk_wp_seg (lo' := [.ref a0, .int x1, .int x2, .int x3, .int x4, .int x5, .int r7]) (st' := [.int ((-1000001))]) lk_M130 lk_s130_137_1 rfl ?_
          exact lk_wp_ret lk_i130_139 lk_M130 rfl H
/-! LonelyDotsModel.isPrime(I)Z -/
theorem lk_M131 : lk_mt[131]? = some (yX12_isPrime, cX12_isPrime, 1, ((some FieldType.boolean))) := rfl
theorem lk_s131_0_2 : lk_seg 131 [(.iload_n 0, 1, (0, [], .null)), (.iconst 3, 1, (0, [], .int (3)))] 0 = some 2 := by decide +kernel
theorem lk_i131_2 : lk_ins 131 2 = some (.if_icmp .eq 32, 3, (34, [], .null)) := lk_eqE_eq (by decide +kernel)
theorem lk_s131_34_2 : lk_seg 131 [(.iconst 1, 1, (0, [], .int (1))), (.goto 4, 3, (39, [], .null))] 34 = some 39 := by decide +kernel
theorem lk_i131_39 : lk_ins 131 39 = some (.ireturn, 1, (0, [], .null)) := lk_eqE_eq (by decide +kernel)
theorem lk_s131_5_2 : lk_seg 131 [(.iload_n 0, 1, (0, [], .null)), (.iconst 5, 1, (0, [], .int (5)))] 5 = some 7 := by decide +kernel
theorem lk_i131_7 : lk_ins 131 7 = some (.if_icmp .eq 27, 3, (34, [], .null)) := lk_eqE_eq (by decide +kernel)
theorem lk_s131_10_2 : lk_seg 131 [(.iload_n 0, 1, (0, [], .null)), (.bipush 7, 2, (0, [], .int (7)))] 10 = some 13 := by decide +kernel
theorem lk_i131_13 : lk_ins 131 13 = some (.if_icmp .eq 21, 3, (34, [], .null)) := lk_eqE_eq (by decide +kernel)
theorem lk_s131_16_2 : lk_seg 131 [(.iload_n 0, 1, (0, [], .null)), (.bipush 11, 2, (0, [], .int (11)))] 16 = some 19 := by decide +kernel
theorem lk_i131_19 : lk_ins 131 19 = some (.if_icmp .eq 15, 3, (34, [], .null)) := lk_eqE_eq (by decide +kernel)
theorem lk_s131_22_2 : lk_seg 131 [(.iload_n 0, 1, (0, [], .null)), (.bipush 13, 2, (0, [], .int (13)))] 22 = some 25 := by decide +kernel
theorem lk_i131_25 : lk_ins 131 25 = some (.if_icmp .eq 9, 3, (34, [], .null)) := lk_eqE_eq (by decide +kernel)
theorem lk_s131_28_2 : lk_seg 131 [(.iload_n 0, 1, (0, [], .null)), (.bipush 17, 2, (0, [], .int (17)))] 28 = some 31 := by decide +kernel
theorem lk_i131_31 : lk_ins 131 31 = some (.if_icmp .ne 7, 3, (38, [], .null)) := lk_eqE_eq (by decide +kernel)
theorem lk_s131_38_1 : lk_seg 131 [(.iconst 0, 1, (0, [], .int (0)))] 38 = some 39 := by decide +kernel
set_option maxRecDepth 20000 in
theorem E_m_isPrime {X : lk_X} {d : Nat} {x0 : Int32} {h : lk_H} {Q : Option Value → lk_H → Prop} (H : (x0 = 3 → Q (some (.int 1)) h) ∧ (¬ x0 = 3 → (x0 = 5 → Q (some (.int 1)) h) ∧ (¬ x0 = 5 → (x0 = 7 → Q (some (.int 1)) h) ∧ (¬ x0 = 7 → (x0 = 11 → Q (some (.int 1)) h) ∧ (¬ x0 = 11 → (x0 = 13 → Q (some (.int 1)) h) ∧ (¬ x0 = 13 → (¬ x0 = 17 → Q (some (.int 0)) h) ∧ (x0 = 17 → Q (some (.int 1)) h))))))) : lk_wx X (d + 1) 131 [.int x0] h Q := by
  refine lk_enter (lo := [.int x0]) lk_M131 rfl (Nat.le_of_ble_eq_true rfl) ?_
  refine lk_wp_seg (lo' := [.int x0]) (st' := [.int 3, .int x0]) lk_M131 lk_s131_0_2 rfl ?_
  refine lk_wp_ic_eq lk_i131_2 lk_M131 H (fun H => ?_) (fun H => ?_)
  · refine lk_wp_seg (lo' := [.int x0]) (st' := [.int 1]) lk_M131 lk_s131_34_2 rfl ?_
    exact lk_wp_ret lk_i131_39 lk_M131 rfl H
  · refine lk_wp_seg (lo' := [.int x0]) (st' := [.int 5, .int x0]) lk_M131 lk_s131_5_2 rfl ?_
    refine lk_wp_ic_eq lk_i131_7 lk_M131 H (fun H => ?_) (fun H => ?_)
    · refine lk_wp_seg (lo' := [.int x0]) (st' := [.int 1]) lk_M131 lk_s131_34_2 rfl ?_
      exact lk_wp_ret lk_i131_39 lk_M131 rfl H
    · refine lk_wp_seg (lo' := [.int x0]) (st' := [.int 7, .int x0]) lk_M131 lk_s131_10_2 rfl ?_
      refine lk_wp_ic_eq lk_i131_13 lk_M131 H (fun H => ?_) (fun H => ?_)
      · refine lk_wp_seg (lo' := [.int x0]) (st' := [.int 1]) lk_M131 lk_s131_34_2 rfl ?_
        exact lk_wp_ret lk_i131_39 lk_M131 rfl H
      · refine lk_wp_seg (lo' := [.int x0]) (st' := [.int 11, .int x0]) lk_M131 lk_s131_16_2 rfl ?_
        refine lk_wp_ic_eq lk_i131_19 lk_M131 H (fun H => ?_) (fun H => ?_)
        · refine lk_wp_seg (lo' := [.int x0]) (st' := [.int 1]) lk_M131 lk_s131_34_2 rfl ?_
          exact lk_wp_ret lk_i131_39 lk_M131 rfl H
        · refine lk_wp_seg (lo' := [.int x0]) (st' := [.int 13, .int x0]) lk_M131 lk_s131_22_2 rfl ?_
          refine lk_wp_ic_eq lk_i131_25 lk_M131 H (fun H => ?_) (fun H => ?_)
          · refine lk_wp_seg (lo' := [.int x0]) (st' := [.int 1]) lk_M131 lk_s131_34_2 rfl ?_
            exact lk_wp_ret lk_i131_39 lk_M131 rfl H
          · refine lk_wp_seg (lo' := [.int x0]) (st' := [.int 17, .int x0]) lk_M131 lk_s131_28_2 rfl ?_
            refine lk_wp_ic_ne lk_i131_31 lk_M131 H (fun H => ?_) (fun H => ?_)
            · refine lk_wp_seg (lo' := [.int x0]) (st' := [.int 0]) lk_M131 lk_s131_38_1 rfl ?_
              exact lk_wp_ret lk_i131_39 lk_M131 rfl H
            · refine lk_wp_seg (lo' := [.int x0]) (st' := [.int 1]) lk_M131 lk_s131_34_2 rfl ?_
              exact lk_wp_ret lk_i131_39 lk_M131 rfl H
/-! LonelyDotsModel.isRoot(II)Z -/
theorem lk_M132 : lk_mt[132]? = some (yX12_isRoot, cX12_isRoot, 4, ((some FieldType.boolean))) := rfl
theorem lk_s132_0_7 : lk_seg 132 [(.iload_n 1, 1, (0, [], .null)), (.i2l, 1, (0, [], .null)), (.lconst 1, 1, (0, [], .long 1)), (.iload_n 0, 1, (0, [], .null)), (.iconst 1, 1, (0, [], .int (1))), (.isub, 1, (0, [], .null)), (.i2l, 1, (0, [], .null))] 0 = some 7 := by decide +kernel
theorem lk_i132_7 : lk_ins 132 7 = some (.invokestatic 60, 3, (0, [(0, 112)], .ref 80)) := lk_eqE_eq (by decide +kernel)
theorem lk_i132_10 : lk_ins 132 10 = some (.ifCond .ne 5, 3, (15, [], .null)) := lk_eqE_eq (by decide +kernel)
theorem lk_s132_15_4 : lk_seg 132 [(.iload_n 1, 1, (0, [], .null)), (.istore_n 2, 1, (0, [], .null)), (.iconst 1, 1, (0, [], .int (1))), (.istore_n 3, 1, (0, [], .null))] 15 = some 19 := by decide +kernel
theorem lk_s132_13_1 : lk_seg 132 [(.iconst 0, 1, (0, [], .int (0)))] 13 = some 14 := by decide +kernel
theorem lk_i132_14 : lk_ins 132 14 = some (.ireturn, 1, (0, [], .null)) := lk_eqE_eq (by decide +kernel)
theorem lk_s132_19_2 : lk_seg 132 [(.iload_n 2, 1, (0, [], .null)), (.iconst 1, 1, (0, [], .int (1)))] 19 = some 21 := by decide +kernel
theorem lk_i132_21 : lk_ins 132 21 = some (.if_icmp .eq 15, 3, (36, [], .null)) := lk_eqE_eq (by decide +kernel)
theorem lk_s132_36_4 : lk_seg 132 [(.iload_n 3, 1, (0, [], .null)), (.iload_n 0, 1, (0, [], .null)), (.iconst 1, 1, (0, [], .int (1))), (.isub, 1, (0, [], .null))] 36 = some 40 := by decide +kernel
theorem lk_i132_40 : lk_ins 132 40 = some (.if_icmp .ne 7, 3, (47, [], .null)) := lk_eqE_eq (by decide +kernel)
theorem lk_s132_47_1 : lk_seg 132 [(.iconst 0, 1, (0, [], .int (0)))] 47 = some 48 := by decide +kernel
theorem lk_i132_48 : lk_ins 132 48 = some (.ireturn, 1, (0, [], .null)) := lk_eqE_eq (by decide +kernel)
theorem lk_s132_43_2 : lk_seg 132 [(.iconst 1, 1, (0, [], .int (1))), (.goto 4, 3, (48, [], .null))] 43 = some 48 := by decide +kernel
theorem lk_s132_24_4 : lk_seg 132 [(.iload_n 2, 1, (0, [], .null)), (.iload_n 1, 1, (0, [], .null)), (.imul, 1, (0, [], .null)), (.iload_n 0, 1, (0, [], .null))] 24 = some 28 := by decide +kernel
theorem lk_i132_28 : lk_ins 132 28 = some (.irem, 1, (0, [], .null)) := lk_eqE_eq (by decide +kernel)
theorem lk_s132_29_3 : lk_seg 132 [(.istore_n 2, 1, (0, [], .null)), (.iinc 3 1, 3, (0, [], .int (1))), (.goto (-14), 3, (19, [], .null))] 29 = some 19 := by decide +kernel
set_option maxRecDepth 20000 in
theorem E_m_isRoot {X : lk_X} {d : Nat} {x0 x1 : Int32} {h : lk_H} {Q : Option Value → lk_H → Prop} (H : lk_wxi X d 112 [.long (x1.toInt64), .long 1, .long ((x0 - 1).toInt64)] h (fun r2 h1 => (¬ r2 = 0 → lk_wp X (d + 1) 132 19 [.int x0, .int x1, .int x1, .int 1] [] h1 Q) ∧ (r2 = 0 → Q (some (.int 0)) h1))) : lk_wx X (d + 1) 132 [.int x0, .int x1] h Q := by
  refine lk_enter (lo := [.int x0, .int x1, .retAddr 0, .retAddr 0]) lk_M132 rfl (Nat.le_of_ble_eq_true rfl) ?_
  refine lk_wp_seg (lo' := [.int x0, .int x1, .retAddr 0, .retAddr 0]) (st' := [.long ((x0 - 1).toInt64), .long 1, .long (x1.toInt64)]) lk_M132 lk_s132_0_7 rfl ?_
  refine lk_wp_cs (as := [.long (x1.toInt64), .long 1, .long ((x0 - 1).toInt64)]) (r := []) lk_i132_7 lk_M132 rfl rfl rfl rfl (Nat.le_of_ble_eq_true rfl) (lk_gi H (fun r2 h1 H => ?_))
  refine lk_wp_if_ne lk_i132_10 lk_M132 H (fun H => ?_) (fun H => ?_)
  · refine lk_wp_seg (lo' := [.int x0, .int x1, .int x1, .int 1]) (st' := []) lk_M132 lk_s132_15_4 rfl ?_
    exact H
  · refine lk_wp_seg (lo' := [.int x0, .int x1, .retAddr 0, .retAddr 0]) (st' := [.int 0]) lk_M132 lk_s132_13_1 rfl ?_
    exact lk_wp_ret lk_i132_14 lk_M132 rfl H
set_option maxRecDepth 20000 in
theorem F_m_isRoot_19 {X : lk_X} {d : Nat} {x0 x1 x2 x3 : Int32} {h : lk_H} {Q : Option Value → lk_H → Prop} (H : (x2 = 1 → (¬ x3 = (x0 - 1) → Q (some (.int 0)) h) ∧ (x3 = (x0 - 1) → Q (some (.int 1)) h)) ∧ (¬ x2 = 1 → ¬ x0 = 0 ∧ (lk_wp X (d + 1) 132 19 [.int x0, .int x1, .int ((x2 * x1) - (x2 * x1) / x0 * x0), .int (x3 + 1)] [] h Q))) : lk_wp X (d + 1) 132 19 [.int x0, .int x1, .int x2, .int x3] [] h Q := by
  refine lk_wp_seg (lo' := [.int x0, .int x1, .int x2, .int x3]) (st' := [.int 1, .int x2]) lk_M132 lk_s132_19_2 rfl ?_
  refine lk_wp_ic_eq lk_i132_21 lk_M132 H (fun H => ?_) (fun H => ?_)
  · refine lk_wp_seg (lo' := [.int x0, .int x1, .int x2, .int x3]) (st' := [.int (x0 - 1), .int x3]) lk_M132 lk_s132_36_4 rfl ?_
    refine lk_wp_ic_ne lk_i132_40 lk_M132 H (fun H => ?_) (fun H => ?_)
    · refine lk_wp_seg (lo' := [.int x0, .int x1, .int x2, .int x3]) (st' := [.int 0]) lk_M132 lk_s132_47_1 rfl ?_
      exact lk_wp_ret lk_i132_48 lk_M132 rfl H
    · refine lk_wp_seg (lo' := [.int x0, .int x1, .int x2, .int x3]) (st' := [.int 1]) lk_M132 lk_s132_43_2 rfl ?_
      exact lk_wp_ret lk_i132_48 lk_M132 rfl H
  · refine lk_wp_seg (lo' := [.int x0, .int x1, .int x2, .int x3]) (st' := [.int x0, .int (x2 * x1)]) lk_M132 lk_s132_24_4 rfl ?_
    refine lk_wp_rem lk_i132_28 lk_M132 H (fun H => ?_)
    refine lk_wp_seg (lo' := [.int x0, .int x1, .int ((x2 * x1) - (x2 * x1) / x0 * x0), .int (x3 + 1)]) (st' := []) lk_M132 lk_s132_29_3 rfl ?_
    exact H
/-! LonelyDotsModel.power(III)I -/
theorem lk_M133 : lk_mt[133]? = some (yX12_power, cX12_power, 5, ((some FieldType.int))) := rfl
theorem lk_s133_0_4 : lk_seg 133 [(.iconst 1, 1, (0, [], .int (1))), (.istore_n 3, 1, (0, [], .null)), (.iconst 0, 1, (0, [], .int (0))), (.istore 4, 2, (0, [], .null))] 0 = some 5 := by decide +kernel
theorem lk_s133_5_2 : lk_seg 133 [(.iload 4, 2, (0, [], .null)), (.iload_n 2, 1, (0, [], .null))] 5 = some 8 := by decide +kernel
theorem lk_i133_8 : lk_ins 133 8 = some (.if_icmp .ge 15, 3, (23, [], .null)) := lk_eqE_eq (by decide +kernel)
theorem lk_s133_23_1 : lk_seg 133 [(.iload_n 3, 1, (0, [], .null))] 23 = some 24 := by decide +kernel
theorem lk_i133_24 : lk_ins 133 24 = some (.ireturn, 1, (0, [], .null)) := lk_eqE_eq (by decide +kernel)
theorem lk_s133_11_4 : lk_seg 133 [(.iload_n 3, 1, (0, [], .null)), (.iload_n 1, 1, (0, [], .null)), (.imul, 1, (0, [], .null)), (.iload_n 0, 1, (0, [], .null))] 11 = some 15 := by decide +kernel
theorem lk_i133_15 : lk_ins 133 15 = some (.irem, 1, (0, [], .null)) := lk_eqE_eq (by decide +kernel)
theorem lk_s133_16_3 : lk_seg 133 [(.istore_n 3, 1, (0, [], .null)), (.iinc 4 1, 3, (0, [], .int (1))), (.goto (-15), 3, (5, [], .null))] 16 = some 5 := by decide +kernel
set_option maxRecDepth 20000 in
theorem E_m_power {X : lk_X} {d : Nat} {x0 x1 x2 : Int32} {h : lk_H} {Q : Option Value → lk_H → Prop} (H : lk_wp X (d + 1) 133 5 [.int x0, .int x1, .int x2, .int 1, .int 0] [] h Q) : lk_wx X (d + 1) 133 [.int x0, .int x1, .int x2] h Q := by
  refine lk_enter (lo := [.int x0, .int x1, .int x2, .retAddr 0, .retAddr 0]) lk_M133 rfl (Nat.le_of_ble_eq_true rfl) ?_
  refine lk_wp_seg (lo' := [.int x0, .int x1, .int x2, .int 1, .int 0]) (st' := []) lk_M133 lk_s133_0_4 rfl ?_
  exact H
set_option maxRecDepth 20000 in
theorem F_m_power_5 {X : lk_X} {d : Nat} {x0 x1 x2 x3 x4 : Int32} {h : lk_H} {Q : Option Value → lk_H → Prop} (H : (x2 ≤ x4 → Q (some (.int x3)) h) ∧ (¬ x2 ≤ x4 → ¬ x0 = 0 ∧ (lk_wp X (d + 1) 133 5 [.int x0, .int x1, .int x2, .int ((x3 * x1) - (x3 * x1) / x0 * x0), .int (x4 + 1)] [] h Q))) : lk_wp X (d + 1) 133 5 [.int x0, .int x1, .int x2, .int x3, .int x4] [] h Q := by
  refine lk_wp_seg (lo' := [.int x0, .int x1, .int x2, .int x3, .int x4]) (st' := [.int x2, .int x4]) lk_M133 lk_s133_5_2 rfl ?_
  refine lk_wp_ic_ge lk_i133_8 lk_M133 H (fun H => ?_) (fun H => ?_)
  · refine lk_wp_seg (lo' := [.int x0, .int x1, .int x2, .int x3, .int x4]) (st' := [.int x3]) lk_M133 lk_s133_23_1 rfl ?_
    exact lk_wp_ret lk_i133_24 lk_M133 rfl H
  · refine lk_wp_seg (lo' := [.int x0, .int x1, .int x2, .int x3, .int x4]) (st' := [.int x0, .int (x3 * x1)]) lk_M133 lk_s133_11_4 rfl ?_
    refine lk_wp_rem lk_i133_15 lk_M133 H (fun H => ?_)
    refine lk_wp_seg (lo' := [.int x0, .int x1, .int x2, .int ((x3 * x1) - (x3 * x1) / x0 * x0), .int (x4 + 1)]) (st' := []) lk_M133 lk_s133_16_3 rfl ?_
    exact H
/-! LonelyDotsModel.powers(IIII)I -/
theorem lk_M134 : lk_mt[134]? = some (yX12_powers, cX12_powers, 6, ((some FieldType.int))) := rfl
theorem lk_s134_0_1 : lk_seg 134 [(.iload_n 1, 1, (0, [], .null))] 0 = some 1 := by decide +kernel
theorem lk_i134_1 : lk_ins 134 1 = some (.invokestatic 100, 3, (0, [(0, 120)], .ref 89)) := lk_eqE_eq (by decide +kernel)
theorem lk_i134_4 : lk_ins 134 4 = some (.ifCond .eq 31, 3, (35, [], .null)) := lk_eqE_eq (by decide +kernel)
theorem lk_s134_35_1 : lk_seg 134 [(.ldc 70, 2, (0, [], .int (-1000001)))] 35 = some 37 := by decide +kernel
theorem lk_i134_37 : lk_ins 134 37 = some (.ireturn, 1, (0, [], .null)) := lk_eqE_eq (by decide +kernel)
theorem lk_s134_7_1 : lk_seg 134 [(.iload_n 2, 1, (0, [], .null))] 7 = some 8 := by decide +kernel
theorem lk_i134_8 : lk_ins 134 8 = some (.invokestatic 116, 3, (0, [(0, 131)], .ref 92)) := lk_eqE_eq (by decide +kernel)
theorem lk_i134_11 : lk_ins 134 11 = some (.ifCond .eq 24, 3, (35, [], .null)) := lk_eqE_eq (by decide +kernel)
theorem lk_s134_14_2 : lk_seg 134 [(.iload_n 2, 1, (0, [], .null)), (.iload_n 3, 1, (0, [], .null))] 14 = some 16 := by decide +kernel
theorem lk_i134_16 : lk_ins 134 16 = some (.invokestatic 119, 3, (0, [(0, 132)], .ref 93)) := lk_eqE_eq (by decide +kernel)
theorem lk_i134_19 : lk_ins 134 19 = some (.ifCond .eq 16, 3, (35, [], .null)) := lk_eqE_eq (by decide +kernel)
theorem lk_s134_22_4 : lk_seg 134 [(.iload 4, 2, (0, [], .null)), (.i2l, 1, (0, [], .null)), (.lconst 0, 1, (0, [], .long 0)), (.ldc2_w 123, 3, (0, [], .long (15)))] 22 = some 29 := by decide +kernel
theorem lk_i134_29 : lk_ins 134 29 = some (.invokestatic 60, 3, (0, [(0, 112)], .ref 80)) := lk_eqE_eq (by decide +kernel)
theorem lk_i134_32 : lk_ins 134 32 = some (.ifCond .ne 6, 3, (38, [], .null)) := lk_eqE_eq (by decide +kernel)
theorem lk_s134_38_1 : lk_seg 134 [(.aload_n 0, 1, (0, [], .null))] 38 = some 39 := by decide +kernel
theorem lk_i134_39 : lk_ins 134 39 = some (.getfield 25, 3, (5, [(11, 0)], .null)) := lk_eqE_eq (by decide +kernel)
theorem lk_s134_42_4 : lk_seg 134 [(.bipush 10, 2, (0, [], .int (10))), (.iload_n 2, 1, (0, [], .null)), (.iconst 1, 1, (0, [], .int (1))), (.isub, 1, (0, [], .null))] 42 = some 47 := by decide +kernel
theorem lk_i134_47 : lk_ins 134 47 = some (.iastore, 1, (0, [], .null)) := lk_eqE_eq (by decide +kernel)
theorem lk_s134_48_2 : lk_seg 134 [(.iconst 0, 1, (0, [], .int (0))), (.istore 5, 2, (0, [], .null))] 48 = some 51 := by decide +kernel
theorem lk_s134_51_4 : lk_seg 134 [(.iload 5, 2, (0, [], .null)), (.iload_n 2, 1, (0, [], .null)), (.iconst 1, 1, (0, [], .int (1))), (.isub, 1, (0, [], .null))] 51 = some 56 := by decide +kernel
theorem lk_i134_56 : lk_ins 134 56 = some (.if_icmp .ge 29, 3, (85, [], .null)) := lk_eqE_eq (by decide +kernel)
theorem lk_s134_85_3 : lk_seg 134 [(.aload_n 0, 1, (0, [], .null)), (.iload_n 1, 1, (0, [], .null)), (.iconst 1, 1, (0, [], .int (1)))] 85 = some 88 := by decide +kernel
theorem lk_i134_88 : lk_ins 134 88 = some (.invokevirtual 108, 3, (1, [(11, 127)], .ref 91)) := lk_eqE_eq (by decide +kernel)
theorem lk_i134_91 : lk_ins 134 91 = some (.ireturn, 1, (0, [], .null)) := lk_eqE_eq (by decide +kernel)
theorem lk_s134_59_9 : lk_seg 134 [(.aload_n 0, 1, (0, [], .null)), (.iload 5, 2, (0, [], .null)), (.iload_n 2, 1, (0, [], .null)), (.iload_n 3, 1, (0, [], .null)), (.iload 5, 2, (0, [], .null)), (.iload 4, 2, (0, [], .null)), (.iadd, 1, (0, [], .null)), (.iconst 1, 1, (0, [], .int (1))), (.iadd, 1, (0, [], .null))] 59 = some 71 := by decide +kernel
theorem lk_i134_71 : lk_ins 134 71 = some (.invokestatic 125, 3, (0, [(0, 133)], .ref 94)) := lk_eqE_eq (by decide +kernel)
theorem lk_s134_74_2 : lk_seg 134 [(.iconst 1, 1, (0, [], .int (1))), (.isub, 1, (0, [], .null))] 74 = some 76 := by decide +kernel
theorem lk_i134_76 : lk_ins 134 76 = some (.invokevirtual 105, 3, (1, [(11, 128)], .ref 90)) := lk_eqE_eq (by decide +kernel)
theorem lk_s134_79_2 : lk_seg 134 [(.iinc 5 1, 3, (0, [], .int (1))), (.goto (-31), 3, (51, [], .null))] 79 = some 51 := by decide +kernel
set_option maxRecDepth 20000 in
theorem E_m_powers {X : lk_X} {d : Nat} {x1 x2 x3 x4 : Int32} {a0 : Nat} {h : lk_H} {Q : Option Value → lk_H → Prop} (H : lk_wxi X d 120 [.int x1] h (fun r2 h1 => (r2 = 0 → Q (some (.int ((-1000001)))) h1) ∧ (¬ r2 = 0 → lk_wxi X d 131 [.int x2] h1 (fun r4 h3 => (r4 = 0 → Q (some (.int ((-1000001)))) h3) ∧ (¬ r4 = 0 → lk_wxi X d 132 [.int x2, .int x3] h3 (fun r6 h5 => (r6 = 0 → Q (some (.int ((-1000001)))) h5) ∧ (¬ r6 = 0 → lk_wxi X d 112 [.long (x4.toInt64), .long 0, .long 15] h5 (fun r8 h7 => (¬ r8 = 0 → lk_fR h7 a0 5 [(11, 0)] (fun r9 => lk_as h7 r9 10 (x2 - 1) (fun h10 => lk_wp X (d + 1) 134 51 [.ref a0, .int x1, .int x2, .int x3, .int x4, .int 0] [] h10 Q))) ∧ (r8 = 0 → Q (some (.int ((-1000001)))) h7))))))))) : lk_wx X (d + 1) 134 [.ref a0, .int x1, .int x2, .int x3, .int x4] h Q := by
  refine lk_enter (lo := [.ref a0, .int x1, .int x2, .int x3, .int x4, .retAddr 0]) lk_M134 rfl (Nat.le_of_ble_eq_true rfl) ?_
  refine lk_wp_seg (lo' := [.ref a0, .int x1, .int x2, .int x3, .int x4, .retAddr 0]) (st' := [.int x1]) lk_M134 lk_s134_0_1 rfl ?_
  refine lk_wp_cs (as := [.int x1]) (r := []) lk_i134_1 lk_M134 rfl rfl rfl rfl (Nat.le_of_ble_eq_true rfl) (lk_gi H (fun r2 h1 H => ?_))
  refine lk_wp_if_eq lk_i134_4 lk_M134 H (fun H => ?_) (fun H => ?_)
  · refine lk_wp_seg (lo' := [.ref a0, .int x1, .int x2, .int x3, .int x4, .retAddr 0]) (st' := [.int ((-1000001))]) lk_M134 lk_s134_35_1 rfl ?_
    exact lk_wp_ret lk_i134_37 lk_M134 rfl H
  · refine lk_wp_seg (lo' := [.ref a0, .int x1, .int x2, .int x3, .int x4, .retAddr 0]) (st' := [.int x2]) lk_M134 lk_s134_7_1 rfl ?_
    refine lk_wp_cs (as := [.int x2]) (r := []) lk_i134_8 lk_M134 rfl rfl rfl rfl (Nat.le_of_ble_eq_true rfl) (lk_gi H (fun r4 h3 H => ?_))
    refine lk_wp_if_eq lk_i134_11 lk_M134 H (fun H => ?_) (fun H => ?_)
    · refine lk_wp_seg (lo' := [.ref a0, .int x1, .int x2, .int x3, .int x4, .retAddr 0]) (st' := [.int ((-1000001))]) lk_M134 lk_s134_35_1 rfl ?_
      exact lk_wp_ret lk_i134_37 lk_M134 rfl H
    · refine lk_wp_seg (lo' := [.ref a0, .int x1, .int x2, .int x3, .int x4, .retAddr 0]) (st' := [.int x3, .int x2]) lk_M134 lk_s134_14_2 rfl ?_
      refine lk_wp_cs (as := [.int x2, .int x3]) (r := []) lk_i134_16 lk_M134 rfl rfl rfl rfl (Nat.le_of_ble_eq_true rfl) (lk_gi H (fun r6 h5 H => ?_))
      refine lk_wp_if_eq lk_i134_19 lk_M134 H (fun H => ?_) (fun H => ?_)
      · refine lk_wp_seg (lo' := [.ref a0, .int x1, .int x2, .int x3, .int x4, .retAddr 0]) (st' := [.int ((-1000001))]) lk_M134 lk_s134_35_1 rfl ?_
        exact lk_wp_ret lk_i134_37 lk_M134 rfl H
      · refine lk_wp_seg (lo' := [.ref a0, .int x1, .int x2, .int x3, .int x4, .retAddr 0]) (st' := [.long 15, .long 0, .long (x4.toInt64)]) lk_M134 lk_s134_22_4 rfl ?_
        refine lk_wp_cs (as := [.long (x4.toInt64), .long 0, .long 15]) (r := []) lk_i134_29 lk_M134 rfl rfl rfl rfl (Nat.le_of_ble_eq_true rfl) (lk_gi H (fun r8 h7 H => ?_))
        refine lk_wp_if_ne lk_i134_32 lk_M134 H (fun H => ?_) (fun H => ?_)
        · refine lk_wp_seg (lo' := [.ref a0, .int x1, .int x2, .int x3, .int x4, .retAddr 0]) (st' := [.ref a0]) lk_M134 lk_s134_38_1 rfl ?_
          refine lk_wp_fR lk_i134_39 lk_M134 H (fun r9 H => ?_)
          refine lk_wp_seg (lo' := [.ref a0, .int x1, .int x2, .int x3, .int x4, .retAddr 0]) (st' := [.int (x2 - 1), .int 10, .ref r9]) lk_M134 lk_s134_42_4 rfl ?_
          refine lk_wp_as lk_i134_47 lk_M134 H (fun h10 H => ?_)
          refine lk_wp_seg (lo' := [.ref a0, .int x1, .int x2, .int x3, .int x4, .int 0]) (st' := []) lk_M134 lk_s134_48_2 rfl ?_
          exact H
        · refine lk_wp_seg (lo' := [.ref a0, .int x1, .int x2, .int x3, .int x4, .retAddr 0]) (st' := [.int ((-1000001))]) lk_M134 lk_s134_35_1 rfl ?_
          exact lk_wp_ret lk_i134_37 lk_M134 rfl H
set_option maxRecDepth 20000 in
theorem F_m_powers_51 {X : lk_X} {d : Nat} {x1 x2 x3 x4 x5 : Int32} {a0 : Nat} {h : lk_H} {Q : Option Value → lk_H → Prop} (H : ((x2 - 1) ≤ x5 → lk_vc h a0 [(11, 127)] (fun k3 => lk_wxi X d k3 [.ref a0, .int x1, .int 1] h (fun r2 h1 => Q (some (.int r2)) h1))) ∧ (¬ (x2 - 1) ≤ x5 → lk_wxi X d 133 [.int x2, .int x3, .int ((x5 + x4) + 1)] h (fun r5 h4 => lk_vc h4 a0 [(11, 128)] (fun k7 => lk_wxv X d k7 [.ref a0, .int x5, .int (r5 - 1)] h4 (fun h6 => lk_wp X (d + 1) 134 51 [.ref a0, .int x1, .int x2, .int x3, .int x4, .int (x5 + 1)] [] h6 Q))))) : lk_wp X (d + 1) 134 51 [.ref a0, .int x1, .int x2, .int x3, .int x4, .int x5] [] h Q := by
  refine lk_wp_seg (lo' := [.ref a0, .int x1, .int x2, .int x3, .int x4, .int x5]) (st' := [.int (x2 - 1), .int x5]) lk_M134 lk_s134_51_4 rfl ?_
  refine lk_wp_ic_ge lk_i134_56 lk_M134 H (fun H => ?_) (fun H => ?_)
  · refine lk_wp_seg (lo' := [.ref a0, .int x1, .int x2, .int x3, .int x4, .int x5]) (st' := [.int 1, .int x1, .ref a0]) lk_M134 lk_s134_85_3 rfl ?_
    refine lk_wp_cv (as := [.int x1, .int 1]) (r := []) (a := a0) lk_i134_88 lk_M134 rfl rfl rfl (Nat.le_of_ble_eq_true rfl) H (fun k3 H => lk_gi H (fun r2 h1 H => ?_))
    exact lk_wp_ret lk_i134_91 lk_M134 rfl H
  · refine lk_wp_seg (lo' := [.ref a0, .int x1, .int x2, .int x3, .int x4, .int x5]) (st' := [.int ((x5 + x4) + 1), .int x3, .int x2, .int x5, .ref a0]) lk_M134 lk_s134_59_9 rfl ?_
    refine lk_wp_cs (as := [.int x2, .int x3, .int ((x5 + x4) + 1)]) (r := [.int x5, .ref a0]) lk_i134_71 lk_M134 rfl rfl rfl rfl (Nat.le_of_ble_eq_true rfl) (lk_gi H (fun r5 h4 H => ?_))
    refine lk_wp_seg (lo' := [.ref a0, .int x1, .int x2, .int x3, .int x4, .int x5]) (st' := [.int (r5 - 1), .int x5, .ref a0]) lk_M134 lk_s134_74_2 rfl ?_
    refine lk_wp_cv (as := [.int x5, .int (r5 - 1)]) (r := []) (a := a0) lk_i134_76 lk_M134 rfl rfl rfl (Nat.le_of_ble_eq_true rfl) H (fun k7 H => lk_gv H (fun h6 H => ?_))
    refine lk_wp_seg (lo' := [.ref a0, .int x1, .int x2, .int x3, .int x4, .int (x5 + 1)]) (st' := []) lk_M134 lk_s134_79_2 rfl ?_
    exact H
/-! LonelyDotsModel.sums(IIII)I -/
theorem lk_M135 : lk_mt[135]? = some (yX12_sums, cX12_sums, 7, ((some FieldType.int))) := rfl
theorem lk_s135_0_1 : lk_seg 135 [(.iload_n 1, 1, (0, [], .null))] 0 = some 1 := by decide +kernel
theorem lk_i135_1 : lk_ins 135 1 = some (.invokestatic 100, 3, (0, [(0, 120)], .ref 89)) := lk_eqE_eq (by decide +kernel)
theorem lk_i135_4 : lk_ins 135 4 = some (.ifCond .eq 32, 3, (36, [], .null)) := lk_eqE_eq (by decide +kernel)
theorem lk_s135_36_1 : lk_seg 135 [(.ldc 70, 2, (0, [], .int (-1000001)))] 36 = some 38 := by decide +kernel
theorem lk_i135_38 : lk_ins 135 38 = some (.ireturn, 1, (0, [], .null)) := lk_eqE_eq (by decide +kernel)
theorem lk_s135_7_1 : lk_seg 135 [(.iload_n 2, 1, (0, [], .null))] 7 = some 8 := by decide +kernel
theorem lk_i135_8 : lk_ins 135 8 = some (.invokestatic 116, 3, (0, [(0, 131)], .ref 92)) := lk_eqE_eq (by decide +kernel)
theorem lk_i135_11 : lk_ins 135 11 = some (.ifCond .eq 25, 3, (36, [], .null)) := lk_eqE_eq (by decide +kernel)
theorem lk_s135_14_2 : lk_seg 135 [(.iload_n 2, 1, (0, [], .null)), (.iconst 5, 1, (0, [], .int (5)))] 14 = some 16 := by decide +kernel
theorem lk_i135_16 : lk_ins 135 16 = some (.if_icmp .lt 20, 3, (36, [], .null)) := lk_eqE_eq (by decide +kernel)
theorem lk_s135_19_2 : lk_seg 135 [(.iload_n 2, 1, (0, [], .null)), (.iload_n 3, 1, (0, [], .null))] 19 = some 21 := by decide +kernel
theorem lk_i135_21 : lk_ins 135 21 = some (.invokestatic 119, 3, (0, [(0, 132)], .ref 93)) := lk_eqE_eq (by decide +kernel)
theorem lk_i135_24 : lk_ins 135 24 = some (.ifCond .eq 12, 3, (36, [], .null)) := lk_eqE_eq (by decide +kernel)
theorem lk_s135_27_2 : lk_seg 135 [(.iload_n 2, 1, (0, [], .null)), (.iload 4, 2, (0, [], .null))] 27 = some 30 := by decide +kernel
theorem lk_i135_30 : lk_ins 135 30 = some (.invokestatic 119, 3, (0, [(0, 132)], .ref 93)) := lk_eqE_eq (by decide +kernel)
theorem lk_i135_33 : lk_ins 135 33 = some (.ifCond .ne 6, 3, (39, [], .null)) := lk_eqE_eq (by decide +kernel)
theorem lk_s135_39_1 : lk_seg 135 [(.aload_n 0, 1, (0, [], .null))] 39 = some 40 := by decide +kernel
theorem lk_i135_40 : lk_ins 135 40 = some (.getfield 25, 3, (5, [(11, 0)], .null)) := lk_eqE_eq (by decide +kernel)
theorem lk_s135_43_4 : lk_seg 135 [(.bipush 10, 2, (0, [], .int (10))), (.iload_n 2, 1, (0, [], .null)), (.iconst 2, 1, (0, [], .int (2))), (.isub, 1, (0, [], .null))] 43 = some 48 := by decide +kernel
theorem lk_i135_48 : lk_ins 135 48 = some (.iastore, 1, (0, [], .null)) := lk_eqE_eq (by decide +kernel)
theorem lk_s135_49_2 : lk_seg 135 [(.iconst 1, 1, (0, [], .int (1))), (.istore 5, 2, (0, [], .null))] 49 = some 52 := by decide +kernel
theorem lk_s135_52_4 : lk_seg 135 [(.iload 5, 2, (0, [], .null)), (.iload_n 2, 1, (0, [], .null)), (.iconst 1, 1, (0, [], .int (1))), (.isub, 1, (0, [], .null))] 52 = some 57 := by decide +kernel
theorem lk_i135_57 : lk_ins 135 57 = some (.if_icmp .ge 60, 3, (117, [], .null)) := lk_eqE_eq (by decide +kernel)
theorem lk_s135_117_3 : lk_seg 135 [(.aload_n 0, 1, (0, [], .null)), (.iload_n 1, 1, (0, [], .null)), (.iconst 1, 1, (0, [], .int (1)))] 117 = some 120 := by decide +kernel
theorem lk_i135_120 : lk_ins 135 120 = some (.invokevirtual 108, 3, (1, [(11, 127)], .ref 91)) := lk_eqE_eq (by decide +kernel)
theorem lk_i135_123 : lk_ins 135 123 = some (.ireturn, 1, (0, [], .null)) := lk_eqE_eq (by decide +kernel)
theorem lk_s135_60_2 : lk_seg 135 [(.iconst 1, 1, (0, [], .int (1))), (.istore 6, 2, (0, [], .null))] 60 = some 63 := by decide +kernel
theorem lk_s135_63_4 : lk_seg 135 [(.iload 6, 2, (0, [], .null)), (.iload_n 2, 1, (0, [], .null)), (.iconst 1, 1, (0, [], .int (1))), (.isub, 1, (0, [], .null))] 63 = some 68 := by decide +kernel
theorem lk_i135_68 : lk_ins 135 68 = some (.if_icmp .ge 43, 3, (111, [], .null)) := lk_eqE_eq (by decide +kernel)
theorem lk_s135_111_2 : lk_seg 135 [(.iinc 5 1, 3, (0, [], .int (1))), (.goto (-62), 3, (52, [], .null))] 111 = some 52 := by decide +kernel
theorem lk_s135_71_3 : lk_seg 135 [(.iload_n 2, 1, (0, [], .null)), (.iload_n 3, 1, (0, [], .null)), (.iload 5, 2, (0, [], .null))] 71 = some 75 := by decide +kernel
theorem lk_i135_75 : lk_ins 135 75 = some (.invokestatic 125, 3, (0, [(0, 133)], .ref 94)) := lk_eqE_eq (by decide +kernel)
theorem lk_s135_78_3 : lk_seg 135 [(.iload_n 2, 1, (0, [], .null)), (.iload 4, 2, (0, [], .null)), (.iload 6, 2, (0, [], .null))] 78 = some 83 := by decide +kernel
theorem lk_i135_83 : lk_ins 135 83 = some (.invokestatic 125, 3, (0, [(0, 133)], .ref 94)) := lk_eqE_eq (by decide +kernel)
theorem lk_s135_86_2 : lk_seg 135 [(.iadd, 1, (0, [], .null)), (.iload_n 2, 1, (0, [], .null))] 86 = some 88 := by decide +kernel
theorem lk_i135_88 : lk_ins 135 88 = some (.irem, 1, (0, [], .null)) := lk_eqE_eq (by decide +kernel)
theorem lk_s135_89_1 : lk_seg 135 [(.iconst 1, 1, (0, [], .int (1)))] 89 = some 90 := by decide +kernel
theorem lk_i135_90 : lk_ins 135 90 = some (.if_icmp .ne 15, 3, (105, [], .null)) := lk_eqE_eq (by decide +kernel)
theorem lk_s135_105_2 : lk_seg 135 [(.iinc 6 1, 3, (0, [], .int (1))), (.goto (-45), 3, (63, [], .null))] 105 = some 63 := by decide +kernel
theorem lk_s135_93_7 : lk_seg 135 [(.aload_n 0, 1, (0, [], .null)), (.iload 5, 2, (0, [], .null)), (.iconst 1, 1, (0, [], .int (1))), (.isub, 1, (0, [], .null)), (.iload 6, 2, (0, [], .null)), (.iconst 1, 1, (0, [], .int (1))), (.isub, 1, (0, [], .null))] 93 = some 102 := by decide +kernel
theorem lk_i135_102 : lk_ins 135 102 = some (.invokevirtual 105, 3, (1, [(11, 128)], .ref 90)) := lk_eqE_eq (by decide +kernel)
set_option maxRecDepth 20000 in
theorem E_m_sums {X : lk_X} {d : Nat} {x1 x2 x3 x4 : Int32} {a0 : Nat} {h : lk_H} {Q : Option Value → lk_H → Prop} (H : lk_wxi X d 120 [.int x1] h (fun r2 h1 => (r2 = 0 → Q (some (.int ((-1000001)))) h1) ∧ (¬ r2 = 0 → lk_wxi X d 131 [.int x2] h1 (fun r4 h3 => (r4 = 0 → Q (some (.int ((-1000001)))) h3) ∧ (¬ r4 = 0 → (x2 < 5 → Q (some (.int ((-1000001)))) h3) ∧ (¬ x2 < 5 → lk_wxi X d 132 [.int x2, .int x3] h3 (fun r6 h5 => (r6 = 0 → Q (some (.int ((-1000001)))) h5) ∧ (¬ r6 = 0 → lk_wxi X d 132 [.int x2, .int x4] h5 (fun r8 h7 => (¬ r8 = 0 → lk_fR h7 a0 5 [(11, 0)] (fun r9 => lk_as h7 r9 10 (x2 - 2) (fun h10 => lk_wp X (d + 1) 135 52 [.ref a0, .int x1, .int x2, .int x3, .int x4, .int 1, .retAddr 0] [] h10 Q))) ∧ (r8 = 0 → Q (some (.int ((-1000001)))) h7)))))))))) : lk_wx X (d + 1) 135 [.ref a0, .int x1, .int x2, .int x3, .int x4] h Q := by
  refine lk_enter (lo := [.ref a0, .int x1, .int x2, .int x3, .int x4, .retAddr 0, .retAddr 0]) lk_M135 rfl (Nat.le_of_ble_eq_true rfl) ?_
  refine lk_wp_seg (lo' := [.ref a0, .int x1, .int x2, .int x3, .int x4, .retAddr 0, .retAddr 0]) (st' := [.int x1]) lk_M135 lk_s135_0_1 rfl ?_
  refine lk_wp_cs (as := [.int x1]) (r := []) lk_i135_1 lk_M135 rfl rfl rfl rfl (Nat.le_of_ble_eq_true rfl) (lk_gi H (fun r2 h1 H => ?_))
  refine lk_wp_if_eq lk_i135_4 lk_M135 H (fun H => ?_) (fun H => ?_)
  · refine lk_wp_seg (lo' := [.ref a0, .int x1, .int x2, .int x3, .int x4, .retAddr 0, .retAddr 0]) (st' := [.int ((-1000001))]) lk_M135 lk_s135_36_1 rfl ?_
    exact lk_wp_ret lk_i135_38 lk_M135 rfl H
  · refine lk_wp_seg (lo' := [.ref a0, .int x1, .int x2, .int x3, .int x4, .retAddr 0, .retAddr 0]) (st' := [.int x2]) lk_M135 lk_s135_7_1 rfl ?_
    refine lk_wp_cs (as := [.int x2]) (r := []) lk_i135_8 lk_M135 rfl rfl rfl rfl (Nat.le_of_ble_eq_true rfl) (lk_gi H (fun r4 h3 H => ?_))
    refine lk_wp_if_eq lk_i135_11 lk_M135 H (fun H => ?_) (fun H => ?_)
    · refine lk_wp_seg (lo' := [.ref a0, .int x1, .int x2, .int x3, .int x4, .retAddr 0, .retAddr 0]) (st' := [.int ((-1000001))]) lk_M135 lk_s135_36_1 rfl ?_
      exact lk_wp_ret lk_i135_38 lk_M135 rfl H
    · refine lk_wp_seg (lo' := [.ref a0, .int x1, .int x2, .int x3, .int x4, .retAddr 0, .retAddr 0]) (st' := [.int 5, .int x2]) lk_M135 lk_s135_14_2 rfl ?_
      refine lk_wp_ic_lt lk_i135_16 lk_M135 H (fun H => ?_) (fun H => ?_)
      · refine lk_wp_seg (lo' := [.ref a0, .int x1, .int x2, .int x3, .int x4, .retAddr 0, .retAddr 0]) (st' := [.int ((-1000001))]) lk_M135 lk_s135_36_1 rfl ?_
        exact lk_wp_ret lk_i135_38 lk_M135 rfl H
      · refine lk_wp_seg (lo' := [.ref a0, .int x1, .int x2, .int x3, .int x4, .retAddr 0, .retAddr 0]) (st' := [.int x3, .int x2]) lk_M135 lk_s135_19_2 rfl ?_
        refine lk_wp_cs (as := [.int x2, .int x3]) (r := []) lk_i135_21 lk_M135 rfl rfl rfl rfl (Nat.le_of_ble_eq_true rfl) (lk_gi H (fun r6 h5 H => ?_))
        refine lk_wp_if_eq lk_i135_24 lk_M135 H (fun H => ?_) (fun H => ?_)
        · refine lk_wp_seg (lo' := [.ref a0, .int x1, .int x2, .int x3, .int x4, .retAddr 0, .retAddr 0]) (st' := [.int ((-1000001))]) lk_M135 lk_s135_36_1 rfl ?_
          exact lk_wp_ret lk_i135_38 lk_M135 rfl H
        · refine lk_wp_seg (lo' := [.ref a0, .int x1, .int x2, .int x3, .int x4, .retAddr 0, .retAddr 0]) (st' := [.int x4, .int x2]) lk_M135 lk_s135_27_2 rfl ?_
          refine lk_wp_cs (as := [.int x2, .int x4]) (r := []) lk_i135_30 lk_M135 rfl rfl rfl rfl (Nat.le_of_ble_eq_true rfl) (lk_gi H (fun r8 h7 H => ?_))
          refine lk_wp_if_ne lk_i135_33 lk_M135 H (fun H => ?_) (fun H => ?_)
          · refine lk_wp_seg (lo' := [.ref a0, .int x1, .int x2, .int x3, .int x4, .retAddr 0, .retAddr 0]) (st' := [.ref a0]) lk_M135 lk_s135_39_1 rfl ?_
            refine lk_wp_fR lk_i135_40 lk_M135 H (fun r9 H => ?_)
            refine lk_wp_seg (lo' := [.ref a0, .int x1, .int x2, .int x3, .int x4, .retAddr 0, .retAddr 0]) (st' := [.int (x2 - 2), .int 10, .ref r9]) lk_M135 lk_s135_43_4 rfl ?_
            refine lk_wp_as lk_i135_48 lk_M135 H (fun h10 H => ?_)
            refine lk_wp_seg (lo' := [.ref a0, .int x1, .int x2, .int x3, .int x4, .int 1, .retAddr 0]) (st' := []) lk_M135 lk_s135_49_2 rfl ?_
            exact H
          · refine lk_wp_seg (lo' := [.ref a0, .int x1, .int x2, .int x3, .int x4, .retAddr 0, .retAddr 0]) (st' := [.int ((-1000001))]) lk_M135 lk_s135_36_1 rfl ?_
            exact lk_wp_ret lk_i135_38 lk_M135 rfl H
set_option maxRecDepth 20000 in
theorem F_m_sums_52 {X : lk_X} {d : Nat} {x1 x2 x3 x4 x5 : Int32} {a0 : Nat} {h : lk_H} {Q : Option Value → lk_H → Prop} (H : ((x2 - 1) ≤ x5 → lk_vc h a0 [(11, 127)] (fun k3 => lk_wxi X d k3 [.ref a0, .int x1, .int 1] h (fun r2 h1 => Q (some (.int r2)) h1))) ∧ (¬ (x2 - 1) ≤ x5 → lk_wp X (d + 1) 135 63 [.ref a0, .int x1, .int x2, .int x3, .int x4, .int x5, .int 1] [] h Q)) : lk_wp X (d + 1) 135 52 [.ref a0, .int x1, .int x2, .int x3, .int x4, .int x5, .retAddr 0] [] h Q := by
  refine lk_wp_seg (lo' := [.ref a0, .int x1, .int x2, .int x3, .int x4, .int x5, .retAddr 0]) (st' := [.int (x2 - 1), .int x5]) lk_M135 lk_s135_52_4 rfl ?_
  refine lk_wp_ic_ge lk_i135_57 lk_M135 H (fun H => ?_) (fun H => ?_)
  · refine lk_wp_seg (lo' := [.ref a0, .int x1, .int x2, .int x3, .int x4, .int x5, .retAddr 0]) (st' := [.int 1, .int x1, .ref a0]) lk_M135 lk_s135_117_3 rfl ?_
    refine lk_wp_cv (as := [.int x1, .int 1]) (r := []) (a := a0) lk_i135_120 lk_M135 rfl rfl rfl (Nat.le_of_ble_eq_true rfl) H (fun k3 H => lk_gi H (fun r2 h1 H => ?_))
    exact lk_wp_ret lk_i135_123 lk_M135 rfl H
  · refine lk_wp_seg (lo' := [.ref a0, .int x1, .int x2, .int x3, .int x4, .int x5, .int 1]) (st' := []) lk_M135 lk_s135_60_2 rfl ?_
    exact H
set_option maxRecDepth 20000 in
theorem F_m_sums_63 {X : lk_X} {d : Nat} {x1 x2 x3 x4 x5 x6 : Int32} {a0 : Nat} {h : lk_H} {Q : Option Value → lk_H → Prop} (H : ((x2 - 1) ≤ x6 → lk_wp X (d + 1) 135 52 [.ref a0, .int x1, .int x2, .int x3, .int x4, .int (x5 + 1), .retAddr 0] [] h Q) ∧ (¬ (x2 - 1) ≤ x6 → lk_wxi X d 133 [.int x2, .int x3, .int x5] h (fun r2 h1 => lk_wxi X d 133 [.int x2, .int x4, .int x6] h1 (fun r4 h3 => ¬ x2 = 0 ∧ ((¬ ((r2 + r4) - (r2 + r4) / x2 * x2) = 1 → lk_wp X (d + 1) 135 63 [.ref a0, .int x1, .int x2, .int x3, .int x4, .int x5, .int (x6 + 1)] [] h3 Q) ∧ (((r2 + r4) - (r2 + r4) / x2 * x2) = 1 → lk_vc h3 a0 [(11, 128)] (fun k6 => lk_wxv X d k6 [.ref a0, .int (x5 - 1), .int (x6 - 1)] h3 (fun h5 => lk_wp X (d + 1) 135 63 [.ref a0, .int x1, .int x2, .int x3, .int x4, .int x5, .int (x6 + 1)] [] h5 Q)))))))) : lk_wp X (d + 1) 135 63 [.ref a0, .int x1, .int x2, .int x3, .int x4, .int x5, .int x6] [] h Q := by
  refine lk_wp_seg (lo' := [.ref a0, .int x1, .int x2, .int x3, .int x4, .int x5, .int x6]) (st' := [.int (x2 - 1), .int x6]) lk_M135 lk_s135_63_4 rfl ?_
  refine lk_wp_ic_ge lk_i135_68 lk_M135 H (fun H => ?_) (fun H => ?_)
  · refine lk_wp_seg (lo' := [.ref a0, .int x1, .int x2, .int x3, .int x4, .int (x5 + 1), .int x6]) (st' := []) lk_M135 lk_s135_111_2 rfl ?_
    exact H.forget (lk_le_s (lk_le_s (lk_le_s (lk_le_s (lk_le_s (lk_le_s (lk_le_d lk_le_n)))))))
  · refine lk_wp_seg (lo' := [.ref a0, .int x1, .int x2, .int x3, .int x4, .int x5, .int x6]) (st' := [.int x5, .int x3, .int x2]) lk_M135 lk_s135_71_3 rfl ?_
    refine lk_wp_cs (as := [.int x2, .int x3, .int x5]) (r := []) lk_i135_75 lk_M135 rfl rfl rfl rfl (Nat.le_of_ble_eq_true rfl) (lk_gi H (fun r2 h1 H => ?_))
    refine lk_wp_seg (lo' := [.ref a0, .int x1, .int x2, .int x3, .int x4, .int x5, .int x6]) (st' := [.int x6, .int x4, .int x2, .int r2]) lk_M135 lk_s135_78_3 rfl ?_
    refine lk_wp_cs (as := [.int x2, .int x4, .int x6]) (r := [.int r2]) lk_i135_83 lk_M135 rfl rfl rfl rfl (Nat.le_of_ble_eq_true rfl) (lk_gi H (fun r4 h3 H => ?_))
    refine lk_wp_seg (lo' := [.ref a0, .int x1, .int x2, .int x3, .int x4, .int x5, .int x6]) (st' := [.int x2, .int (r2 + r4)]) lk_M135 lk_s135_86_2 rfl ?_
    refine lk_wp_rem lk_i135_88 lk_M135 H (fun H => ?_)
    refine lk_wp_seg (lo' := [.ref a0, .int x1, .int x2, .int x3, .int x4, .int x5, .int x6]) (st' := [.int 1, .int ((r2 + r4) - (r2 + r4) / x2 * x2)]) lk_M135 lk_s135_89_1 rfl ?_
    refine lk_wp_ic_ne lk_i135_90 lk_M135 H (fun H => ?_) (fun H => ?_)
    · refine lk_wp_seg (lo' := [.ref a0, .int x1, .int x2, .int x3, .int x4, .int x5, .int (x6 + 1)]) (st' := []) lk_M135 lk_s135_105_2 rfl ?_
      exact H
    · refine lk_wp_seg (lo' := [.ref a0, .int x1, .int x2, .int x3, .int x4, .int x5, .int x6]) (st' := [.int (x6 - 1), .int (x5 - 1), .ref a0]) lk_M135 lk_s135_93_7 rfl ?_
      refine lk_wp_cv (as := [.int (x5 - 1), .int (x6 - 1)]) (r := []) (a := a0) lk_i135_102 lk_M135 rfl rfl rfl (Nat.le_of_ble_eq_true rfl) H (fun k6 H => lk_gv H (fun h5 H => ?_))
      refine lk_wp_seg (lo' := [.ref a0, .int x1, .int x2, .int x3, .int x4, .int x5, .int (x6 + 1)]) (st' := []) lk_M135 lk_s135_105_2 rfl ?_
      exact H
