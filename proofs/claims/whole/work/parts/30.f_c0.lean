theorem lk_le_n : lk_le [] [] := ⟨rfl, fun k v h => by cases h⟩
theorem lk_le_s {v : Value} {a b : List Value} (h : lk_le a b) : lk_le (v :: a) (v :: b) := ⟨by simp [h.1], fun k w hk => by
  cases k with
  | zero => exact Or.inr hk
  | succ k => exact h.2 k w hk⟩
theorem lk_le_d {w : Value} {a b : List Value} (h : lk_le a b) : lk_le (.retAddr 0 :: a) (w :: b) := ⟨by simp [h.1], fun k u hk => by
  cases k with
  | zero => cases hk; exact Or.inl rfl
  | succ k => exact h.2 k u hk⟩
theorem lk_wp_retz {X : lk_X} {d j pc : Nat} {lo : List Value} {h : lk_H} {Q : Option Value → lk_H → Prop} {len : Nat} {inf : lk_I} {M : lk_M} {x : Int32} (hi : lk_ins j pc = some (.ireturn, len, inf)) (hM : lk_mt[j]? = some M) (hr : M.2.2.2 = some .boolean) (H : (x = 0 ∨ x = 1) ∧ Q (some (.int x)) h) : lk_wp X d j pc lo [.int x] h Q := by
  refine lk_wp_ret (v := some (.int x)) hi hM ?_ H.2
  unfold lk_ret
  rw [hr]
  exact if_pos H.1
/-! LonelyDots$Lonely.<init>([I)V -/
theorem lk_M0 : lk_mt[0]? = some (yX0_init, cX0_init, 2, ((none))) := rfl
theorem lk_s0_0_2 : lk_seg 0 [(.aload_n 0, 1, (0, [], .null)), (.aload_n 1, 1, (0, [], .null))] 0 = some 2 := by decide +kernel
theorem lk_i0_2 : lk_ins 0 2 = some (.invokespecial 3, 3, (3, [(0, 27)], .ref 0)) := lk_eqE_eq (by decide +kernel)
theorem lk_i0_5 : lk_ins 0 5 = some (.return_, 1, (0, [], .null)) := lk_eqE_eq (by decide +kernel)
set_option maxRecDepth 20000 in
theorem E_l_init {X : lk_X} {d : Nat} {a0 a1 : Nat} {h : lk_H} {Q : Option Value → lk_H → Prop} (H : lk_ob h a0 (lk_wxv X d 27 [.ref a0, .ref a1] h (fun h1 => Q none h1))) : lk_wx X (d + 1) 0 [.ref a0, .ref a1] h Q := by
  refine lk_enter (lo := [.ref a0, .ref a1]) lk_M0 rfl (Nat.le_of_ble_eq_true rfl) ?_
  refine lk_wp_seg (lo' := [.ref a0, .ref a1]) (st' := [.ref a1, .ref a0]) lk_M0 lk_s0_0_2 rfl ?_
  refine lk_wp_cp (as := [.ref a1]) (r := []) (a := a0) lk_i0_2 lk_M0 rfl rfl rfl rfl (Nat.le_of_ble_eq_true rfl) H (fun H => lk_gv H (fun h1 H => ?_))
  exact lk_wp_ret lk_i0_5 lk_M0 rfl H
/-! LonelyDots$Lonely.toldKind()I -/
theorem lk_M1 : lk_mt[1]? = some (yX0_toldKind, cX0_toldKind, 1, ((some FieldType.int))) := rfl
theorem lk_s1_0_1 : lk_seg 1 [(.iconst 2, 1, (0, [], .int (2)))] 0 = some 1 := by decide +kernel
theorem lk_i1_1 : lk_ins 1 1 = some (.ireturn, 1, (0, [], .null)) := lk_eqE_eq (by decide +kernel)
set_option maxRecDepth 20000 in
theorem E_l_toldKind {X : lk_X} {d : Nat} {a0 : Nat} {h : lk_H} {Q : Option Value → lk_H → Prop} (H : Q (some (.int 2)) h) : lk_wx X (d + 1) 1 [.ref a0] h Q := by
  refine lk_enter (lo := [.ref a0]) lk_M1 rfl (Nat.le_of_ble_eq_true rfl) ?_
  refine lk_wp_seg (lo' := [.ref a0]) (st' := [.int 2]) lk_M1 lk_s1_0_1 rfl ?_
  exact lk_wp_ret lk_i1_1 lk_M1 rfl H
/-! LonelyDots$Lonely.askMark(LLonelyDots$Trace;)I -/
theorem lk_M2 : lk_mt[2]? = some (yX0_askMark, cX0_askMark, 2, ((some FieldType.int))) := rfl
theorem lk_s2_0_2 : lk_seg 2 [(.aload_n 1, 1, (0, [], .null)), (.bipush 21, 2, (0, [], .int (21)))] 0 = some 3 := by decide +kernel
theorem lk_i2_3 : lk_ins 2 3 = some (.invokevirtual 9, 3, (1, [(9, 63)], .ref 1)) := lk_eqE_eq (by decide +kernel)
theorem lk_s2_6_3 : lk_seg 2 [(.iconst 2, 1, (0, [], .int (2))), (.aload_n 0, 1, (0, [], .null)), (.aload_n 1, 1, (0, [], .null))] 6 = some 9 := by decide +kernel
theorem lk_i2_9 : lk_ins 2 9 = some (.invokespecial 15, 3, (6, [(0, 57)], .ref 2)) := lk_eqE_eq (by decide +kernel)
theorem lk_s2_12_1 : lk_seg 2 [(.imul, 1, (0, [], .null))] 12 = some 13 := by decide +kernel
theorem lk_i2_13 : lk_ins 2 13 = some (.ireturn, 1, (0, [], .null)) := lk_eqE_eq (by decide +kernel)
set_option maxRecDepth 20000 in
theorem E_l_askMark {X : lk_X} {d : Nat} {a0 a1 : Nat} {h : lk_H} {Q : Option Value → lk_H → Prop} (H : lk_vc h a1 [(9, 63)] (fun k4 => lk_wxv X d k4 [.ref a1, .int 21] h (fun h1 => lk_ob h1 a0 (lk_wxi X d 57 [.ref a0, .ref a1] h1 (fun r3 h2 => Q (some (.int (2 * r3))) h2))))) : lk_wx X (d + 1) 2 [.ref a0, .ref a1] h Q := by
  refine lk_enter (lo := [.ref a0, .ref a1]) lk_M2 rfl (Nat.le_of_ble_eq_true rfl) ?_
  refine lk_wp_seg (lo' := [.ref a0, .ref a1]) (st' := [.int 21, .ref a1]) lk_M2 lk_s2_0_2 rfl ?_
  refine lk_wp_cv (as := [.int 21]) (r := []) (a := a1) lk_i2_3 lk_M2 rfl rfl rfl (Nat.le_of_ble_eq_true rfl) H (fun k4 H => lk_gv H (fun h1 H => ?_))
  refine lk_wp_seg (lo' := [.ref a0, .ref a1]) (st' := [.ref a1, .ref a0, .int 2]) lk_M2 lk_s2_6_3 rfl ?_
  refine lk_wp_cp (as := [.ref a1]) (r := [.int 2]) (a := a0) lk_i2_9 lk_M2 rfl rfl rfl rfl (Nat.le_of_ble_eq_true rfl) H (fun H => lk_gi H (fun r3 h2 H => ?_))
  refine lk_wp_seg (lo' := [.ref a0, .ref a1]) (st' := [.int (2 * r3)]) lk_M2 lk_s2_12_1 rfl ?_
  exact lk_wp_ret lk_i2_13 lk_M2 rfl H
/-! LonelyDots$LonelyList.<init>(I)V -/
theorem lk_M3 : lk_mt[3]? = some (yX1_init, cX1_init, 2, ((none))) := rfl
theorem lk_s3_0_1 : lk_seg 3 [(.aload_n 0, 1, (0, [], .null))] 0 = some 1 := by decide +kernel
theorem lk_i3_1 : lk_ins 3 1 = some (.invokespecial 3, 3, (100, [], .null)) := lk_eqE_eq (by decide +kernel)
theorem lk_s3_4_2 : lk_seg 3 [(.aload_n 0, 1, (0, [], .null)), (.sipush 200, 3, (0, [], .int (200)))] 4 = some 8 := by decide +kernel
theorem lk_i3_8 : lk_ins 3 8 = some (.newarray .int, 2, (0, [], .null)) := lk_eqE_eq (by decide +kernel)
theorem lk_i3_10 : lk_ins 3 10 = some (.putfield 11, 3, (2, [(1, 0)], .null)) := lk_eqE_eq (by decide +kernel)
theorem lk_s3_13_2 : lk_seg 3 [(.aload_n 0, 1, (0, [], .null)), (.iload_n 1, 1, (0, [], .null))] 13 = some 15 := by decide +kernel
theorem lk_i3_15 : lk_ins 3 15 = some (.newarray .int, 2, (0, [], .null)) := lk_eqE_eq (by decide +kernel)
theorem lk_i3_17 : lk_ins 3 17 = some (.putfield 15, 3, (0, [(1, 0)], .null)) := lk_eqE_eq (by decide +kernel)
theorem lk_s3_20_2 : lk_seg 3 [(.aload_n 0, 1, (0, [], .null)), (.iload_n 1, 1, (0, [], .null))] 20 = some 22 := by decide +kernel
theorem lk_i3_22 : lk_ins 3 22 = some (.newarray .int, 2, (0, [], .null)) := lk_eqE_eq (by decide +kernel)
theorem lk_i3_24 : lk_ins 3 24 = some (.putfield 18, 3, (1, [(1, 0)], .null)) := lk_eqE_eq (by decide +kernel)
theorem lk_i3_27 : lk_ins 3 27 = some (.return_, 1, (0, [], .null)) := lk_eqE_eq (by decide +kernel)
set_option maxRecDepth 20000 in
theorem E_ll_init {X : lk_X} {d : Nat} {x1 : Int32} {a0 : Nat} {h : lk_H} {Q : Option Value → lk_H → Prop} (H : lk_nw (200 : Int32) (lk_pf ((h ++ [.inl (0, ((200 : Int32).toNatClampNeg, .inl (fun _ => 0)))])) a0 2 [(1, 0)] (.ref (h.length)) (fun h1 => lk_nw x1 (lk_pf ((h1 ++ [.inl (0, (x1.toNatClampNeg, .inl (fun _ => 0)))])) a0 0 [(1, 0)] (.ref (h1.length)) (fun h2 => lk_nw x1 (lk_pf ((h2 ++ [.inl (0, (x1.toNatClampNeg, .inl (fun _ => 0)))])) a0 1 [(1, 0)] (.ref (h2.length)) (fun h3 => Q none h3))))))) : lk_wx X (d + 1) 3 [.ref a0, .int x1] h Q := by
  refine lk_enter (lo := [.ref a0, .int x1]) lk_M3 rfl (Nat.le_of_ble_eq_true rfl) ?_
  refine lk_wp_seg (lo' := [.ref a0, .int x1]) (st' := [.ref a0]) lk_M3 lk_s3_0_1 rfl ?_
  refine lk_wp_one lk_i3_1 lk_M3 rfl rfl rfl ?_
  refine lk_wp_seg (lo' := [.ref a0, .int x1]) (st' := [.int 200, .ref a0]) lk_M3 lk_s3_4_2 rfl ?_
  refine lk_wp_new_int lk_i3_8 lk_M3 H (fun H => ?_)
  refine lk_wp_pf lk_i3_10 lk_M3 H (fun h1 H => ?_)
  refine lk_wp_seg (lo' := [.ref a0, .int x1]) (st' := [.int x1, .ref a0]) lk_M3 lk_s3_13_2 rfl ?_
  refine lk_wp_new_int lk_i3_15 lk_M3 H (fun H => ?_)
  refine lk_wp_pf lk_i3_17 lk_M3 H (fun h2 H => ?_)
  refine lk_wp_seg (lo' := [.ref a0, .int x1]) (st' := [.int x1, .ref a0]) lk_M3 lk_s3_20_2 rfl ?_
  refine lk_wp_new_int lk_i3_22 lk_M3 H (fun H => ?_)
  refine lk_wp_pf lk_i3_24 lk_M3 H (fun h3 H => ?_)
  exact lk_wp_ret lk_i3_27 lk_M3 rfl H
/-! LonelyDots$LonelyList.searched(I)LLonelyDots$LonelyList; -/
theorem lk_M4 : lk_mt[4]? = some (yX1_searched, cX1_searched, 2, ((some (FieldType.object "LonelyDots$LonelyList")))) := rfl
theorem lk_i4_0 : lk_ins 4 0 = some (.new 9, 3, (1, [], .null)) := lk_eqE_eq (by decide +kernel)
theorem lk_s4_3_2 : lk_seg 4 [(.dup, 1, (0, [], .null)), (.iload_n 0, 1, (0, [], .null))] 3 = some 5 := by decide +kernel
theorem lk_i4_5 : lk_ins 4 5 = some (.invokespecial 21, 3, (3, [(0, 3)], .ref 3)) := lk_eqE_eq (by decide +kernel)
theorem lk_s4_8_3 : lk_seg 4 [(.astore_n 1, 1, (0, [], .null)), (.aload_n 1, 1, (0, [], .null)), (.iconst 0, 1, (0, [], .int (0)))] 8 = some 11 := by decide +kernel
theorem lk_i4_11 : lk_ins 4 11 = some (.invokestatic 24, 3, (0, [(0, 6)], .ref 4)) := lk_eqE_eq (by decide +kernel)
theorem lk_s4_14_1 : lk_seg 4 [(.aload_n 1, 1, (0, [], .null))] 14 = some 15 := by decide +kernel
theorem lk_i4_15 : lk_ins 4 15 = some (.areturn, 1, (0, [], .null)) := lk_eqE_eq (by decide +kernel)
set_option maxRecDepth 20000 in
theorem E_ll_searched {X : lk_X} {d : Nat} {x0 : Int32} {h : lk_H} {Q : Option Value → lk_H → Prop} (H : lk_ob ((h ++ [.inr (1, [.null, .null, .null, .int 0, .int 0])])) h.length (lk_wxv X d 3 [.ref (h.length), .int x0] ((h ++ [.inr (1, [.null, .null, .null, .int 0, .int 0])])) (fun h1 => lk_wxv X d 6 [.ref (h.length), .int 0] h1 (fun h2 => Q (some (.ref (h.length))) h2)))) : lk_wx X (d + 1) 4 [.int x0] h Q := by
  refine lk_enter (lo := [.int x0, .retAddr 0]) lk_M4 rfl (Nat.le_of_ble_eq_true rfl) ?_
  refine lk_wp_new lk_i4_0 lk_M4 rfl ?_
  refine lk_wp_seg (lo' := [.int x0, .retAddr 0]) (st' := [.int x0, .ref (h.length), .ref (h.length)]) lk_M4 lk_s4_3_2 rfl ?_
  refine lk_wp_cp (as := [.int x0]) (r := [.ref (h.length)]) (a := h.length) lk_i4_5 lk_M4 rfl rfl rfl rfl (Nat.le_of_ble_eq_true rfl) H (fun H => lk_gv H (fun h1 H => ?_))
  refine lk_wp_seg (lo' := [.int x0, .ref (h.length)]) (st' := [.int 0, .ref (h.length)]) lk_M4 lk_s4_8_3 rfl ?_
  refine lk_wp_cs (as := [.ref (h.length), .int 0]) (r := []) lk_i4_11 lk_M4 rfl rfl rfl rfl (Nat.le_of_ble_eq_true rfl) (lk_gv H (fun h2 H => ?_))
  refine lk_wp_seg (lo' := [.int x0, .ref (h.length)]) (st' := [.ref (h.length)]) lk_M4 lk_s4_14_1 rfl ?_
  exact lk_wp_ret lk_i4_15 lk_M4 rfl H
/-! LonelyDots$LonelyList.columnsOf(I)[I -/
theorem lk_M5 : lk_mt[5]? = some (yX1_columnsOf, cX1_columnsOf, 5, ((some (FieldType.array FieldType.int)))) := rfl
theorem lk_s5_0_1 : lk_seg 5 [(.aload_n 0, 1, (0, [], .null))] 0 = some 1 := by decide +kernel
theorem lk_i5_1 : lk_ins 5 1 = some (.getfield 15, 3, (0, [(1, 0)], .null)) := lk_eqE_eq (by decide +kernel)
theorem lk_i5_4 : lk_ins 5 4 = some (.arraylength, 1, (0, [], .null)) := lk_eqE_eq (by decide +kernel)
theorem lk_i5_5 : lk_ins 5 5 = some (.newarray .int, 2, (0, [], .null)) := lk_eqE_eq (by decide +kernel)
theorem lk_s5_7_2 : lk_seg 5 [(.astore_n 2, 1, (0, [], .null)), (.aload_n 0, 1, (0, [], .null))] 7 = some 9 := by decide +kernel
theorem lk_i5_9 : lk_ins 5 9 = some (.getfield 11, 3, (2, [(1, 0)], .null)) := lk_eqE_eq (by decide +kernel)
theorem lk_s5_12_1 : lk_seg 5 [(.iload_n 1, 1, (0, [], .null))] 12 = some 13 := by decide +kernel
theorem lk_i5_13 : lk_ins 5 13 = some (.iaload, 1, (0, [], .null)) := lk_eqE_eq (by decide +kernel)
theorem lk_s5_14_2 : lk_seg 5 [(.istore_n 3, 1, (0, [], .null)), (.aload_n 2, 1, (0, [], .null))] 14 = some 16 := by decide +kernel
theorem lk_i5_16 : lk_ins 5 16 = some (.arraylength, 1, (0, [], .null)) := lk_eqE_eq (by decide +kernel)
theorem lk_s5_17_3 : lk_seg 5 [(.iconst 1, 1, (0, [], .int (1))), (.isub, 1, (0, [], .null)), (.istore 4, 2, (0, [], .null))] 17 = some 21 := by decide +kernel
theorem lk_s5_21_1 : lk_seg 5 [(.iload 4, 2, (0, [], .null))] 21 = some 23 := by decide +kernel
theorem lk_i5_23 : lk_ins 5 23 = some (.ifCond .lt 21, 3, (44, [], .null)) := lk_eqE_eq (by decide +kernel)
theorem lk_s5_44_1 : lk_seg 5 [(.aload_n 2, 1, (0, [], .null))] 44 = some 45 := by decide +kernel
theorem lk_i5_45 : lk_ins 5 45 = some (.areturn, 1, (0, [], .null)) := lk_eqE_eq (by decide +kernel)
theorem lk_s5_26_5 : lk_seg 5 [(.aload_n 2, 1, (0, [], .null)), (.iload 4, 2, (0, [], .null)), (.iload_n 3, 1, (0, [], .null)), (.bipush 7, 2, (0, [], .int (7))), (.iand, 1, (0, [], .null))] 26 = some 33 := by decide +kernel
theorem lk_i5_33 : lk_ins 5 33 = some (.iastore, 1, (0, [], .null)) := lk_eqE_eq (by decide +kernel)
theorem lk_s5_34_6 : lk_seg 5 [(.iload_n 3, 1, (0, [], .null)), (.iconst 3, 1, (0, [], .int (3))), (.ishr, 1, (0, [], .null)), (.istore_n 3, 1, (0, [], .null)), (.iinc 4 (-1), 3, (0, [], .int (-1))), (.goto (-20), 3, (21, [], .null))] 34 = some 21 := by decide +kernel
set_option maxRecDepth 20000 in
theorem E_ll_columnsOf {X : lk_X} {d : Nat} {x1 : Int32} {a0 : Nat} {h : lk_H} {Q : Option Value → lk_H → Prop} (H : lk_fR h a0 0 [(1, 0)] (fun r1 => lk_al2 h r1 (fun r2 => lk_nw r2 (lk_fR ((h ++ [.inl (0, (r2.toNatClampNeg, .inl (fun _ => 0)))])) a0 2 [(1, 0)] (fun r3 => lk_ai ((h ++ [.inl (0, (r2.toNatClampNeg, .inl (fun _ => 0)))])) r3 x1 (fun r4 => lk_al2 ((h ++ [.inl (0, (r2.toNatClampNeg, .inl (fun _ => 0)))])) h.length (fun r5 => lk_wp X (d + 1) 5 21 [.retAddr 0, .retAddr 0, .ref (h.length), .int r4, .int (r5 - 1)] [] (h ++ [.inl (0, (r2.toNatClampNeg, .inl (fun _ => 0)))]) Q))))))) : lk_wx X (d + 1) 5 [.ref a0, .int x1] h Q := by
  refine lk_enter (lo := [.ref a0, .int x1, .retAddr 0, .retAddr 0, .retAddr 0]) lk_M5 rfl (Nat.le_of_ble_eq_true rfl) ?_
  refine lk_wp_seg (lo' := [.ref a0, .int x1, .retAddr 0, .retAddr 0, .retAddr 0]) (st' := [.ref a0]) lk_M5 lk_s5_0_1 rfl ?_
  refine lk_wp_fR lk_i5_1 lk_M5 H (fun r1 H => ?_)
  refine lk_wp_al lk_i5_4 lk_M5 H (fun r2 H => ?_)
  refine lk_wp_new_int lk_i5_5 lk_M5 H (fun H => ?_)
  refine lk_wp_seg (lo' := [.ref a0, .int x1, .ref (h.length), .retAddr 0, .retAddr 0]) (st' := [.ref a0]) lk_M5 lk_s5_7_2 rfl ?_
  refine lk_wp_fR lk_i5_9 lk_M5 H (fun r3 H => ?_)
  refine lk_wp_seg (lo' := [.ref a0, .int x1, .ref (h.length), .retAddr 0, .retAddr 0]) (st' := [.int x1, .ref r3]) lk_M5 lk_s5_12_1 rfl ?_
  refine lk_wp_ai lk_i5_13 lk_M5 H (fun r4 H => ?_)
  refine lk_wp_seg (lo' := [.ref a0, .int x1, .ref (h.length), .int r4, .retAddr 0]) (st' := [.ref (h.length)]) lk_M5 lk_s5_14_2 rfl ?_
  refine lk_wp_al lk_i5_16 lk_M5 H (fun r5 H => ?_)
  refine lk_wp_seg (lo' := [.ref a0, .int x1, .ref (h.length), .int r4, .int (r5 - 1)]) (st' := []) lk_M5 lk_s5_17_3 rfl ?_
  exact H.forget (lk_le_d (lk_le_d (lk_le_s (lk_le_s (lk_le_s lk_le_n)))))
set_option maxRecDepth 20000 in
theorem F_ll_columnsOf_21 {X : lk_X} {d : Nat} {x3 x4 : Int32} {a2 : Nat} {h : lk_H} {Q : Option Value → lk_H → Prop} (H : (x4 < 0 → Q (some (.ref a2)) h) ∧ (¬ x4 < 0 → lk_as h a2 x4 (x3 &&& 7) (fun h1 => lk_wp X (d + 1) 5 21 [.retAddr 0, .retAddr 0, .ref a2, .int (x3 >>> (3 &&& 31)), .int (x4 + (-1))] [] h1 Q))) : lk_wp X (d + 1) 5 21 [.retAddr 0, .retAddr 0, .ref a2, .int x3, .int x4] [] h Q := by
  refine lk_wp_seg (lo' := [.retAddr 0, .retAddr 0, .ref a2, .int x3, .int x4]) (st' := [.int x4]) lk_M5 lk_s5_21_1 rfl ?_
  refine lk_wp_if_lt lk_i5_23 lk_M5 H (fun H => ?_) (fun H => ?_)
  · refine lk_wp_seg (lo' := [.retAddr 0, .retAddr 0, .ref a2, .int x3, .int x4]) (st' := [.ref a2]) lk_M5 lk_s5_44_1 rfl ?_
    exact lk_wp_ret lk_i5_45 lk_M5 rfl H
  · refine lk_wp_seg (lo' := [.retAddr 0, .retAddr 0, .ref a2, .int x3, .int x4]) (st' := [.int (x3 &&& 7), .int x4, .ref a2]) lk_M5 lk_s5_26_5 rfl ?_
    refine lk_wp_as lk_i5_33 lk_M5 H (fun h1 H => ?_)
    refine lk_wp_seg (lo' := [.retAddr 0, .retAddr 0, .ref a2, .int (x3 >>> (3 &&& 31)), .int (x4 + (-1))]) (st' := []) lk_M5 lk_s5_34_6 rfl ?_
    exact H
/-! LonelyDots$LonelyList.search(LLonelyDots$LonelyList;I)V -/
theorem lk_M6 : lk_mt[6]? = some (yX1_search, cX1_search, 3, ((none))) := rfl
theorem lk_s6_0_2 : lk_seg 6 [(.iload_n 1, 1, (0, [], .null)), (.aload_n 0, 1, (0, [], .null))] 0 = some 2 := by decide +kernel
theorem lk_i6_2 : lk_ins 6 2 = some (.getfield 15, 3, (0, [(1, 0)], .null)) := lk_eqE_eq (by decide +kernel)
theorem lk_i6_5 : lk_ins 6 5 = some (.arraylength, 1, (0, [], .null)) := lk_eqE_eq (by decide +kernel)
theorem lk_i6_6 : lk_ins 6 6 = some (.if_icmp .lt 8, 3, (14, [], .null)) := lk_eqE_eq (by decide +kernel)
theorem lk_s6_14_2 : lk_seg 6 [(.iconst 0, 1, (0, [], .int (0))), (.istore_n 2, 1, (0, [], .null))] 14 = some 16 := by decide +kernel
theorem lk_s6_9_1 : lk_seg 6 [(.aload_n 0, 1, (0, [], .null))] 9 = some 10 := by decide +kernel
theorem lk_i6_10 : lk_ins 6 10 = some (.invokevirtual 28, 3, (1, [(1, 8)], .ref 5)) := lk_eqE_eq (by decide +kernel)
theorem lk_i6_13 : lk_ins 6 13 = some (.return_, 1, (0, [], .null)) := lk_eqE_eq (by decide +kernel)
theorem lk_s6_16_2 : lk_seg 6 [(.iload_n 2, 1, (0, [], .null)), (.aload_n 0, 1, (0, [], .null))] 16 = some 18 := by decide +kernel
theorem lk_i6_18 : lk_ins 6 18 = some (.getfield 15, 3, (0, [(1, 0)], .null)) := lk_eqE_eq (by decide +kernel)
theorem lk_i6_21 : lk_ins 6 21 = some (.arraylength, 1, (0, [], .null)) := lk_eqE_eq (by decide +kernel)
theorem lk_i6_22 : lk_ins 6 22 = some (.if_icmp .ge 31, 3, (53, [], .null)) := lk_eqE_eq (by decide +kernel)
theorem lk_i6_53 : lk_ins 6 53 = some (.return_, 1, (0, [], .null)) := lk_eqE_eq (by decide +kernel)
theorem lk_s6_25_1 : lk_seg 6 [(.aload_n 0, 1, (0, [], .null))] 25 = some 26 := by decide +kernel
theorem lk_i6_26 : lk_ins 6 26 = some (.getfield 15, 3, (0, [(1, 0)], .null)) := lk_eqE_eq (by decide +kernel)
theorem lk_s6_29_2 : lk_seg 6 [(.iload_n 1, 1, (0, [], .null)), (.iload_n 2, 1, (0, [], .null))] 29 = some 31 := by decide +kernel
theorem lk_i6_31 : lk_ins 6 31 = some (.iastore, 1, (0, [], .null)) := lk_eqE_eq (by decide +kernel)
theorem lk_s6_32_2 : lk_seg 6 [(.aload_n 0, 1, (0, [], .null)), (.iload_n 1, 1, (0, [], .null))] 32 = some 34 := by decide +kernel
theorem lk_i6_34 : lk_ins 6 34 = some (.invokevirtual 31, 3, (1, [(1, 7)], .ref 6)) := lk_eqE_eq (by decide +kernel)
theorem lk_i6_37 : lk_ins 6 37 = some (.ifCond .eq 10, 3, (47, [], .null)) := lk_eqE_eq (by decide +kernel)
theorem lk_s6_47_2 : lk_seg 6 [(.iinc 2 1, 3, (0, [], .int (1))), (.goto (-34), 3, (16, [], .null))] 47 = some 16 := by decide +kernel
theorem lk_s6_40_4 : lk_seg 6 [(.aload_n 0, 1, (0, [], .null)), (.iload_n 1, 1, (0, [], .null)), (.iconst 1, 1, (0, [], .int (1))), (.iadd, 1, (0, [], .null))] 40 = some 44 := by decide +kernel
theorem lk_i6_44 : lk_ins 6 44 = some (.invokestatic 24, 3, (0, [(0, 6)], .ref 4)) := lk_eqE_eq (by decide +kernel)
set_option maxRecDepth 20000 in
theorem E_ll_search {X : lk_X} {d : Nat} {x1 : Int32} {a0 : Nat} {h : lk_H} {Q : Option Value → lk_H → Prop} (H : lk_fR h a0 0 [(1, 0)] (fun r1 => lk_al2 h r1 (fun r2 => (x1 < r2 → lk_wp X (d + 1) 6 16 [.ref a0, .int x1, .int 0] [] h Q) ∧ (¬ x1 < r2 → lk_vc h a0 [(1, 8)] (fun k4 => lk_wxv X d k4 [.ref a0] h (fun h3 => Q none h3)))))) : lk_wx X (d + 1) 6 [.ref a0, .int x1] h Q := by
  refine lk_enter (lo := [.ref a0, .int x1, .retAddr 0]) lk_M6 rfl (Nat.le_of_ble_eq_true rfl) ?_
  refine lk_wp_seg (lo' := [.ref a0, .int x1, .retAddr 0]) (st' := [.ref a0, .int x1]) lk_M6 lk_s6_0_2 rfl ?_
  refine lk_wp_fR lk_i6_2 lk_M6 H (fun r1 H => ?_)
  refine lk_wp_al lk_i6_5 lk_M6 H (fun r2 H => ?_)
  refine lk_wp_ic_lt lk_i6_6 lk_M6 H (fun H => ?_) (fun H => ?_)
  · refine lk_wp_seg (lo' := [.ref a0, .int x1, .int 0]) (st' := []) lk_M6 lk_s6_14_2 rfl ?_
    exact H
  · refine lk_wp_seg (lo' := [.ref a0, .int x1, .retAddr 0]) (st' := [.ref a0]) lk_M6 lk_s6_9_1 rfl ?_
    refine lk_wp_cv (as := []) (r := []) (a := a0) lk_i6_10 lk_M6 rfl rfl rfl (Nat.le_of_ble_eq_true rfl) H (fun k4 H => lk_gv H (fun h3 H => ?_))
    exact lk_wp_ret lk_i6_13 lk_M6 rfl H
set_option maxRecDepth 20000 in
theorem F_ll_search_16 {X : lk_X} {d : Nat} {x1 x2 : Int32} {a0 : Nat} {h : lk_H} {Q : Option Value → lk_H → Prop} (H : lk_fR h a0 0 [(1, 0)] (fun r1 => lk_al2 h r1 (fun r2 => (r2 ≤ x2 → Q none h) ∧ (¬ r2 ≤ x2 → lk_fR h a0 0 [(1, 0)] (fun r3 => lk_as h r3 x1 x2 (fun h4 => lk_vc h4 a0 [(1, 7)] (fun k8 => lk_wxi X d k8 [.ref a0, .int x1] h4 (fun r6 h5 => (r6 = 0 → lk_wp X (d + 1) 6 16 [.ref a0, .int x1, .int (x2 + 1)] [] h5 Q) ∧ (¬ r6 = 0 → lk_wxv X d 6 [.ref a0, .int (x1 + 1)] h5 (fun h7 => lk_wp X (d + 1) 6 16 [.ref a0, .int x1, .int (x2 + 1)] [] h7 Q)))))))))) : lk_wp X (d + 1) 6 16 [.ref a0, .int x1, .int x2] [] h Q := by
  refine lk_wp_seg (lo' := [.ref a0, .int x1, .int x2]) (st' := [.ref a0, .int x2]) lk_M6 lk_s6_16_2 rfl ?_
  refine lk_wp_fR lk_i6_18 lk_M6 H (fun r1 H => ?_)
  refine lk_wp_al lk_i6_21 lk_M6 H (fun r2 H => ?_)
  refine lk_wp_ic_ge lk_i6_22 lk_M6 H (fun H => ?_) (fun H => ?_)
  · exact lk_wp_ret lk_i6_53 lk_M6 rfl H
  · refine lk_wp_seg (lo' := [.ref a0, .int x1, .int x2]) (st' := [.ref a0]) lk_M6 lk_s6_25_1 rfl ?_
    refine lk_wp_fR lk_i6_26 lk_M6 H (fun r3 H => ?_)
    refine lk_wp_seg (lo' := [.ref a0, .int x1, .int x2]) (st' := [.int x2, .int x1, .ref r3]) lk_M6 lk_s6_29_2 rfl ?_
    refine lk_wp_as lk_i6_31 lk_M6 H (fun h4 H => ?_)
    refine lk_wp_seg (lo' := [.ref a0, .int x1, .int x2]) (st' := [.int x1, .ref a0]) lk_M6 lk_s6_32_2 rfl ?_
    refine lk_wp_cv (as := [.int x1]) (r := []) (a := a0) lk_i6_34 lk_M6 rfl rfl rfl (Nat.le_of_ble_eq_true rfl) H (fun k8 H => lk_gi H (fun r6 h5 H => ?_))
    refine lk_wp_if_eq lk_i6_37 lk_M6 H (fun H => ?_) (fun H => ?_)
    · refine lk_wp_seg (lo' := [.ref a0, .int x1, .int (x2 + 1)]) (st' := []) lk_M6 lk_s6_47_2 rfl ?_
      exact H
    · refine lk_wp_seg (lo' := [.ref a0, .int x1, .int x2]) (st' := [.int (x1 + 1), .ref a0]) lk_M6 lk_s6_40_4 rfl ?_
      refine lk_wp_cs (as := [.ref a0, .int (x1 + 1)]) (r := []) lk_i6_44 lk_M6 rfl rfl rfl rfl (Nat.le_of_ble_eq_true rfl) (lk_gv H (fun h7 H => ?_))
      refine lk_wp_seg (lo' := [.ref a0, .int x1, .int (x2 + 1)]) (st' := []) lk_M6 lk_s6_47_2 rfl ?_
      exact H
/-! LonelyDots$LonelyList.isLonelyUpTo(I)Z -/
theorem lk_M7 : lk_mt[7]? = some (yX1_isLonelyUpTo, cX1_isLonelyUpTo, 5, ((some FieldType.boolean))) := rfl
theorem lk_s7_0_2 : lk_seg 7 [(.iconst 1, 1, (0, [], .int (1))), (.istore_n 2, 1, (0, [], .null))] 0 = some 2 := by decide +kernel
theorem lk_s7_2_2 : lk_seg 7 [(.iload_n 2, 1, (0, [], .null)), (.iload_n 1, 1, (0, [], .null))] 2 = some 4 := by decide +kernel
theorem lk_i7_4 : lk_ins 7 4 = some (.if_icmp .gt 69, 3, (73, [], .null)) := lk_eqE_eq (by decide +kernel)
theorem lk_s7_73_1 : lk_seg 7 [(.iconst 1, 1, (0, [], .int (1)))] 73 = some 74 := by decide +kernel
theorem lk_i7_74 : lk_ins 7 74 = some (.ireturn, 1, (0, [], .null)) := lk_eqE_eq (by decide +kernel)
theorem lk_s7_7_1 : lk_seg 7 [(.aload_n 0, 1, (0, [], .null))] 7 = some 8 := by decide +kernel
theorem lk_i7_8 : lk_ins 7 8 = some (.getfield 15, 3, (0, [(1, 0)], .null)) := lk_eqE_eq (by decide +kernel)
theorem lk_s7_11_1 : lk_seg 7 [(.iload_n 1, 1, (0, [], .null))] 11 = some 12 := by decide +kernel
theorem lk_i7_12 : lk_ins 7 12 = some (.iaload, 1, (0, [], .null)) := lk_eqE_eq (by decide +kernel)
theorem lk_s7_13_1 : lk_seg 7 [(.aload_n 0, 1, (0, [], .null))] 13 = some 14 := by decide +kernel
theorem lk_i7_14 : lk_ins 7 14 = some (.getfield 15, 3, (0, [(1, 0)], .null)) := lk_eqE_eq (by decide +kernel)
theorem lk_s7_17_3 : lk_seg 7 [(.iload_n 1, 1, (0, [], .null)), (.iload_n 2, 1, (0, [], .null)), (.isub, 1, (0, [], .null))] 17 = some 20 := by decide +kernel
theorem lk_i7_20 : lk_ins 7 20 = some (.iaload, 1, (0, [], .null)) := lk_eqE_eq (by decide +kernel)
theorem lk_s7_21_3 : lk_seg 7 [(.isub, 1, (0, [], .null)), (.istore_n 3, 1, (0, [], .null)), (.iload_n 3, 1, (0, [], .null))] 21 = some 24 := by decide +kernel
theorem lk_i7_24 : lk_ins 7 24 = some (.ifCond .ne 5, 3, (29, [], .null)) := lk_eqE_eq (by decide +kernel)
theorem lk_s7_29_2 : lk_seg 7 [(.iload_n 2, 1, (0, [], .null)), (.istore 4, 2, (0, [], .null))] 29 = some 32 := by decide +kernel
theorem lk_s7_27_1 : lk_seg 7 [(.iconst 0, 1, (0, [], .int (0)))] 27 = some 28 := by decide +kernel
theorem lk_i7_28 : lk_ins 7 28 = some (.ireturn, 1, (0, [], .null)) := lk_eqE_eq (by decide +kernel)
theorem lk_s7_32_2 : lk_seg 7 [(.iload 4, 2, (0, [], .null)), (.iload_n 1, 1, (0, [], .null))] 32 = some 35 := by decide +kernel
theorem lk_i7_35 : lk_ins 7 35 = some (.if_icmp .ge 32, 3, (67, [], .null)) := lk_eqE_eq (by decide +kernel)
theorem lk_s7_67_2 : lk_seg 7 [(.iinc 2 1, 3, (0, [], .int (1))), (.goto (-68), 3, (2, [], .null))] 67 = some 2 := by decide +kernel
theorem lk_s7_38_1 : lk_seg 7 [(.aload_n 0, 1, (0, [], .null))] 38 = some 39 := by decide +kernel
theorem lk_i7_39 : lk_ins 7 39 = some (.getfield 15, 3, (0, [(1, 0)], .null)) := lk_eqE_eq (by decide +kernel)
theorem lk_s7_42_1 : lk_seg 7 [(.iload 4, 2, (0, [], .null))] 42 = some 44 := by decide +kernel
theorem lk_i7_44 : lk_ins 7 44 = some (.iaload, 1, (0, [], .null)) := lk_eqE_eq (by decide +kernel)
theorem lk_s7_45_1 : lk_seg 7 [(.aload_n 0, 1, (0, [], .null))] 45 = some 46 := by decide +kernel
theorem lk_i7_46 : lk_ins 7 46 = some (.getfield 15, 3, (0, [(1, 0)], .null)) := lk_eqE_eq (by decide +kernel)
theorem lk_s7_49_3 : lk_seg 7 [(.iload 4, 2, (0, [], .null)), (.iload_n 2, 1, (0, [], .null)), (.isub, 1, (0, [], .null))] 49 = some 53 := by decide +kernel
theorem lk_i7_53 : lk_ins 7 53 = some (.iaload, 1, (0, [], .null)) := lk_eqE_eq (by decide +kernel)
theorem lk_s7_54_2 : lk_seg 7 [(.isub, 1, (0, [], .null)), (.iload_n 3, 1, (0, [], .null))] 54 = some 56 := by decide +kernel
theorem lk_i7_56 : lk_ins 7 56 = some (.if_icmp .ne 5, 3, (61, [], .null)) := lk_eqE_eq (by decide +kernel)
theorem lk_s7_61_2 : lk_seg 7 [(.iinc 4 1, 3, (0, [], .int (1))), (.goto (-32), 3, (32, [], .null))] 61 = some 32 := by decide +kernel
theorem lk_s7_59_1 : lk_seg 7 [(.iconst 0, 1, (0, [], .int (0)))] 59 = some 60 := by decide +kernel
theorem lk_i7_60 : lk_ins 7 60 = some (.ireturn, 1, (0, [], .null)) := lk_eqE_eq (by decide +kernel)
set_option maxRecDepth 20000 in
theorem E_ll_isLonelyUpTo {X : lk_X} {d : Nat} {x1 : Int32} {a0 : Nat} {h : lk_H} {Q : Option Value → lk_H → Prop} (H : lk_wp X (d + 1) 7 2 [.ref a0, .int x1, .int 1, .retAddr 0, .retAddr 0] [] h Q) : lk_wx X (d + 1) 7 [.ref a0, .int x1] h Q := by
  refine lk_enter (lo := [.ref a0, .int x1, .retAddr 0, .retAddr 0, .retAddr 0]) lk_M7 rfl (Nat.le_of_ble_eq_true rfl) ?_
  refine lk_wp_seg (lo' := [.ref a0, .int x1, .int 1, .retAddr 0, .retAddr 0]) (st' := []) lk_M7 lk_s7_0_2 rfl ?_
  exact H
set_option maxRecDepth 20000 in
theorem F_ll_isLonelyUpTo_2 {X : lk_X} {d : Nat} {x1 x2 : Int32} {a0 : Nat} {h : lk_H} {Q : Option Value → lk_H → Prop} (H : (x1 < x2 → Q (some (.int 1)) h) ∧ (¬ x1 < x2 → lk_fR h a0 0 [(1, 0)] (fun r1 => lk_ai h r1 x1 (fun r2 => lk_fR h a0 0 [(1, 0)] (fun r3 => lk_ai h r3 (x1 - x2) (fun r4 => (¬ (r2 - r4) = 0 → lk_wp X (d + 1) 7 32 [.ref a0, .int x1, .int x2, .int (r2 - r4), .int x2] [] h Q) ∧ ((r2 - r4) = 0 → Q (some (.int 0)) h))))))) : lk_wp X (d + 1) 7 2 [.ref a0, .int x1, .int x2, .retAddr 0, .retAddr 0] [] h Q := by
  refine lk_wp_seg (lo' := [.ref a0, .int x1, .int x2, .retAddr 0, .retAddr 0]) (st' := [.int x1, .int x2]) lk_M7 lk_s7_2_2 rfl ?_
  refine lk_wp_ic_gt lk_i7_4 lk_M7 H (fun H => ?_) (fun H => ?_)
  · refine lk_wp_seg (lo' := [.ref a0, .int x1, .int x2, .retAddr 0, .retAddr 0]) (st' := [.int 1]) lk_M7 lk_s7_73_1 rfl ?_
    exact lk_wp_ret lk_i7_74 lk_M7 rfl H
  · refine lk_wp_seg (lo' := [.ref a0, .int x1, .int x2, .retAddr 0, .retAddr 0]) (st' := [.ref a0]) lk_M7 lk_s7_7_1 rfl ?_
    refine lk_wp_fR lk_i7_8 lk_M7 H (fun r1 H => ?_)
    refine lk_wp_seg (lo' := [.ref a0, .int x1, .int x2, .retAddr 0, .retAddr 0]) (st' := [.int x1, .ref r1]) lk_M7 lk_s7_11_1 rfl ?_
    refine lk_wp_ai lk_i7_12 lk_M7 H (fun r2 H => ?_)
    refine lk_wp_seg (lo' := [.ref a0, .int x1, .int x2, .retAddr 0, .retAddr 0]) (st' := [.ref a0, .int r2]) lk_M7 lk_s7_13_1 rfl ?_
    refine lk_wp_fR lk_i7_14 lk_M7 H (fun r3 H => ?_)
    refine lk_wp_seg (lo' := [.ref a0, .int x1, .int x2, .retAddr 0, .retAddr 0]) (st' := [.int (x1 - x2), .ref r3, .int r2]) lk_M7 lk_s7_17_3 rfl ?_
    refine lk_wp_ai lk_i7_20 lk_M7 H (fun r4 H => ?_)
    refine lk_wp_seg (lo' := [.ref a0, .int x1, .int x2, .int (r2 - r4), .retAddr 0]) (st' := [.int (r2 - r4)]) lk_M7 lk_s7_21_3 rfl ?_
    refine lk_wp_if_ne lk_i7_24 lk_M7 H (fun H => ?_) (fun H => ?_)
    · refine lk_wp_seg (lo' := [.ref a0, .int x1, .int x2, .int (r2 - r4), .int x2]) (st' := []) lk_M7 lk_s7_29_2 rfl ?_
      exact H
    · refine lk_wp_seg (lo' := [.ref a0, .int x1, .int x2, .int (r2 - r4), .retAddr 0]) (st' := [.int 0]) lk_M7 lk_s7_27_1 rfl ?_
      exact lk_wp_ret lk_i7_28 lk_M7 rfl H
set_option maxRecDepth 20000 in
theorem F_ll_isLonelyUpTo_32 {X : lk_X} {d : Nat} {x1 x2 x3 x4 : Int32} {a0 : Nat} {h : lk_H} {Q : Option Value → lk_H → Prop} (H : (x1 ≤ x4 → lk_wp X (d + 1) 7 2 [.ref a0, .int x1, .int (x2 + 1), .retAddr 0, .retAddr 0] [] h Q) ∧ (¬ x1 ≤ x4 → lk_fR h a0 0 [(1, 0)] (fun r1 => lk_ai h r1 x4 (fun r2 => lk_fR h a0 0 [(1, 0)] (fun r3 => lk_ai h r3 (x4 - x2) (fun r4 => (¬ (r2 - r4) = x3 → lk_wp X (d + 1) 7 32 [.ref a0, .int x1, .int x2, .int x3, .int (x4 + 1)] [] h Q) ∧ ((r2 - r4) = x3 → Q (some (.int 0)) h))))))) : lk_wp X (d + 1) 7 32 [.ref a0, .int x1, .int x2, .int x3, .int x4] [] h Q := by
  refine lk_wp_seg (lo' := [.ref a0, .int x1, .int x2, .int x3, .int x4]) (st' := [.int x1, .int x4]) lk_M7 lk_s7_32_2 rfl ?_
  refine lk_wp_ic_ge lk_i7_35 lk_M7 H (fun H => ?_) (fun H => ?_)
  · refine lk_wp_seg (lo' := [.ref a0, .int x1, .int (x2 + 1), .int x3, .int x4]) (st' := []) lk_M7 lk_s7_67_2 rfl ?_
    exact H.forget (lk_le_s (lk_le_s (lk_le_s (lk_le_d (lk_le_d lk_le_n)))))
  · refine lk_wp_seg (lo' := [.ref a0, .int x1, .int x2, .int x3, .int x4]) (st' := [.ref a0]) lk_M7 lk_s7_38_1 rfl ?_
    refine lk_wp_fR lk_i7_39 lk_M7 H (fun r1 H => ?_)
    refine lk_wp_seg (lo' := [.ref a0, .int x1, .int x2, .int x3, .int x4]) (st' := [.int x4, .ref r1]) lk_M7 lk_s7_42_1 rfl ?_
    refine lk_wp_ai lk_i7_44 lk_M7 H (fun r2 H => ?_)
    refine lk_wp_seg (lo' := [.ref a0, .int x1, .int x2, .int x3, .int x4]) (st' := [.ref a0, .int r2]) lk_M7 lk_s7_45_1 rfl ?_
    refine lk_wp_fR lk_i7_46 lk_M7 H (fun r3 H => ?_)
    refine lk_wp_seg (lo' := [.ref a0, .int x1, .int x2, .int x3, .int x4]) (st' := [.int (x4 - x2), .ref r3, .int r2]) lk_M7 lk_s7_49_3 rfl ?_
    refine lk_wp_ai lk_i7_53 lk_M7 H (fun r4 H => ?_)
    refine lk_wp_seg (lo' := [.ref a0, .int x1, .int x2, .int x3, .int x4]) (st' := [.int x3, .int (r2 - r4)]) lk_M7 lk_s7_54_2 rfl ?_
    refine lk_wp_ic_ne lk_i7_56 lk_M7 H (fun H => ?_) (fun H => ?_)
    · refine lk_wp_seg (lo' := [.ref a0, .int x1, .int x2, .int x3, .int (x4 + 1)]) (st' := []) lk_M7 lk_s7_61_2 rfl ?_
      exact H
    · refine lk_wp_seg (lo' := [.ref a0, .int x1, .int x2, .int x3, .int x4]) (st' := [.int 0]) lk_M7 lk_s7_59_1 rfl ?_
      exact lk_wp_ret lk_i7_60 lk_M7 rfl H
/-! LonelyDots$LonelyList.keep()V -/
theorem lk_M8 : lk_mt[8]? = some (yX1_keep, cX1_keep, 1, ((none))) := rfl
theorem lk_s8_0_1 : lk_seg 8 [(.aload_n 0, 1, (0, [], .null))] 0 = some 1 := by decide +kernel
theorem lk_i8_1 : lk_ins 8 1 = some (.getfield 35, 3, (3, [(1, 0)], .null)) := lk_eqE_eq (by decide +kernel)
theorem lk_s8_4_1 : lk_seg 8 [(.sipush 200, 3, (0, [], .int (200)))] 4 = some 7 := by decide +kernel
theorem lk_i8_7 : lk_ins 8 7 = some (.if_icmp .lt 4, 3, (11, [], .null)) := lk_eqE_eq (by decide +kernel)
theorem lk_s8_11_1 : lk_seg 8 [(.aload_n 0, 1, (0, [], .null))] 11 = some 12 := by decide +kernel
theorem lk_i8_12 : lk_ins 8 12 = some (.getfield 11, 3, (2, [(1, 0)], .null)) := lk_eqE_eq (by decide +kernel)
theorem lk_s8_15_1 : lk_seg 8 [(.aload_n 0, 1, (0, [], .null))] 15 = some 16 := by decide +kernel
theorem lk_i8_16 : lk_ins 8 16 = some (.getfield 35, 3, (3, [(1, 0)], .null)) := lk_eqE_eq (by decide +kernel)
theorem lk_s8_19_1 : lk_seg 8 [(.aload_n 0, 1, (0, [], .null))] 19 = some 20 := by decide +kernel
theorem lk_i8_20 : lk_ins 8 20 = some (.getfield 15, 3, (0, [(1, 0)], .null)) := lk_eqE_eq (by decide +kernel)
theorem lk_i8_23 : lk_ins 8 23 = some (.invokestatic 39, 3, (0, [(0, 10)], .ref 7)) := lk_eqE_eq (by decide +kernel)
theorem lk_i8_26 : lk_ins 8 26 = some (.iastore, 1, (0, [], .null)) := lk_eqE_eq (by decide +kernel)
theorem lk_s8_27_2 : lk_seg 8 [(.aload_n 0, 1, (0, [], .null)), (.dup, 1, (0, [], .null))] 27 = some 29 := by decide +kernel
theorem lk_i8_29 : lk_ins 8 29 = some (.getfield 35, 3, (3, [(1, 0)], .null)) := lk_eqE_eq (by decide +kernel)
theorem lk_s8_32_2 : lk_seg 8 [(.iconst 1, 1, (0, [], .int (1))), (.iadd, 1, (0, [], .null))] 32 = some 34 := by decide +kernel
theorem lk_i8_34 : lk_ins 8 34 = some (.putfield 35, 3, (3, [(1, 0)], .null)) := lk_eqE_eq (by decide +kernel)
theorem lk_s8_37_1 : lk_seg 8 [(.aload_n 0, 1, (0, [], .null))] 37 = some 38 := by decide +kernel
theorem lk_i8_38 : lk_ins 8 38 = some (.invokevirtual 43, 3, (1, [(1, 9)], .ref 8)) := lk_eqE_eq (by decide +kernel)
theorem lk_i8_41 : lk_ins 8 41 = some (.ifCond .eq 13, 3, (54, [], .null)) := lk_eqE_eq (by decide +kernel)
theorem lk_i8_54 : lk_ins 8 54 = some (.return_, 1, (0, [], .null)) := lk_eqE_eq (by decide +kernel)
theorem lk_s8_44_2 : lk_seg 8 [(.aload_n 0, 1, (0, [], .null)), (.dup, 1, (0, [], .null))] 44 = some 46 := by decide +kernel
theorem lk_i8_46 : lk_ins 8 46 = some (.getfield 47, 3, (4, [(1, 0)], .null)) := lk_eqE_eq (by decide +kernel)
theorem lk_s8_49_2 : lk_seg 8 [(.iconst 1, 1, (0, [], .int (1))), (.iadd, 1, (0, [], .null))] 49 = some 51 := by decide +kernel
theorem lk_i8_51 : lk_ins 8 51 = some (.putfield 47, 3, (4, [(1, 0)], .null)) := lk_eqE_eq (by decide +kernel)
theorem lk_i8_10 : lk_ins 8 10 = some (.return_, 1, (0, [], .null)) := lk_eqE_eq (by decide +kernel)
set_option maxRecDepth 20000 in
theorem E_ll_keep {X : lk_X} {d : Nat} {a0 : Nat} {h : lk_H} {Q : Option Value → lk_H → Prop} (H : lk_fI h a0 3 [(1, 0)] (fun r1 => (r1 < 200 → lk_fR h a0 2 [(1, 0)] (fun r2 => lk_fI h a0 3 [(1, 0)] (fun r3 => lk_fR h a0 0 [(1, 0)] (fun r4 => lk_wxi X d 10 [.ref r4] h (fun r6 h5 => lk_as h5 r2 r3 r6 (fun h7 => lk_fI h7 a0 3 [(1, 0)] (fun r8 => lk_pf h7 a0 3 [(1, 0)] (.int (r8 + 1)) (fun h9 => lk_vc h9 a0 [(1, 9)] (fun k14 => lk_wxi X d k14 [.ref a0] h9 (fun r11 h10 => (r11 = 0 → Q none h10) ∧ (¬ r11 = 0 → lk_fI h10 a0 4 [(1, 0)] (fun r12 => lk_pf h10 a0 4 [(1, 0)] (.int (r12 + 1)) (fun h13 => Q none h13))))))))))))) ∧ (¬ r1 < 200 → Q none h))) : lk_wx X (d + 1) 8 [.ref a0] h Q := by
  refine lk_enter (lo := [.ref a0]) lk_M8 rfl (Nat.le_of_ble_eq_true rfl) ?_
  refine lk_wp_seg (lo' := [.ref a0]) (st' := [.ref a0]) lk_M8 lk_s8_0_1 rfl ?_
  refine lk_wp_fI lk_i8_1 lk_M8 H (fun r1 H => ?_)
  refine lk_wp_seg (lo' := [.ref a0]) (st' := [.int 200, .int r1]) lk_M8 lk_s8_4_1 rfl ?_
  refine lk_wp_ic_lt lk_i8_7 lk_M8 H (fun H => ?_) (fun H => ?_)
  · refine lk_wp_seg (lo' := [.ref a0]) (st' := [.ref a0]) lk_M8 lk_s8_11_1 rfl ?_
    refine lk_wp_fR lk_i8_12 lk_M8 H (fun r2 H => ?_)
    refine lk_wp_seg (lo' := [.ref a0]) (st' := [.ref a0, .ref r2]) lk_M8 lk_s8_15_1 rfl ?_
    refine lk_wp_fI lk_i8_16 lk_M8 H (fun r3 H => ?_)
    refine lk_wp_seg (lo' := [.ref a0]) (st' := [.ref a0, .int r3, .ref r2]) lk_M8 lk_s8_19_1 rfl ?_
    refine lk_wp_fR lk_i8_20 lk_M8 H (fun r4 H => ?_)
    refine lk_wp_cs (as := [.ref r4]) (r := [.int r3, .ref r2]) lk_i8_23 lk_M8 rfl rfl rfl rfl (Nat.le_of_ble_eq_true rfl) (lk_gi H (fun r6 h5 H => ?_))
    refine lk_wp_as lk_i8_26 lk_M8 H (fun h7 H => ?_)
    refine lk_wp_seg (lo' := [.ref a0]) (st' := [.ref a0, .ref a0]) lk_M8 lk_s8_27_2 rfl ?_
    refine lk_wp_fI lk_i8_29 lk_M8 H (fun r8 H => ?_)
    refine lk_wp_seg (lo' := [.ref a0]) (st' := [.int (r8 + 1), .ref a0]) lk_M8 lk_s8_32_2 rfl ?_
    refine lk_wp_pf lk_i8_34 lk_M8 H (fun h9 H => ?_)
    refine lk_wp_seg (lo' := [.ref a0]) (st' := [.ref a0]) lk_M8 lk_s8_37_1 rfl ?_
    refine lk_wp_cv (as := []) (r := []) (a := a0) lk_i8_38 lk_M8 rfl rfl rfl (Nat.le_of_ble_eq_true rfl) H (fun k14 H => lk_gi H (fun r11 h10 H => ?_))
    refine lk_wp_if_eq lk_i8_41 lk_M8 H (fun H => ?_) (fun H => ?_)
    · exact lk_wp_ret lk_i8_54 lk_M8 rfl H
    · refine lk_wp_seg (lo' := [.ref a0]) (st' := [.ref a0, .ref a0]) lk_M8 lk_s8_44_2 rfl ?_
      refine lk_wp_fI lk_i8_46 lk_M8 H (fun r12 H => ?_)
      refine lk_wp_seg (lo' := [.ref a0]) (st' := [.int (r12 + 1), .ref a0]) lk_M8 lk_s8_49_2 rfl ?_
      refine lk_wp_pf lk_i8_51 lk_M8 H (fun h13 H => ?_)
      exact lk_wp_ret lk_i8_54 lk_M8 rfl H
  · exact lk_wp_ret lk_i8_10 lk_M8 rfl H
/-! LonelyDots$LonelyList.isFirstOfItsTurns()Z -/
theorem lk_M9 : lk_mt[9]? = some (yX1_isFirstOfItsTurns, cX1_isFirstOfItsTurns, 3, ((some FieldType.boolean))) := rfl
theorem lk_s9_0_1 : lk_seg 9 [(.aload_n 0, 1, (0, [], .null))] 0 = some 1 := by decide +kernel
theorem lk_i9_1 : lk_ins 9 1 = some (.getfield 15, 3, (0, [(1, 0)], .null)) := lk_eqE_eq (by decide +kernel)
theorem lk_i9_4 : lk_ins 9 4 = some (.invokestatic 39, 3, (0, [(0, 10)], .ref 7)) := lk_eqE_eq (by decide +kernel)
theorem lk_s9_7_3 : lk_seg 9 [(.istore_n 1, 1, (0, [], .null)), (.iconst 1, 1, (0, [], .int (1))), (.istore_n 2, 1, (0, [], .null))] 7 = some 10 := by decide +kernel
theorem lk_s9_10_2 : lk_seg 9 [(.iload_n 2, 1, (0, [], .null)), (.bipush 8, 2, (0, [], .int (8)))] 10 = some 13 := by decide +kernel
theorem lk_i9_13 : lk_ins 9 13 = some (.if_icmp .ge 34, 3, (47, [], .null)) := lk_eqE_eq (by decide +kernel)
theorem lk_s9_47_1 : lk_seg 9 [(.iconst 1, 1, (0, [], .int (1)))] 47 = some 48 := by decide +kernel
theorem lk_i9_48 : lk_ins 9 48 = some (.ireturn, 1, (0, [], .null)) := lk_eqE_eq (by decide +kernel)
theorem lk_s9_16_1 : lk_seg 9 [(.aload_n 0, 1, (0, [], .null))] 16 = some 17 := by decide +kernel
theorem lk_i9_17 : lk_ins 9 17 = some (.getfield 18, 3, (1, [(1, 0)], .null)) := lk_eqE_eq (by decide +kernel)
theorem lk_s9_20_1 : lk_seg 9 [(.aload_n 0, 1, (0, [], .null))] 20 = some 21 := by decide +kernel
theorem lk_i9_21 : lk_ins 9 21 = some (.getfield 15, 3, (0, [(1, 0)], .null)) := lk_eqE_eq (by decide +kernel)
theorem lk_s9_24_1 : lk_seg 9 [(.iload_n 2, 1, (0, [], .null))] 24 = some 25 := by decide +kernel
theorem lk_i9_25 : lk_ins 9 25 = some (.invokestatic 50, 3, (0, [(0, 30)], .ref 9)) := lk_eqE_eq (by decide +kernel)
theorem lk_s9_28_1 : lk_seg 9 [(.aload_n 0, 1, (0, [], .null))] 28 = some 29 := by decide +kernel
theorem lk_i9_29 : lk_ins 9 29 = some (.getfield 18, 3, (1, [(1, 0)], .null)) := lk_eqE_eq (by decide +kernel)
theorem lk_i9_32 : lk_ins 9 32 = some (.invokestatic 39, 3, (0, [(0, 10)], .ref 7)) := lk_eqE_eq (by decide +kernel)
theorem lk_s9_35_1 : lk_seg 9 [(.iload_n 1, 1, (0, [], .null))] 35 = some 36 := by decide +kernel
theorem lk_i9_36 : lk_ins 9 36 = some (.if_icmp .ge 5, 3, (41, [], .null)) := lk_eqE_eq (by decide +kernel)
theorem lk_s9_41_2 : lk_seg 9 [(.iinc 2 1, 3, (0, [], .int (1))), (.goto (-34), 3, (10, [], .null))] 41 = some 10 := by decide +kernel
theorem lk_s9_39_1 : lk_seg 9 [(.iconst 0, 1, (0, [], .int (0)))] 39 = some 40 := by decide +kernel
theorem lk_i9_40 : lk_ins 9 40 = some (.ireturn, 1, (0, [], .null)) := lk_eqE_eq (by decide +kernel)
set_option maxRecDepth 20000 in
theorem E_ll_isFirstOfItsTurns {X : lk_X} {d : Nat} {a0 : Nat} {h : lk_H} {Q : Option Value → lk_H → Prop} (H : lk_fR h a0 0 [(1, 0)] (fun r1 => lk_wxi X d 10 [.ref r1] h (fun r3 h2 => lk_wp X (d + 1) 9 10 [.ref a0, .int r3, .int 1] [] h2 Q))) : lk_wx X (d + 1) 9 [.ref a0] h Q := by
  refine lk_enter (lo := [.ref a0, .retAddr 0, .retAddr 0]) lk_M9 rfl (Nat.le_of_ble_eq_true rfl) ?_
  refine lk_wp_seg (lo' := [.ref a0, .retAddr 0, .retAddr 0]) (st' := [.ref a0]) lk_M9 lk_s9_0_1 rfl ?_
  refine lk_wp_fR lk_i9_1 lk_M9 H (fun r1 H => ?_)
  refine lk_wp_cs (as := [.ref r1]) (r := []) lk_i9_4 lk_M9 rfl rfl rfl rfl (Nat.le_of_ble_eq_true rfl) (lk_gi H (fun r3 h2 H => ?_))
  refine lk_wp_seg (lo' := [.ref a0, .int r3, .int 1]) (st' := []) lk_M9 lk_s9_7_3 rfl ?_
  exact H
set_option maxRecDepth 20000 in
theorem F_ll_isFirstOfItsTurns_10 {X : lk_X} {d : Nat} {x1 x2 : Int32} {a0 : Nat} {h : lk_H} {Q : Option Value → lk_H → Prop} (H : (8 ≤ x2 → Q (some (.int 1)) h) ∧ (¬ 8 ≤ x2 → lk_fR h a0 1 [(1, 0)] (fun r1 => lk_fR h a0 0 [(1, 0)] (fun r2 => lk_wxv X d 30 [.ref r1, .ref r2, .int x2] h (fun h3 => lk_fR h3 a0 1 [(1, 0)] (fun r4 => lk_wxi X d 10 [.ref r4] h3 (fun r6 h5 => (x1 ≤ r6 → lk_wp X (d + 1) 9 10 [.ref a0, .int x1, .int (x2 + 1)] [] h5 Q) ∧ (¬ x1 ≤ r6 → Q (some (.int 0)) h5)))))))) : lk_wp X (d + 1) 9 10 [.ref a0, .int x1, .int x2] [] h Q := by
  refine lk_wp_seg (lo' := [.ref a0, .int x1, .int x2]) (st' := [.int 8, .int x2]) lk_M9 lk_s9_10_2 rfl ?_
  refine lk_wp_ic_ge lk_i9_13 lk_M9 H (fun H => ?_) (fun H => ?_)
  · refine lk_wp_seg (lo' := [.ref a0, .int x1, .int x2]) (st' := [.int 1]) lk_M9 lk_s9_47_1 rfl ?_
    exact lk_wp_ret lk_i9_48 lk_M9 rfl H
  · refine lk_wp_seg (lo' := [.ref a0, .int x1, .int x2]) (st' := [.ref a0]) lk_M9 lk_s9_16_1 rfl ?_
    refine lk_wp_fR lk_i9_17 lk_M9 H (fun r1 H => ?_)
    refine lk_wp_seg (lo' := [.ref a0, .int x1, .int x2]) (st' := [.ref a0, .ref r1]) lk_M9 lk_s9_20_1 rfl ?_
    refine lk_wp_fR lk_i9_21 lk_M9 H (fun r2 H => ?_)
    refine lk_wp_seg (lo' := [.ref a0, .int x1, .int x2]) (st' := [.int x2, .ref r2, .ref r1]) lk_M9 lk_s9_24_1 rfl ?_
    refine lk_wp_cs (as := [.ref r1, .ref r2, .int x2]) (r := []) lk_i9_25 lk_M9 rfl rfl rfl rfl (Nat.le_of_ble_eq_true rfl) (lk_gv H (fun h3 H => ?_))
    refine lk_wp_seg (lo' := [.ref a0, .int x1, .int x2]) (st' := [.ref a0]) lk_M9 lk_s9_28_1 rfl ?_
    refine lk_wp_fR lk_i9_29 lk_M9 H (fun r4 H => ?_)
    refine lk_wp_cs (as := [.ref r4]) (r := []) lk_i9_32 lk_M9 rfl rfl rfl rfl (Nat.le_of_ble_eq_true rfl) (lk_gi H (fun r6 h5 H => ?_))
    refine lk_wp_seg (lo' := [.ref a0, .int x1, .int x2]) (st' := [.int x1, .int r6]) lk_M9 lk_s9_35_1 rfl ?_
    refine lk_wp_ic_ge lk_i9_36 lk_M9 H (fun H => ?_) (fun H => ?_)
    · refine lk_wp_seg (lo' := [.ref a0, .int x1, .int (x2 + 1)]) (st' := []) lk_M9 lk_s9_41_2 rfl ?_
      exact H
    · refine lk_wp_seg (lo' := [.ref a0, .int x1, .int x2]) (st' := [.int 0]) lk_M9 lk_s9_39_1 rfl ?_
      exact lk_wp_ret lk_i9_40 lk_M9 rfl H
/-! LonelyDots$LonelyList.code([I)I -/
theorem lk_M10 : lk_mt[10]? = some (yX1_code, cX1_code, 6, ((some FieldType.int))) := rfl
theorem lk_s10_0_5 : lk_seg 10 [(.iconst 0, 1, (0, [], .int (0))), (.istore_n 1, 1, (0, [], .null)), (.aload_n 0, 1, (0, [], .null)), (.astore_n 2, 1, (0, [], .null)), (.aload_n 2, 1, (0, [], .null))] 0 = some 5 := by decide +kernel
theorem lk_i10_5 : lk_ins 10 5 = some (.arraylength, 1, (0, [], .null)) := lk_eqE_eq (by decide +kernel)
theorem lk_s10_6_3 : lk_seg 10 [(.istore_n 3, 1, (0, [], .null)), (.iconst 0, 1, (0, [], .int (0))), (.istore 4, 2, (0, [], .null))] 6 = some 10 := by decide +kernel
theorem lk_s10_10_2 : lk_seg 10 [(.iload 4, 2, (0, [], .null)), (.iload_n 3, 1, (0, [], .null))] 10 = some 13 := by decide +kernel
theorem lk_i10_13 : lk_ins 10 13 = some (.if_icmp .ge 22, 3, (35, [], .null)) := lk_eqE_eq (by decide +kernel)
theorem lk_s10_35_1 : lk_seg 10 [(.iload_n 1, 1, (0, [], .null))] 35 = some 36 := by decide +kernel
theorem lk_i10_36 : lk_ins 10 36 = some (.ireturn, 1, (0, [], .null)) := lk_eqE_eq (by decide +kernel)
theorem lk_s10_16_2 : lk_seg 10 [(.aload_n 2, 1, (0, [], .null)), (.iload 4, 2, (0, [], .null))] 16 = some 19 := by decide +kernel
theorem lk_i10_19 : lk_ins 10 19 = some (.iaload, 1, (0, [], .null)) := lk_eqE_eq (by decide +kernel)
theorem lk_s10_20_9 : lk_seg 10 [(.istore 5, 2, (0, [], .null)), (.iload_n 1, 1, (0, [], .null)), (.iconst 3, 1, (0, [], .int (3))), (.ishl, 1, (0, [], .null)), (.iload 5, 2, (0, [], .null)), (.ior, 1, (0, [], .null)), (.istore_n 1, 1, (0, [], .null)), (.iinc 4 1, 3, (0, [], .int (1))), (.goto (-22), 3, (10, [], .null))] 20 = some 10 := by decide +kernel
set_option maxRecDepth 20000 in
theorem E_ll_code {X : lk_X} {d : Nat} {a0 : Nat} {h : lk_H} {Q : Option Value → lk_H → Prop} (H : lk_al2 h a0 (fun r1 => lk_wp X (d + 1) 10 10 [.retAddr 0, .int 0, .ref a0, .int r1, .int 0, .retAddr 0] [] h Q)) : lk_wx X (d + 1) 10 [.ref a0] h Q := by
  refine lk_enter (lo := [.ref a0, .retAddr 0, .retAddr 0, .retAddr 0, .retAddr 0, .retAddr 0]) lk_M10 rfl (Nat.le_of_ble_eq_true rfl) ?_
  refine lk_wp_seg (lo' := [.ref a0, .int 0, .ref a0, .retAddr 0, .retAddr 0, .retAddr 0]) (st' := [.ref a0]) lk_M10 lk_s10_0_5 rfl ?_
  refine lk_wp_al lk_i10_5 lk_M10 H (fun r1 H => ?_)
  refine lk_wp_seg (lo' := [.ref a0, .int 0, .ref a0, .int r1, .int 0, .retAddr 0]) (st' := []) lk_M10 lk_s10_6_3 rfl ?_
  exact H.forget (lk_le_d (lk_le_s (lk_le_s (lk_le_s (lk_le_s (lk_le_s lk_le_n))))))
set_option maxRecDepth 20000 in
theorem F_ll_code_10 {X : lk_X} {d : Nat} {x1 x3 x4 : Int32} {a2 : Nat} {h : lk_H} {Q : Option Value → lk_H → Prop} (H : (x3 ≤ x4 → Q (some (.int x1)) h) ∧ (¬ x3 ≤ x4 → lk_ai h a2 x4 (fun r1 => lk_wp X (d + 1) 10 10 [.retAddr 0, .int ((x1 <<< (3 &&& 31)) ||| r1), .ref a2, .int x3, .int (x4 + 1), .retAddr 0] [] h Q))) : lk_wp X (d + 1) 10 10 [.retAddr 0, .int x1, .ref a2, .int x3, .int x4, .retAddr 0] [] h Q := by
  refine lk_wp_seg (lo' := [.retAddr 0, .int x1, .ref a2, .int x3, .int x4, .retAddr 0]) (st' := [.int x3, .int x4]) lk_M10 lk_s10_10_2 rfl ?_
  refine lk_wp_ic_ge lk_i10_13 lk_M10 H (fun H => ?_) (fun H => ?_)
  · refine lk_wp_seg (lo' := [.retAddr 0, .int x1, .ref a2, .int x3, .int x4, .retAddr 0]) (st' := [.int x1]) lk_M10 lk_s10_35_1 rfl ?_
    exact lk_wp_ret lk_i10_36 lk_M10 rfl H
  · refine lk_wp_seg (lo' := [.retAddr 0, .int x1, .ref a2, .int x3, .int x4, .retAddr 0]) (st' := [.int x4, .ref a2]) lk_M10 lk_s10_16_2 rfl ?_
    refine lk_wp_ai lk_i10_19 lk_M10 H (fun r1 H => ?_)
    refine lk_wp_seg (lo' := [.retAddr 0, .int ((x1 <<< (3 &&& 31)) ||| r1), .ref a2, .int x3, .int (x4 + 1), .int r1]) (st' := []) lk_M10 lk_s10_20_9 rfl ?_
    exact H.forget (lk_le_s (lk_le_s (lk_le_s (lk_le_s (lk_le_s (lk_le_d lk_le_n))))))
/-! LonelyDots$Marks.<init>([I)V -/
theorem lk_M11 : lk_mt[11]? = some (yX2_init, cX2_init, 2, ((none))) := rfl
theorem lk_s11_0_2 : lk_seg 11 [(.aload_n 0, 1, (0, [], .null)), (.aload_n 1, 1, (0, [], .null))] 0 = some 2 := by decide +kernel
theorem lk_i11_2 : lk_ins 11 2 = some (.invokespecial 3, 3, (3, [(0, 55)], .ref 10)) := lk_eqE_eq (by decide +kernel)
theorem lk_i11_5 : lk_ins 11 5 = some (.return_, 1, (0, [], .null)) := lk_eqE_eq (by decide +kernel)
set_option maxRecDepth 20000 in
theorem E_k_init {X : lk_X} {d : Nat} {a0 a1 : Nat} {h : lk_H} {Q : Option Value → lk_H → Prop} (H : lk_ob h a0 (lk_wxv X d 55 [.ref a0, .ref a1] h (fun h1 => Q none h1))) : lk_wx X (d + 1) 11 [.ref a0, .ref a1] h Q := by
  refine lk_enter (lo := [.ref a0, .ref a1]) lk_M11 rfl (Nat.le_of_ble_eq_true rfl) ?_
  refine lk_wp_seg (lo' := [.ref a0, .ref a1]) (st' := [.ref a1, .ref a0]) lk_M11 lk_s11_0_2 rfl ?_
  refine lk_wp_cp (as := [.ref a1]) (r := []) (a := a0) lk_i11_2 lk_M11 rfl rfl rfl rfl (Nat.le_of_ble_eq_true rfl) H (fun H => lk_gv H (fun h1 H => ?_))
  exact lk_wp_ret lk_i11_5 lk_M11 rfl H
/-! LonelyDots$Marks.told([I)LLonelyDots$Marks; -/
theorem lk_M12 : lk_mt[12]? = some (yX2_told, cX2_told, 2, ((some (FieldType.object "LonelyDots$Marks")))) := rfl
theorem lk_i12_0 : lk_ins 12 0 = some (.new 9, 3, (2, [], .null)) := lk_eqE_eq (by decide +kernel)
theorem lk_s12_3_2 : lk_seg 12 [(.dup, 1, (0, [], .null)), (.aload_n 0, 1, (0, [], .null))] 3 = some 5 := by decide +kernel
theorem lk_i12_5 : lk_ins 12 5 = some (.invokespecial 11, 3, (3, [(0, 11)], .ref 11)) := lk_eqE_eq (by decide +kernel)
theorem lk_s12_8_3 : lk_seg 12 [(.astore_n 1, 1, (0, [], .null)), (.aload_n 1, 1, (0, [], .null)), (.iconst 0, 1, (0, [], .int (0)))] 8 = some 11 := by decide +kernel
theorem lk_i12_11 : lk_ins 12 11 = some (.invokevirtual 12, 3, (2, [(2, 58), (5, 58), (6, 58)], .ref 12)) := lk_eqE_eq (by decide +kernel)
theorem lk_s12_14_1 : lk_seg 12 [(.ldc 16, 2, (0, [], .int (-1000000)))] 14 = some 16 := by decide +kernel
theorem lk_i12_16 : lk_ins 12 16 = some (.if_icmp .eq 5, 3, (21, [], .null)) := lk_eqE_eq (by decide +kernel)
theorem lk_s12_21_1 : lk_seg 12 [(.aload_n 1, 1, (0, [], .null))] 21 = some 22 := by decide +kernel
theorem lk_i12_22 : lk_ins 12 22 = some (.invokevirtual 17, 3, (2, [(2, 14)], .ref 13)) := lk_eqE_eq (by decide +kernel)
theorem lk_i12_25 : lk_ins 12 25 = some (.ifCond .eq 14, 3, (39, [], .null)) := lk_eqE_eq (by decide +kernel)
theorem lk_i12_39 : lk_ins 12 39 = some (.new 24, 3, (6, [], .null)) := lk_eqE_eq (by decide +kernel)
theorem lk_s12_42_2 : lk_seg 12 [(.dup, 1, (0, [], .null)), (.aload_n 0, 1, (0, [], .null))] 42 = some 44 := by decide +kernel
theorem lk_i12_44 : lk_ins 12 44 = some (.invokespecial 26, 3, (3, [(0, 42)], .ref 15)) := lk_eqE_eq (by decide +kernel)
theorem lk_i12_47 : lk_ins 12 47 = some (.areturn, 1, (0, [], .null)) := lk_eqE_eq (by decide +kernel)
theorem lk_i12_28 : lk_ins 12 28 = some (.new 21, 3, (5, [], .null)) := lk_eqE_eq (by decide +kernel)
theorem lk_s12_31_2 : lk_seg 12 [(.dup, 1, (0, [], .null)), (.aload_n 0, 1, (0, [], .null))] 31 = some 33 := by decide +kernel
theorem lk_i12_33 : lk_ins 12 33 = some (.invokespecial 23, 3, (3, [(0, 39)], .ref 14)) := lk_eqE_eq (by decide +kernel)
theorem lk_s12_36_1 : lk_seg 12 [(.goto 11, 3, (47, [], .null))] 36 = some 47 := by decide +kernel
theorem lk_s12_19_1 : lk_seg 12 [(.aload_n 1, 1, (0, [], .null))] 19 = some 20 := by decide +kernel
theorem lk_i12_20 : lk_ins 12 20 = some (.areturn, 1, (0, [], .null)) := lk_eqE_eq (by decide +kernel)
set_option maxRecDepth 20000 in
theorem E_k_told {X : lk_X} {d : Nat} {a0 : Nat} {h : lk_H} {Q : Option Value → lk_H → Prop} (H : lk_ob ((h ++ [.inr (2, [.null])])) h.length (lk_wxv X d 11 [.ref (h.length), .ref a0] ((h ++ [.inr (2, [.null])])) (fun h1 => lk_vc h1 h.length [(2, 58), (5, 58), (6, 58)] (fun k9 => lk_wxi X d k9 [.ref (h.length), .int 0] h1 (fun r3 h2 => (r3 = (-1000000) → lk_vc h2 h.length [(2, 14)] (fun k8 => lk_wxi X d k8 [.ref (h.length)] h2 (fun r5 h4 => (r5 = 0 → lk_ob ((h4 ++ [.inr (6, [.null])])) h4.length (lk_wxv X d 42 [.ref (h4.length), .ref a0] ((h4 ++ [.inr (6, [.null])])) (fun h6 => Q (some (.ref (h4.length))) h6))) ∧ (¬ r5 = 0 → lk_ob ((h4 ++ [.inr (5, [.null])])) h4.length (lk_wxv X d 39 [.ref (h4.length), .ref a0] ((h4 ++ [.inr (5, [.null])])) (fun h7 => Q (some (.ref (h4.length))) h7)))))) ∧ (¬ r3 = (-1000000) → Q (some (.ref (h.length))) h2)))))) : lk_wx X (d + 1) 12 [.ref a0] h Q := by
  refine lk_enter (lo := [.ref a0, .retAddr 0]) lk_M12 rfl (Nat.le_of_ble_eq_true rfl) ?_
  refine lk_wp_new lk_i12_0 lk_M12 rfl ?_
  refine lk_wp_seg (lo' := [.ref a0, .retAddr 0]) (st' := [.ref a0, .ref (h.length), .ref (h.length)]) lk_M12 lk_s12_3_2 rfl ?_
  refine lk_wp_cp (as := [.ref a0]) (r := [.ref (h.length)]) (a := h.length) lk_i12_5 lk_M12 rfl rfl rfl rfl (Nat.le_of_ble_eq_true rfl) H (fun H => lk_gv H (fun h1 H => ?_))
  refine lk_wp_seg (lo' := [.ref a0, .ref (h.length)]) (st' := [.int 0, .ref (h.length)]) lk_M12 lk_s12_8_3 rfl ?_
  refine lk_wp_cv (as := [.int 0]) (r := []) (a := h.length) lk_i12_11 lk_M12 rfl rfl rfl (Nat.le_of_ble_eq_true rfl) H (fun k9 H => lk_gi H (fun r3 h2 H => ?_))
  refine lk_wp_seg (lo' := [.ref a0, .ref (h.length)]) (st' := [.int ((-1000000)), .int r3]) lk_M12 lk_s12_14_1 rfl ?_
  refine lk_wp_ic_eq lk_i12_16 lk_M12 H (fun H => ?_) (fun H => ?_)
  · refine lk_wp_seg (lo' := [.ref a0, .ref (h.length)]) (st' := [.ref (h.length)]) lk_M12 lk_s12_21_1 rfl ?_
    refine lk_wp_cv (as := []) (r := []) (a := h.length) lk_i12_22 lk_M12 rfl rfl rfl (Nat.le_of_ble_eq_true rfl) H (fun k8 H => lk_gi H (fun r5 h4 H => ?_))
    refine lk_wp_if_eq lk_i12_25 lk_M12 H (fun H => ?_) (fun H => ?_)
    · refine lk_wp_new lk_i12_39 lk_M12 rfl ?_
      refine lk_wp_seg (lo' := [.ref a0, .ref (h.length)]) (st' := [.ref a0, .ref (h4.length), .ref (h4.length)]) lk_M12 lk_s12_42_2 rfl ?_
      refine lk_wp_cp (as := [.ref a0]) (r := [.ref (h4.length)]) (a := h4.length) lk_i12_44 lk_M12 rfl rfl rfl rfl (Nat.le_of_ble_eq_true rfl) H (fun H => lk_gv H (fun h6 H => ?_))
      exact lk_wp_ret lk_i12_47 lk_M12 rfl H
    · refine lk_wp_new lk_i12_28 lk_M12 rfl ?_
      refine lk_wp_seg (lo' := [.ref a0, .ref (h.length)]) (st' := [.ref a0, .ref (h4.length), .ref (h4.length)]) lk_M12 lk_s12_31_2 rfl ?_
      refine lk_wp_cp (as := [.ref a0]) (r := [.ref (h4.length)]) (a := h4.length) lk_i12_33 lk_M12 rfl rfl rfl rfl (Nat.le_of_ble_eq_true rfl) H (fun H => lk_gv H (fun h7 H => ?_))
      refine lk_wp_seg (lo' := [.ref a0, .ref (h.length)]) (st' := [.ref (h4.length)]) lk_M12 lk_s12_36_1 rfl ?_
      exact lk_wp_ret lk_i12_47 lk_M12 rfl H
  · refine lk_wp_seg (lo' := [.ref a0, .ref (h.length)]) (st' := [.ref (h.length)]) lk_M12 lk_s12_19_1 rfl ?_
    exact lk_wp_ret lk_i12_20 lk_M12 rfl H
/-! LonelyDots$Marks.rise([I)Z -/
theorem lk_M13 : lk_mt[13]? = some (yX2_rise, cX2_rise, 6, ((some FieldType.boolean))) := rfl
theorem lk_s13_0_5 : lk_seg 13 [(.iconst (-1), 1, (0, [], .int (-1))), (.istore_n 1, 1, (0, [], .null)), (.aload_n 0, 1, (0, [], .null)), (.astore_n 2, 1, (0, [], .null)), (.aload_n 2, 1, (0, [], .null))] 0 = some 5 := by decide +kernel
theorem lk_i13_5 : lk_ins 13 5 = some (.arraylength, 1, (0, [], .null)) := lk_eqE_eq (by decide +kernel)
theorem lk_s13_6_3 : lk_seg 13 [(.istore_n 3, 1, (0, [], .null)), (.iconst 0, 1, (0, [], .int (0))), (.istore 4, 2, (0, [], .null))] 6 = some 10 := by decide +kernel
theorem lk_s13_10_2 : lk_seg 13 [(.iload 4, 2, (0, [], .null)), (.iload_n 3, 1, (0, [], .null))] 10 = some 13 := by decide +kernel
theorem lk_i13_13 : lk_ins 13 13 = some (.if_icmp .ge 34, 3, (47, [], .null)) := lk_eqE_eq (by decide +kernel)
theorem lk_s13_47_1 : lk_seg 13 [(.iconst 1, 1, (0, [], .int (1)))] 47 = some 48 := by decide +kernel
theorem lk_i13_48 : lk_ins 13 48 = some (.ireturn, 1, (0, [], .null)) := lk_eqE_eq (by decide +kernel)
theorem lk_s13_16_2 : lk_seg 13 [(.aload_n 2, 1, (0, [], .null)), (.iload 4, 2, (0, [], .null))] 16 = some 19 := by decide +kernel
theorem lk_i13_19 : lk_ins 13 19 = some (.iaload, 1, (0, [], .null)) := lk_eqE_eq (by decide +kernel)
theorem lk_s13_20_3 : lk_seg 13 [(.istore 5, 2, (0, [], .null)), (.iload 5, 2, (0, [], .null)), (.iload_n 1, 1, (0, [], .null))] 20 = some 25 := by decide +kernel
theorem lk_i13_25 : lk_ins 13 25 = some (.if_icmp .le 11, 3, (36, [], .null)) := lk_eqE_eq (by decide +kernel)
theorem lk_s13_36_1 : lk_seg 13 [(.iconst 0, 1, (0, [], .int (0)))] 36 = some 37 := by decide +kernel
theorem lk_i13_37 : lk_ins 13 37 = some (.ireturn, 1, (0, [], .null)) := lk_eqE_eq (by decide +kernel)
theorem lk_s13_28_2 : lk_seg 13 [(.iload 5, 2, (0, [], .null)), (.sipush 200, 3, (0, [], .int (200)))] 28 = some 33 := by decide +kernel
theorem lk_i13_33 : lk_ins 13 33 = some (.if_icmp .le 5, 3, (38, [], .null)) := lk_eqE_eq (by decide +kernel)
theorem lk_s13_38_4 : lk_seg 13 [(.iload 5, 2, (0, [], .null)), (.istore_n 1, 1, (0, [], .null)), (.iinc 4 1, 3, (0, [], .int (1))), (.goto (-34), 3, (10, [], .null))] 38 = some 10 := by decide +kernel
set_option maxRecDepth 20000 in
theorem E_k_rise {X : lk_X} {d : Nat} {a0 : Nat} {h : lk_H} {Q : Option Value → lk_H → Prop} (H : lk_al2 h a0 (fun r1 => lk_wp X (d + 1) 13 10 [.retAddr 0, .int ((-1)), .ref a0, .int r1, .int 0, .retAddr 0] [] h Q)) : lk_wx X (d + 1) 13 [.ref a0] h Q := by
  refine lk_enter (lo := [.ref a0, .retAddr 0, .retAddr 0, .retAddr 0, .retAddr 0, .retAddr 0]) lk_M13 rfl (Nat.le_of_ble_eq_true rfl) ?_
  refine lk_wp_seg (lo' := [.ref a0, .int ((-1)), .ref a0, .retAddr 0, .retAddr 0, .retAddr 0]) (st' := [.ref a0]) lk_M13 lk_s13_0_5 rfl ?_
  refine lk_wp_al lk_i13_5 lk_M13 H (fun r1 H => ?_)
  refine lk_wp_seg (lo' := [.ref a0, .int ((-1)), .ref a0, .int r1, .int 0, .retAddr 0]) (st' := []) lk_M13 lk_s13_6_3 rfl ?_
  exact H.forget (lk_le_d (lk_le_s (lk_le_s (lk_le_s (lk_le_s (lk_le_s lk_le_n))))))
set_option maxRecDepth 20000 in
theorem F_k_rise_10 {X : lk_X} {d : Nat} {x1 x3 x4 : Int32} {a2 : Nat} {h : lk_H} {Q : Option Value → lk_H → Prop} (H : (x3 ≤ x4 → Q (some (.int 1)) h) ∧ (¬ x3 ≤ x4 → lk_ai h a2 x4 (fun r1 => (r1 ≤ x1 → Q (some (.int 0)) h) ∧ (¬ r1 ≤ x1 → (r1 ≤ 200 → lk_wp X (d + 1) 13 10 [.retAddr 0, .int r1, .ref a2, .int x3, .int (x4 + 1), .retAddr 0] [] h Q) ∧ (¬ r1 ≤ 200 → Q (some (.int 0)) h))))) : lk_wp X (d + 1) 13 10 [.retAddr 0, .int x1, .ref a2, .int x3, .int x4, .retAddr 0] [] h Q := by
  refine lk_wp_seg (lo' := [.retAddr 0, .int x1, .ref a2, .int x3, .int x4, .retAddr 0]) (st' := [.int x3, .int x4]) lk_M13 lk_s13_10_2 rfl ?_
  refine lk_wp_ic_ge lk_i13_13 lk_M13 H (fun H => ?_) (fun H => ?_)
  · refine lk_wp_seg (lo' := [.retAddr 0, .int x1, .ref a2, .int x3, .int x4, .retAddr 0]) (st' := [.int 1]) lk_M13 lk_s13_47_1 rfl ?_
    exact lk_wp_ret lk_i13_48 lk_M13 rfl H
  · refine lk_wp_seg (lo' := [.retAddr 0, .int x1, .ref a2, .int x3, .int x4, .retAddr 0]) (st' := [.int x4, .ref a2]) lk_M13 lk_s13_16_2 rfl ?_
    refine lk_wp_ai lk_i13_19 lk_M13 H (fun r1 H => ?_)
    refine lk_wp_seg (lo' := [.retAddr 0, .int x1, .ref a2, .int x3, .int x4, .int r1]) (st' := [.int x1, .int r1]) lk_M13 lk_s13_20_3 rfl ?_
    refine lk_wp_ic_le lk_i13_25 lk_M13 H (fun H => ?_) (fun H => ?_)
    · refine lk_wp_seg (lo' := [.retAddr 0, .int x1, .ref a2, .int x3, .int x4, .int r1]) (st' := [.int 0]) lk_M13 lk_s13_36_1 rfl ?_
      exact lk_wp_ret lk_i13_37 lk_M13 rfl H
    · refine lk_wp_seg (lo' := [.retAddr 0, .int x1, .ref a2, .int x3, .int x4, .int r1]) (st' := [.int 200, .int r1]) lk_M13 lk_s13_28_2 rfl ?_
      refine lk_wp_ic_le lk_i13_33 lk_M13 H (fun H => ?_) (fun H => ?_)
      · refine lk_wp_seg (lo' := [.retAddr 0, .int r1, .ref a2, .int x3, .int (x4 + 1), .int r1]) (st' := []) lk_M13 lk_s13_38_4 rfl ?_
        exact H.forget (lk_le_s (lk_le_s (lk_le_s (lk_le_s (lk_le_s (lk_le_d lk_le_n))))))
      · refine lk_wp_seg (lo' := [.retAddr 0, .int x1, .ref a2, .int x3, .int x4, .int r1]) (st' := [.int 0]) lk_M13 lk_s13_36_1 rfl ?_
        exact lk_wp_ret lk_i13_37 lk_M13 rfl H
/-! LonelyDots$Marks.hasAllDistances()Z -/
theorem lk_M14 : lk_mt[14]? = some (yX2_hasAllDistances, cX2_hasAllDistances, 2, ((some FieldType.boolean))) := rfl
theorem lk_s14_0_1 : lk_seg 14 [(.aload_n 0, 1, (0, [], .null))] 0 = some 1 := by decide +kernel
theorem lk_i14_1 : lk_ins 14 1 = some (.getfield 27, 3, (0, [(0, 3), (2, 3), (4, 3), (5, 3), (6, 3)], .null)) := lk_eqE_eq (by decide +kernel)
theorem lk_i14_4 : lk_ins 14 4 = some (.arraylength, 1, (0, [], .null)) := lk_eqE_eq (by decide +kernel)
theorem lk_s14_5_7 : lk_seg 14 [(.istore_n 1, 1, (0, [], .null)), (.iload_n 1, 1, (0, [], .null)), (.iload_n 1, 1, (0, [], .null)), (.iconst 1, 1, (0, [], .int (1))), (.isub, 1, (0, [], .null)), (.imul, 1, (0, [], .null)), (.iconst 2, 1, (0, [], .int (2)))] 5 = some 12 := by decide +kernel
theorem lk_i14_12 : lk_ins 14 12 = some (.idiv, 1, (0, [], .null)) := lk_eqE_eq (by decide +kernel)
theorem lk_s14_13_1 : lk_seg 14 [(.aload_n 0, 1, (0, [], .null))] 13 = some 14 := by decide +kernel
theorem lk_i14_14 : lk_ins 14 14 = some (.getfield 27, 3, (0, [(0, 3), (2, 3), (4, 3), (5, 3), (6, 3)], .null)) := lk_eqE_eq (by decide +kernel)
theorem lk_s14_17_3 : lk_seg 14 [(.iload_n 1, 1, (0, [], .null)), (.iconst 1, 1, (0, [], .int (1))), (.isub, 1, (0, [], .null))] 17 = some 20 := by decide +kernel
theorem lk_i14_20 : lk_ins 14 20 = some (.iaload, 1, (0, [], .null)) := lk_eqE_eq (by decide +kernel)
theorem lk_s14_21_1 : lk_seg 14 [(.aload_n 0, 1, (0, [], .null))] 21 = some 22 := by decide +kernel
theorem lk_i14_22 : lk_ins 14 22 = some (.getfield 27, 3, (0, [(0, 3), (2, 3), (4, 3), (5, 3), (6, 3)], .null)) := lk_eqE_eq (by decide +kernel)
theorem lk_s14_25_1 : lk_seg 14 [(.iconst 0, 1, (0, [], .int (0)))] 25 = some 26 := by decide +kernel
theorem lk_i14_26 : lk_ins 14 26 = some (.iaload, 1, (0, [], .null)) := lk_eqE_eq (by decide +kernel)
theorem lk_s14_27_1 : lk_seg 14 [(.isub, 1, (0, [], .null))] 27 = some 28 := by decide +kernel
theorem lk_i14_28 : lk_ins 14 28 = some (.if_icmp .ne 7, 3, (35, [], .null)) := lk_eqE_eq (by decide +kernel)
theorem lk_s14_35_1 : lk_seg 14 [(.iconst 0, 1, (0, [], .int (0)))] 35 = some 36 := by decide +kernel
theorem lk_i14_36 : lk_ins 14 36 = some (.ireturn, 1, (0, [], .null)) := lk_eqE_eq (by decide +kernel)
theorem lk_s14_31_2 : lk_seg 14 [(.iconst 1, 1, (0, [], .int (1))), (.goto 4, 3, (36, [], .null))] 31 = some 36 := by decide +kernel
set_option maxRecDepth 20000 in
theorem E_k_hasAllDistances {X : lk_X} {d : Nat} {a0 : Nat} {h : lk_H} {Q : Option Value → lk_H → Prop} (H : lk_fR h a0 0 [(0, 3), (2, 3), (4, 3), (5, 3), (6, 3)] (fun r1 => lk_al2 h r1 (fun r2 => ¬ (2 : Int32) = 0 ∧ (lk_fR h a0 0 [(0, 3), (2, 3), (4, 3), (5, 3), (6, 3)] (fun r3 => lk_ai h r3 (r2 - 1) (fun r4 => lk_fR h a0 0 [(0, 3), (2, 3), (4, 3), (5, 3), (6, 3)] (fun r5 => lk_ai h r5 0 (fun r6 => (¬ ((r2 * (r2 - 1)) / (2 : Int32)) = (r4 - r6) → Q (some (.int 0)) h) ∧ (((r2 * (r2 - 1)) / (2 : Int32)) = (r4 - r6) → Q (some (.int 1)) h))))))))) : lk_wx X (d + 1) 14 [.ref a0] h Q := by
  refine lk_enter (lo := [.ref a0, .retAddr 0]) lk_M14 rfl (Nat.le_of_ble_eq_true rfl) ?_
  refine lk_wp_seg (lo' := [.ref a0, .retAddr 0]) (st' := [.ref a0]) lk_M14 lk_s14_0_1 rfl ?_
  refine lk_wp_fR lk_i14_1 lk_M14 H (fun r1 H => ?_)
  refine lk_wp_al lk_i14_4 lk_M14 H (fun r2 H => ?_)
  refine lk_wp_seg (lo' := [.ref a0, .int r2]) (st' := [.int 2, .int (r2 * (r2 - 1))]) lk_M14 lk_s14_5_7 rfl ?_
  refine lk_wp_div lk_i14_12 lk_M14 H (fun H => ?_)
  refine lk_wp_seg (lo' := [.ref a0, .int r2]) (st' := [.ref a0, .int ((r2 * (r2 - 1)) / (2 : Int32))]) lk_M14 lk_s14_13_1 rfl ?_
  refine lk_wp_fR lk_i14_14 lk_M14 H (fun r3 H => ?_)
  refine lk_wp_seg (lo' := [.ref a0, .int r2]) (st' := [.int (r2 - 1), .ref r3, .int ((r2 * (r2 - 1)) / (2 : Int32))]) lk_M14 lk_s14_17_3 rfl ?_
  refine lk_wp_ai lk_i14_20 lk_M14 H (fun r4 H => ?_)
  refine lk_wp_seg (lo' := [.ref a0, .int r2]) (st' := [.ref a0, .int r4, .int ((r2 * (r2 - 1)) / (2 : Int32))]) lk_M14 lk_s14_21_1 rfl ?_
  refine lk_wp_fR lk_i14_22 lk_M14 H (fun r5 H => ?_)
  refine lk_wp_seg (lo' := [.ref a0, .int r2]) (st' := [.int 0, .ref r5, .int r4, .int ((r2 * (r2 - 1)) / (2 : Int32))]) lk_M14 lk_s14_25_1 rfl ?_
  refine lk_wp_ai lk_i14_26 lk_M14 H (fun r6 H => ?_)
  refine lk_wp_seg (lo' := [.ref a0, .int r2]) (st' := [.int (r4 - r6), .int ((r2 * (r2 - 1)) / (2 : Int32))]) lk_M14 lk_s14_27_1 rfl ?_
  refine lk_wp_ic_ne lk_i14_28 lk_M14 H (fun H => ?_) (fun H => ?_)
  · refine lk_wp_seg (lo' := [.ref a0, .int r2]) (st' := [.int 0]) lk_M14 lk_s14_35_1 rfl ?_
    exact lk_wp_ret lk_i14_36 lk_M14 rfl H
  · refine lk_wp_seg (lo' := [.ref a0, .int r2]) (st' := [.int 1]) lk_M14 lk_s14_31_2 rfl ?_
    exact lk_wp_ret lk_i14_36 lk_M14 rfl H
/-! LonelyDots$Marks.toldKind()I -/
theorem lk_M15 : lk_mt[15]? = some (yX2_toldKind, cX2_toldKind, 1, ((some FieldType.int))) := rfl
theorem lk_s15_0_1 : lk_seg 15 [(.iconst 3, 1, (0, [], .int (3)))] 0 = some 1 := by decide +kernel
theorem lk_i15_1 : lk_ins 15 1 = some (.ireturn, 1, (0, [], .null)) := lk_eqE_eq (by decide +kernel)
set_option maxRecDepth 20000 in
theorem E_k_toldKind {X : lk_X} {d : Nat} {a0 : Nat} {h : lk_H} {Q : Option Value → lk_H → Prop} (H : Q (some (.int 3)) h) : lk_wx X (d + 1) 15 [.ref a0] h Q := by
  refine lk_enter (lo := [.ref a0]) lk_M15 rfl (Nat.le_of_ble_eq_true rfl) ?_
  refine lk_wp_seg (lo' := [.ref a0]) (st' := [.int 3]) lk_M15 lk_s15_0_1 rfl ?_
  exact lk_wp_ret lk_i15_1 lk_M15 rfl H
/-! LonelyDots$Marks.secondAlike(III)I -/
theorem lk_M16 : lk_mt[16]? = some (yX2_secondAlike, cX2_secondAlike, 6, ((some FieldType.int))) := rfl
theorem lk_s16_0_1 : lk_seg 16 [(.aload_n 0, 1, (0, [], .null))] 0 = some 1 := by decide +kernel
theorem lk_i16_1 : lk_ins 16 1 = some (.getfield 27, 3, (0, [(0, 3), (2, 3), (4, 3), (5, 3), (6, 3)], .null)) := lk_eqE_eq (by decide +kernel)
theorem lk_s16_4_1 : lk_seg 16 [(.iload_n 3, 1, (0, [], .null))] 4 = some 5 := by decide +kernel
theorem lk_i16_5 : lk_ins 16 5 = some (.iaload, 1, (0, [], .null)) := lk_eqE_eq (by decide +kernel)
theorem lk_s16_6_1 : lk_seg 16 [(.aload_n 0, 1, (0, [], .null))] 6 = some 7 := by decide +kernel
theorem lk_i16_7 : lk_ins 16 7 = some (.getfield 27, 3, (0, [(0, 3), (2, 3), (4, 3), (5, 3), (6, 3)], .null)) := lk_eqE_eq (by decide +kernel)
theorem lk_s16_10_1 : lk_seg 16 [(.iload_n 2, 1, (0, [], .null))] 10 = some 11 := by decide +kernel
theorem lk_i16_11 : lk_ins 16 11 = some (.iaload, 1, (0, [], .null)) := lk_eqE_eq (by decide +kernel)
theorem lk_s16_12_2 : lk_seg 16 [(.iadd, 1, (0, [], .null)), (.aload_n 0, 1, (0, [], .null))] 12 = some 14 := by decide +kernel
theorem lk_i16_14 : lk_ins 16 14 = some (.getfield 27, 3, (0, [(0, 3), (2, 3), (4, 3), (5, 3), (6, 3)], .null)) := lk_eqE_eq (by decide +kernel)
theorem lk_s16_17_1 : lk_seg 16 [(.iload_n 1, 1, (0, [], .null))] 17 = some 18 := by decide +kernel
theorem lk_i16_18 : lk_ins 16 18 = some (.iaload, 1, (0, [], .null)) := lk_eqE_eq (by decide +kernel)
theorem lk_s16_19_6 : lk_seg 16 [(.isub, 1, (0, [], .null)), (.istore 4, 2, (0, [], .null)), (.iload_n 3, 1, (0, [], .null)), (.iconst 1, 1, (0, [], .int (1))), (.iadd, 1, (0, [], .null)), (.istore 5, 2, (0, [], .null))] 19 = some 27 := by decide +kernel
theorem lk_s16_27_2 : lk_seg 16 [(.iload 5, 2, (0, [], .null)), (.aload_n 0, 1, (0, [], .null))] 27 = some 30 := by decide +kernel
theorem lk_i16_30 : lk_ins 16 30 = some (.getfield 27, 3, (0, [(0, 3), (2, 3), (4, 3), (5, 3), (6, 3)], .null)) := lk_eqE_eq (by decide +kernel)
theorem lk_i16_33 : lk_ins 16 33 = some (.arraylength, 1, (0, [], .null)) := lk_eqE_eq (by decide +kernel)
theorem lk_i16_34 : lk_ins 16 34 = some (.if_icmp .ge 24, 3, (58, [], .null)) := lk_eqE_eq (by decide +kernel)
theorem lk_s16_58_1 : lk_seg 16 [(.iconst (-1), 1, (0, [], .int (-1)))] 58 = some 59 := by decide +kernel
theorem lk_i16_59 : lk_ins 16 59 = some (.ireturn, 1, (0, [], .null)) := lk_eqE_eq (by decide +kernel)
theorem lk_s16_37_1 : lk_seg 16 [(.aload_n 0, 1, (0, [], .null))] 37 = some 38 := by decide +kernel
theorem lk_i16_38 : lk_ins 16 38 = some (.getfield 27, 3, (0, [(0, 3), (2, 3), (4, 3), (5, 3), (6, 3)], .null)) := lk_eqE_eq (by decide +kernel)
theorem lk_s16_41_1 : lk_seg 16 [(.iload 5, 2, (0, [], .null))] 41 = some 43 := by decide +kernel
theorem lk_i16_43 : lk_ins 16 43 = some (.iaload, 1, (0, [], .null)) := lk_eqE_eq (by decide +kernel)
theorem lk_s16_44_1 : lk_seg 16 [(.iload 4, 2, (0, [], .null))] 44 = some 46 := by decide +kernel
theorem lk_i16_46 : lk_ins 16 46 = some (.if_icmp .ne 6, 3, (52, [], .null)) := lk_eqE_eq (by decide +kernel)
theorem lk_s16_52_2 : lk_seg 16 [(.iinc 5 1, 3, (0, [], .int (1))), (.goto (-28), 3, (27, [], .null))] 52 = some 27 := by decide +kernel
theorem lk_s16_49_1 : lk_seg 16 [(.iload 5, 2, (0, [], .null))] 49 = some 51 := by decide +kernel
theorem lk_i16_51 : lk_ins 16 51 = some (.ireturn, 1, (0, [], .null)) := lk_eqE_eq (by decide +kernel)
set_option maxRecDepth 20000 in
theorem E_k_secondAlike {X : lk_X} {d : Nat} {x1 x2 x3 : Int32} {a0 : Nat} {h : lk_H} {Q : Option Value → lk_H → Prop} (H : lk_fR h a0 0 [(0, 3), (2, 3), (4, 3), (5, 3), (6, 3)] (fun r1 => lk_ai h r1 x3 (fun r2 => lk_fR h a0 0 [(0, 3), (2, 3), (4, 3), (5, 3), (6, 3)] (fun r3 => lk_ai h r3 x2 (fun r4 => lk_fR h a0 0 [(0, 3), (2, 3), (4, 3), (5, 3), (6, 3)] (fun r5 => lk_ai h r5 x1 (fun r6 => lk_wp X (d + 1) 16 27 [.ref a0, .retAddr 0, .retAddr 0, .retAddr 0, .int ((r2 + r4) - r6), .int (x3 + 1)] [] h Q))))))) : lk_wx X (d + 1) 16 [.ref a0, .int x1, .int x2, .int x3] h Q := by
  refine lk_enter (lo := [.ref a0, .int x1, .int x2, .int x3, .retAddr 0, .retAddr 0]) lk_M16 rfl (Nat.le_of_ble_eq_true rfl) ?_
  refine lk_wp_seg (lo' := [.ref a0, .int x1, .int x2, .int x3, .retAddr 0, .retAddr 0]) (st' := [.ref a0]) lk_M16 lk_s16_0_1 rfl ?_
  refine lk_wp_fR lk_i16_1 lk_M16 H (fun r1 H => ?_)
  refine lk_wp_seg (lo' := [.ref a0, .int x1, .int x2, .int x3, .retAddr 0, .retAddr 0]) (st' := [.int x3, .ref r1]) lk_M16 lk_s16_4_1 rfl ?_
  refine lk_wp_ai lk_i16_5 lk_M16 H (fun r2 H => ?_)
  refine lk_wp_seg (lo' := [.ref a0, .int x1, .int x2, .int x3, .retAddr 0, .retAddr 0]) (st' := [.ref a0, .int r2]) lk_M16 lk_s16_6_1 rfl ?_
  refine lk_wp_fR lk_i16_7 lk_M16 H (fun r3 H => ?_)
  refine lk_wp_seg (lo' := [.ref a0, .int x1, .int x2, .int x3, .retAddr 0, .retAddr 0]) (st' := [.int x2, .ref r3, .int r2]) lk_M16 lk_s16_10_1 rfl ?_
  refine lk_wp_ai lk_i16_11 lk_M16 H (fun r4 H => ?_)
  refine lk_wp_seg (lo' := [.ref a0, .int x1, .int x2, .int x3, .retAddr 0, .retAddr 0]) (st' := [.ref a0, .int (r2 + r4)]) lk_M16 lk_s16_12_2 rfl ?_
  refine lk_wp_fR lk_i16_14 lk_M16 H (fun r5 H => ?_)
  refine lk_wp_seg (lo' := [.ref a0, .int x1, .int x2, .int x3, .retAddr 0, .retAddr 0]) (st' := [.int x1, .ref r5, .int (r2 + r4)]) lk_M16 lk_s16_17_1 rfl ?_
  refine lk_wp_ai lk_i16_18 lk_M16 H (fun r6 H => ?_)
  refine lk_wp_seg (lo' := [.ref a0, .int x1, .int x2, .int x3, .int ((r2 + r4) - r6), .int (x3 + 1)]) (st' := []) lk_M16 lk_s16_19_6 rfl ?_
  exact H.forget (lk_le_s (lk_le_d (lk_le_d (lk_le_d (lk_le_s (lk_le_s lk_le_n))))))
set_option maxRecDepth 20000 in
theorem F_k_secondAlike_27 {X : lk_X} {d : Nat} {x4 x5 : Int32} {a0 : Nat} {h : lk_H} {Q : Option Value → lk_H → Prop} (H : lk_fR h a0 0 [(0, 3), (2, 3), (4, 3), (5, 3), (6, 3)] (fun r1 => lk_al2 h r1 (fun r2 => (r2 ≤ x5 → Q (some (.int ((-1)))) h) ∧ (¬ r2 ≤ x5 → lk_fR h a0 0 [(0, 3), (2, 3), (4, 3), (5, 3), (6, 3)] (fun r3 => lk_ai h r3 x5 (fun r4 => (¬ r4 = x4 → lk_wp X (d + 1) 16 27 [.ref a0, .retAddr 0, .retAddr 0, .retAddr 0, .int x4, .int (x5 + 1)] [] h Q) ∧ (r4 = x4 → Q (some (.int x5)) h))))))) : lk_wp X (d + 1) 16 27 [.ref a0, .retAddr 0, .retAddr 0, .retAddr 0, .int x4, .int x5] [] h Q := by
  refine lk_wp_seg (lo' := [.ref a0, .retAddr 0, .retAddr 0, .retAddr 0, .int x4, .int x5]) (st' := [.ref a0, .int x5]) lk_M16 lk_s16_27_2 rfl ?_
  refine lk_wp_fR lk_i16_30 lk_M16 H (fun r1 H => ?_)
  refine lk_wp_al lk_i16_33 lk_M16 H (fun r2 H => ?_)
  refine lk_wp_ic_ge lk_i16_34 lk_M16 H (fun H => ?_) (fun H => ?_)
  · refine lk_wp_seg (lo' := [.ref a0, .retAddr 0, .retAddr 0, .retAddr 0, .int x4, .int x5]) (st' := [.int ((-1))]) lk_M16 lk_s16_58_1 rfl ?_
    exact lk_wp_ret lk_i16_59 lk_M16 rfl H
  · refine lk_wp_seg (lo' := [.ref a0, .retAddr 0, .retAddr 0, .retAddr 0, .int x4, .int x5]) (st' := [.ref a0]) lk_M16 lk_s16_37_1 rfl ?_
    refine lk_wp_fR lk_i16_38 lk_M16 H (fun r3 H => ?_)
    refine lk_wp_seg (lo' := [.ref a0, .retAddr 0, .retAddr 0, .retAddr 0, .int x4, .int x5]) (st' := [.int x5, .ref r3]) lk_M16 lk_s16_41_1 rfl ?_
    refine lk_wp_ai lk_i16_43 lk_M16 H (fun r4 H => ?_)
    refine lk_wp_seg (lo' := [.ref a0, .retAddr 0, .retAddr 0, .retAddr 0, .int x4, .int x5]) (st' := [.int x4, .int r4]) lk_M16 lk_s16_44_1 rfl ?_
    refine lk_wp_ic_ne lk_i16_46 lk_M16 H (fun H => ?_) (fun H => ?_)
    · refine lk_wp_seg (lo' := [.ref a0, .retAddr 0, .retAddr 0, .retAddr 0, .int x4, .int (x5 + 1)]) (st' := []) lk_M16 lk_s16_52_2 rfl ?_
      exact H
    · refine lk_wp_seg (lo' := [.ref a0, .retAddr 0, .retAddr 0, .retAddr 0, .int x4, .int x5]) (st' := [.int x5]) lk_M16 lk_s16_49_1 rfl ?_
      exact lk_wp_ret lk_i16_51 lk_M16 rfl H
/-! LonelyDots$Marks.askSize(LLonelyDots$Trace;)I -/
theorem lk_M17 : lk_mt[17]? = some (yX2_askSize, cX2_askSize, 2, ((some FieldType.int))) := rfl
theorem lk_s17_0_2 : lk_seg 17 [(.aload_n 1, 1, (0, [], .null)), (.bipush 12, 2, (0, [], .int (12)))] 0 = some 3 := by decide +kernel
theorem lk_i17_3 : lk_ins 17 3 = some (.invokevirtual 31, 3, (1, [(9, 63)], .ref 1)) := lk_eqE_eq (by decide +kernel)
theorem lk_s17_6_2 : lk_seg 17 [(.aload_n 0, 1, (0, [], .null)), (.aload_n 1, 1, (0, [], .null))] 6 = some 8 := by decide +kernel
theorem lk_i17_8 : lk_ins 17 8 = some (.invokespecial 37, 3, (5, [(0, 56)], .ref 16)) := lk_eqE_eq (by decide +kernel)
theorem lk_s17_11_1 : lk_seg 17 [(.aload_n 0, 1, (0, [], .null))] 11 = some 12 := by decide +kernel
theorem lk_i17_12 : lk_ins 17 12 = some (.getfield 27, 3, (0, [(0, 3), (2, 3), (4, 3), (5, 3), (6, 3)], .null)) := lk_eqE_eq (by decide +kernel)
theorem lk_s17_15_1 : lk_seg 17 [(.aload_n 0, 1, (0, [], .null))] 15 = some 16 := by decide +kernel
theorem lk_i17_16 : lk_ins 17 16 = some (.getfield 27, 3, (0, [(0, 3), (2, 3), (4, 3), (5, 3), (6, 3)], .null)) := lk_eqE_eq (by decide +kernel)
theorem lk_i17_19 : lk_ins 17 19 = some (.arraylength, 1, (0, [], .null)) := lk_eqE_eq (by decide +kernel)
theorem lk_s17_20_2 : lk_seg 17 [(.iconst 1, 1, (0, [], .int (1))), (.isub, 1, (0, [], .null))] 20 = some 22 := by decide +kernel
theorem lk_i17_22 : lk_ins 17 22 = some (.iaload, 1, (0, [], .null)) := lk_eqE_eq (by decide +kernel)
theorem lk_s17_23_1 : lk_seg 17 [(.iadd, 1, (0, [], .null))] 23 = some 24 := by decide +kernel
theorem lk_i17_24 : lk_ins 17 24 = some (.ireturn, 1, (0, [], .null)) := lk_eqE_eq (by decide +kernel)
set_option maxRecDepth 20000 in
theorem E_k_askSize {X : lk_X} {d : Nat} {a0 a1 : Nat} {h : lk_H} {Q : Option Value → lk_H → Prop} (H : lk_vc h a1 [(9, 63)] (fun k8 => lk_wxv X d k8 [.ref a1, .int 12] h (fun h1 => lk_ob h1 a0 (lk_wxi X d 56 [.ref a0, .ref a1] h1 (fun r3 h2 => lk_fR h2 a0 0 [(0, 3), (2, 3), (4, 3), (5, 3), (6, 3)] (fun r4 => lk_fR h2 a0 0 [(0, 3), (2, 3), (4, 3), (5, 3), (6, 3)] (fun r5 => lk_al2 h2 r5 (fun r6 => lk_ai h2 r4 (r6 - 1) (fun r7 => Q (some (.int (r3 + r7))) h2))))))))) : lk_wx X (d + 1) 17 [.ref a0, .ref a1] h Q := by
  refine lk_enter (lo := [.ref a0, .ref a1]) lk_M17 rfl (Nat.le_of_ble_eq_true rfl) ?_
  refine lk_wp_seg (lo' := [.ref a0, .ref a1]) (st' := [.int 12, .ref a1]) lk_M17 lk_s17_0_2 rfl ?_
  refine lk_wp_cv (as := [.int 12]) (r := []) (a := a1) lk_i17_3 lk_M17 rfl rfl rfl (Nat.le_of_ble_eq_true rfl) H (fun k8 H => lk_gv H (fun h1 H => ?_))
  refine lk_wp_seg (lo' := [.ref a0, .ref a1]) (st' := [.ref a1, .ref a0]) lk_M17 lk_s17_6_2 rfl ?_
  refine lk_wp_cp (as := [.ref a1]) (r := []) (a := a0) lk_i17_8 lk_M17 rfl rfl rfl rfl (Nat.le_of_ble_eq_true rfl) H (fun H => lk_gi H (fun r3 h2 H => ?_))
  refine lk_wp_seg (lo' := [.ref a0, .ref a1]) (st' := [.ref a0, .int r3]) lk_M17 lk_s17_11_1 rfl ?_
  refine lk_wp_fR lk_i17_12 lk_M17 H (fun r4 H => ?_)
  refine lk_wp_seg (lo' := [.ref a0, .ref a1]) (st' := [.ref a0, .ref r4, .int r3]) lk_M17 lk_s17_15_1 rfl ?_
  refine lk_wp_fR lk_i17_16 lk_M17 H (fun r5 H => ?_)
  refine lk_wp_al lk_i17_19 lk_M17 H (fun r6 H => ?_)
  refine lk_wp_seg (lo' := [.ref a0, .ref a1]) (st' := [.int (r6 - 1), .ref r4, .int r3]) lk_M17 lk_s17_20_2 rfl ?_
  refine lk_wp_ai lk_i17_22 lk_M17 H (fun r7 H => ?_)
  refine lk_wp_seg (lo' := [.ref a0, .ref a1]) (st' := [.int (r3 + r7)]) lk_M17 lk_s17_23_1 rfl ?_
  exact lk_wp_ret lk_i17_24 lk_M17 rfl H
/-! LonelyDots$Marks.askMark(LLonelyDots$Trace;)I -/
theorem lk_M18 : lk_mt[18]? = some (yX2_askMark, cX2_askMark, 2, ((some FieldType.int))) := rfl
theorem lk_s18_0_2 : lk_seg 18 [(.aload_n 1, 1, (0, [], .null)), (.bipush 22, 2, (0, [], .int (22)))] 0 = some 3 := by decide +kernel
theorem lk_i18_3 : lk_ins 18 3 = some (.invokevirtual 31, 3, (1, [(9, 63)], .ref 1)) := lk_eqE_eq (by decide +kernel)
theorem lk_s18_6_1 : lk_seg 18 [(.aload_n 0, 1, (0, [], .null))] 6 = some 7 := by decide +kernel
theorem lk_i18_7 : lk_ins 18 7 = some (.getfield 27, 3, (0, [(0, 3), (2, 3), (4, 3), (5, 3), (6, 3)], .null)) := lk_eqE_eq (by decide +kernel)
theorem lk_i18_10 : lk_ins 18 10 = some (.arraylength, 1, (0, [], .null)) := lk_eqE_eq (by decide +kernel)
theorem lk_i18_11 : lk_ins 18 11 = some (.ireturn, 1, (0, [], .null)) := lk_eqE_eq (by decide +kernel)
set_option maxRecDepth 20000 in
theorem E_k_askMark {X : lk_X} {d : Nat} {a0 a1 : Nat} {h : lk_H} {Q : Option Value → lk_H → Prop} (H : lk_vc h a1 [(9, 63)] (fun k4 => lk_wxv X d k4 [.ref a1, .int 22] h (fun h1 => lk_fR h1 a0 0 [(0, 3), (2, 3), (4, 3), (5, 3), (6, 3)] (fun r2 => lk_al2 h1 r2 (fun r3 => Q (some (.int r3)) h1))))) : lk_wx X (d + 1) 18 [.ref a0, .ref a1] h Q := by
  refine lk_enter (lo := [.ref a0, .ref a1]) lk_M18 rfl (Nat.le_of_ble_eq_true rfl) ?_
  refine lk_wp_seg (lo' := [.ref a0, .ref a1]) (st' := [.int 22, .ref a1]) lk_M18 lk_s18_0_2 rfl ?_
  refine lk_wp_cv (as := [.int 22]) (r := []) (a := a1) lk_i18_3 lk_M18 rfl rfl rfl (Nat.le_of_ble_eq_true rfl) H (fun k4 H => lk_gv H (fun h1 H => ?_))
  refine lk_wp_seg (lo' := [.ref a0, .ref a1]) (st' := [.ref a0]) lk_M18 lk_s18_6_1 rfl ?_
  refine lk_wp_fR lk_i18_7 lk_M18 H (fun r2 H => ?_)
  refine lk_wp_al lk_i18_10 lk_M18 H (fun r3 H => ?_)
  exact lk_wp_ret lk_i18_11 lk_M18 rfl H
/-! LonelyDots$Moves.<init>()V -/
theorem lk_M19 : lk_mt[19]? = some (yX3_init, cX3_init, 1, ((none))) := rfl
theorem lk_s19_0_1 : lk_seg 19 [(.aload_n 0, 1, (0, [], .null))] 0 = some 1 := by decide +kernel
theorem lk_i19_1 : lk_ins 19 1 = some (.invokespecial 3, 3, (100, [], .null)) := lk_eqE_eq (by decide +kernel)
theorem lk_s19_4_2 : lk_seg 19 [(.aload_n 0, 1, (0, [], .null)), (.bipush 31, 2, (0, [], .int (31)))] 4 = some 7 := by decide +kernel
theorem lk_i19_7 : lk_ins 19 7 = some (.newarray .int, 2, (0, [], .null)) := lk_eqE_eq (by decide +kernel)
theorem lk_i19_9 : lk_ins 19 9 = some (.putfield 9, 3, (0, [(3, 0)], .null)) := lk_eqE_eq (by decide +kernel)
theorem lk_s19_12_2 : lk_seg 19 [(.aload_n 0, 1, (0, [], .null)), (.sipush 441, 3, (0, [], .int (441)))] 12 = some 16 := by decide +kernel
theorem lk_i19_16 : lk_ins 19 16 = some (.newarray .int, 2, (0, [], .null)) := lk_eqE_eq (by decide +kernel)
theorem lk_i19_18 : lk_ins 19 18 = some (.putfield 15, 3, (1, [(3, 0)], .null)) := lk_eqE_eq (by decide +kernel)
theorem lk_i19_21 : lk_ins 19 21 = some (.return_, 1, (0, [], .null)) := lk_eqE_eq (by decide +kernel)
set_option maxRecDepth 20000 in
theorem E_mv_init {X : lk_X} {d : Nat} {a0 : Nat} {h : lk_H} {Q : Option Value → lk_H → Prop} (H : lk_nw (31 : Int32) (lk_pf ((h ++ [.inl (0, ((31 : Int32).toNatClampNeg, .inl (fun _ => 0)))])) a0 0 [(3, 0)] (.ref (h.length)) (fun h1 => lk_nw (441 : Int32) (lk_pf ((h1 ++ [.inl (0, ((441 : Int32).toNatClampNeg, .inl (fun _ => 0)))])) a0 1 [(3, 0)] (.ref (h1.length)) (fun h2 => Q none h2))))) : lk_wx X (d + 1) 19 [.ref a0] h Q := by
  refine lk_enter (lo := [.ref a0]) lk_M19 rfl (Nat.le_of_ble_eq_true rfl) ?_
  refine lk_wp_seg (lo' := [.ref a0]) (st' := [.ref a0]) lk_M19 lk_s19_0_1 rfl ?_
  refine lk_wp_one lk_i19_1 lk_M19 rfl rfl rfl ?_
  refine lk_wp_seg (lo' := [.ref a0]) (st' := [.int 31, .ref a0]) lk_M19 lk_s19_4_2 rfl ?_
  refine lk_wp_new_int lk_i19_7 lk_M19 H (fun H => ?_)
  refine lk_wp_pf lk_i19_9 lk_M19 H (fun h1 H => ?_)
  refine lk_wp_seg (lo' := [.ref a0]) (st' := [.int 441, .ref a0]) lk_M19 lk_s19_12_2 rfl ?_
  refine lk_wp_new_int lk_i19_16 lk_M19 H (fun H => ?_)
  refine lk_wp_pf lk_i19_18 lk_M19 H (fun h2 H => ?_)
  exact lk_wp_ret lk_i19_21 lk_M19 rfl H
/-! LonelyDots$Moves.meetingDots([I[III)I -/
theorem lk_M20 : lk_mt[20]? = some (yX3_meetingDots, cX3_meetingDots, 7, ((some FieldType.int))) := rfl
theorem lk_s20_0_4 : lk_seg 20 [(.iconst 0, 1, (0, [], .int (0))), (.istore 4, 2, (0, [], .null)), (.iconst 0, 1, (0, [], .int (0))), (.istore 5, 2, (0, [], .null))] 0 = some 6 := by decide +kernel
theorem lk_s20_6_2 : lk_seg 20 [(.iload 5, 2, (0, [], .null)), (.aload_n 1, 1, (0, [], .null))] 6 = some 9 := by decide +kernel
theorem lk_i20_9 : lk_ins 20 9 = some (.arraylength, 1, (0, [], .null)) := lk_eqE_eq (by decide +kernel)
theorem lk_i20_10 : lk_ins 20 10 = some (.if_icmp .ge 43, 3, (53, [], .null)) := lk_eqE_eq (by decide +kernel)
theorem lk_s20_53_1 : lk_seg 20 [(.iload 4, 2, (0, [], .null))] 53 = some 55 := by decide +kernel
theorem lk_i20_55 : lk_ins 20 55 = some (.ireturn, 1, (0, [], .null)) := lk_eqE_eq (by decide +kernel)
theorem lk_s20_13_5 : lk_seg 20 [(.iload 5, 2, (0, [], .null)), (.iload_n 2, 1, (0, [], .null)), (.iadd, 1, (0, [], .null)), (.istore 6, 2, (0, [], .null)), (.iload 6, 2, (0, [], .null))] 13 = some 21 := by decide +kernel
theorem lk_i20_21 : lk_ins 20 21 = some (.ifCond .lt 26, 3, (47, [], .null)) := lk_eqE_eq (by decide +kernel)
theorem lk_s20_47_2 : lk_seg 20 [(.iinc 5 1, 3, (0, [], .int (1))), (.goto (-44), 3, (6, [], .null))] 47 = some 6 := by decide +kernel
theorem lk_s20_24_2 : lk_seg 20 [(.iload 6, 2, (0, [], .null)), (.aload_n 0, 1, (0, [], .null))] 24 = some 27 := by decide +kernel
theorem lk_i20_27 : lk_ins 20 27 = some (.arraylength, 1, (0, [], .null)) := lk_eqE_eq (by decide +kernel)
theorem lk_i20_28 : lk_ins 20 28 = some (.if_icmp .ge 19, 3, (47, [], .null)) := lk_eqE_eq (by decide +kernel)
theorem lk_s20_31_2 : lk_seg 20 [(.aload_n 0, 1, (0, [], .null)), (.iload 6, 2, (0, [], .null))] 31 = some 34 := by decide +kernel
theorem lk_i20_34 : lk_ins 20 34 = some (.iaload, 1, (0, [], .null)) := lk_eqE_eq (by decide +kernel)
theorem lk_s20_35_2 : lk_seg 20 [(.aload_n 1, 1, (0, [], .null)), (.iload 5, 2, (0, [], .null))] 35 = some 38 := by decide +kernel
theorem lk_i20_38 : lk_ins 20 38 = some (.iaload, 1, (0, [], .null)) := lk_eqE_eq (by decide +kernel)
theorem lk_s20_39_2 : lk_seg 20 [(.iload_n 3, 1, (0, [], .null)), (.iadd, 1, (0, [], .null))] 39 = some 41 := by decide +kernel
theorem lk_i20_41 : lk_ins 20 41 = some (.if_icmp .ne 6, 3, (47, [], .null)) := lk_eqE_eq (by decide +kernel)
theorem lk_s20_44_3 : lk_seg 20 [(.iinc 4 1, 3, (0, [], .int (1))), (.iinc 5 1, 3, (0, [], .int (1))), (.goto (-44), 3, (6, [], .null))] 44 = some 6 := by decide +kernel
set_option maxRecDepth 20000 in
theorem E_mv_meetingDots {X : lk_X} {d : Nat} {x2 x3 : Int32} {a0 a1 : Nat} {h : lk_H} {Q : Option Value → lk_H → Prop} (H : lk_wp X (d + 1) 20 6 [.ref a0, .ref a1, .int x2, .int x3, .int 0, .int 0, .retAddr 0] [] h Q) : lk_wx X (d + 1) 20 [.ref a0, .ref a1, .int x2, .int x3] h Q := by
  refine lk_enter (lo := [.ref a0, .ref a1, .int x2, .int x3, .retAddr 0, .retAddr 0, .retAddr 0]) lk_M20 rfl (Nat.le_of_ble_eq_true rfl) ?_
  refine lk_wp_seg (lo' := [.ref a0, .ref a1, .int x2, .int x3, .int 0, .int 0, .retAddr 0]) (st' := []) lk_M20 lk_s20_0_4 rfl ?_
  exact H
set_option maxRecDepth 20000 in
theorem F_mv_meetingDots_6 {X : lk_X} {d : Nat} {x2 x3 x4 x5 : Int32} {a0 a1 : Nat} {h : lk_H} {Q : Option Value → lk_H → Prop} (H : lk_al2 h a1 (fun r1 => (r1 ≤ x5 → Q (some (.int x4)) h) ∧ (¬ r1 ≤ x5 → ((x5 + x2) < 0 → lk_wp X (d + 1) 20 6 [.ref a0, .ref a1, .int x2, .int x3, .int x4, .int (x5 + 1), .retAddr 0] [] h Q) ∧ (¬ (x5 + x2) < 0 → lk_al2 h a0 (fun r2 => (r2 ≤ (x5 + x2) → lk_wp X (d + 1) 20 6 [.ref a0, .ref a1, .int x2, .int x3, .int x4, .int (x5 + 1), .retAddr 0] [] h Q) ∧ (¬ r2 ≤ (x5 + x2) → lk_ai h a0 (x5 + x2) (fun r3 => lk_ai h a1 x5 (fun r4 => (¬ r3 = (r4 + x3) → lk_wp X (d + 1) 20 6 [.ref a0, .ref a1, .int x2, .int x3, .int x4, .int (x5 + 1), .retAddr 0] [] h Q) ∧ (r3 = (r4 + x3) → lk_wp X (d + 1) 20 6 [.ref a0, .ref a1, .int x2, .int x3, .int (x4 + 1), .int (x5 + 1), .retAddr 0] [] h Q))))))))) : lk_wp X (d + 1) 20 6 [.ref a0, .ref a1, .int x2, .int x3, .int x4, .int x5, .retAddr 0] [] h Q := by
  refine lk_wp_seg (lo' := [.ref a0, .ref a1, .int x2, .int x3, .int x4, .int x5, .retAddr 0]) (st' := [.ref a1, .int x5]) lk_M20 lk_s20_6_2 rfl ?_
  refine lk_wp_al lk_i20_9 lk_M20 H (fun r1 H => ?_)
  refine lk_wp_ic_ge lk_i20_10 lk_M20 H (fun H => ?_) (fun H => ?_)
  · refine lk_wp_seg (lo' := [.ref a0, .ref a1, .int x2, .int x3, .int x4, .int x5, .retAddr 0]) (st' := [.int x4]) lk_M20 lk_s20_53_1 rfl ?_
    exact lk_wp_ret lk_i20_55 lk_M20 rfl H
  · refine lk_wp_seg (lo' := [.ref a0, .ref a1, .int x2, .int x3, .int x4, .int x5, .int (x5 + x2)]) (st' := [.int (x5 + x2)]) lk_M20 lk_s20_13_5 rfl ?_
    refine lk_wp_if_lt lk_i20_21 lk_M20 H (fun H => ?_) (fun H => ?_)
    · refine lk_wp_seg (lo' := [.ref a0, .ref a1, .int x2, .int x3, .int x4, .int (x5 + 1), .int (x5 + x2)]) (st' := []) lk_M20 lk_s20_47_2 rfl ?_
      exact H.forget (lk_le_s (lk_le_s (lk_le_s (lk_le_s (lk_le_s (lk_le_s (lk_le_d lk_le_n)))))))
    · refine lk_wp_seg (lo' := [.ref a0, .ref a1, .int x2, .int x3, .int x4, .int x5, .int (x5 + x2)]) (st' := [.ref a0, .int (x5 + x2)]) lk_M20 lk_s20_24_2 rfl ?_
      refine lk_wp_al lk_i20_27 lk_M20 H (fun r2 H => ?_)
      refine lk_wp_ic_ge lk_i20_28 lk_M20 H (fun H => ?_) (fun H => ?_)
      · refine lk_wp_seg (lo' := [.ref a0, .ref a1, .int x2, .int x3, .int x4, .int (x5 + 1), .int (x5 + x2)]) (st' := []) lk_M20 lk_s20_47_2 rfl ?_
        exact H.forget (lk_le_s (lk_le_s (lk_le_s (lk_le_s (lk_le_s (lk_le_s (lk_le_d lk_le_n)))))))
      · refine lk_wp_seg (lo' := [.ref a0, .ref a1, .int x2, .int x3, .int x4, .int x5, .int (x5 + x2)]) (st' := [.int (x5 + x2), .ref a0]) lk_M20 lk_s20_31_2 rfl ?_
        refine lk_wp_ai lk_i20_34 lk_M20 H (fun r3 H => ?_)
        refine lk_wp_seg (lo' := [.ref a0, .ref a1, .int x2, .int x3, .int x4, .int x5, .int (x5 + x2)]) (st' := [.int x5, .ref a1, .int r3]) lk_M20 lk_s20_35_2 rfl ?_
        refine lk_wp_ai lk_i20_38 lk_M20 H (fun r4 H => ?_)
        refine lk_wp_seg (lo' := [.ref a0, .ref a1, .int x2, .int x3, .int x4, .int x5, .int (x5 + x2)]) (st' := [.int (r4 + x3), .int r3]) lk_M20 lk_s20_39_2 rfl ?_
        refine lk_wp_ic_ne lk_i20_41 lk_M20 H (fun H => ?_) (fun H => ?_)
        · refine lk_wp_seg (lo' := [.ref a0, .ref a1, .int x2, .int x3, .int x4, .int (x5 + 1), .int (x5 + x2)]) (st' := []) lk_M20 lk_s20_47_2 rfl ?_
          exact H.forget (lk_le_s (lk_le_s (lk_le_s (lk_le_s (lk_le_s (lk_le_s (lk_le_d lk_le_n)))))))
        · refine lk_wp_seg (lo' := [.ref a0, .ref a1, .int x2, .int x3, .int (x4 + 1), .int (x5 + 1), .int (x5 + x2)]) (st' := []) lk_M20 lk_s20_44_3 rfl ?_
          exact H.forget (lk_le_s (lk_le_s (lk_le_s (lk_le_s (lk_le_s (lk_le_s (lk_le_d lk_le_n)))))))
/-! LonelyDots$Moves.mostOfTwo([I[I)I -/
theorem lk_M21 : lk_mt[21]? = some (yX3_mostOfTwo, cX3_mostOfTwo, 5, ((some FieldType.int))) := rfl
theorem lk_s21_0_4 : lk_seg 21 [(.iconst 0, 1, (0, [], .int (0))), (.istore_n 3, 1, (0, [], .null)), (.iconst 1, 1, (0, [], .int (1))), (.aload_n 2, 1, (0, [], .null))] 0 = some 4 := by decide +kernel
theorem lk_i21_4 : lk_ins 21 4 = some (.arraylength, 1, (0, [], .null)) := lk_eqE_eq (by decide +kernel)
theorem lk_s21_5_2 : lk_seg 21 [(.isub, 1, (0, [], .null)), (.istore 4, 2, (0, [], .null))] 5 = some 8 := by decide +kernel
theorem lk_s21_8_2 : lk_seg 21 [(.iload 4, 2, (0, [], .null)), (.aload_n 1, 1, (0, [], .null))] 8 = some 11 := by decide +kernel
theorem lk_i21_11 : lk_ins 21 11 = some (.arraylength, 1, (0, [], .null)) := lk_eqE_eq (by decide +kernel)
theorem lk_i21_12 : lk_ins 21 12 = some (.if_icmp .ge 22, 3, (34, [], .null)) := lk_eqE_eq (by decide +kernel)
theorem lk_s21_34_1 : lk_seg 21 [(.iload_n 3, 1, (0, [], .null))] 34 = some 35 := by decide +kernel
theorem lk_i21_35 : lk_ins 21 35 = some (.ireturn, 1, (0, [], .null)) := lk_eqE_eq (by decide +kernel)
theorem lk_s21_15_5 : lk_seg 21 [(.iload_n 3, 1, (0, [], .null)), (.aload_n 0, 1, (0, [], .null)), (.aload_n 1, 1, (0, [], .null)), (.aload_n 2, 1, (0, [], .null)), (.iload 4, 2, (0, [], .null))] 15 = some 21 := by decide +kernel
theorem lk_i21_21 : lk_ins 21 21 = some (.invokevirtual 18, 3, (1, [(3, 23)], .ref 17)) := lk_eqE_eq (by decide +kernel)
theorem lk_i21_24 : lk_ins 21 24 = some (.invokestatic 22, 3, (102, [], .null)) := lk_eqE_eq (by decide +kernel)
theorem lk_s21_27_3 : lk_seg 21 [(.istore_n 3, 1, (0, [], .null)), (.iinc 4 1, 3, (0, [], .int (1))), (.goto (-23), 3, (8, [], .null))] 27 = some 8 := by decide +kernel
set_option maxRecDepth 20000 in
theorem E_mv_mostOfTwo {X : lk_X} {d : Nat} {a0 a1 a2 : Nat} {h : lk_H} {Q : Option Value → lk_H → Prop} (H : lk_al2 h a2 (fun r1 => lk_wp X (d + 1) 21 8 [.ref a0, .ref a1, .ref a2, .int 0, .int (1 - r1)] [] h Q)) : lk_wx X (d + 1) 21 [.ref a0, .ref a1, .ref a2] h Q := by
  refine lk_enter (lo := [.ref a0, .ref a1, .ref a2, .retAddr 0, .retAddr 0]) lk_M21 rfl (Nat.le_of_ble_eq_true rfl) ?_
  refine lk_wp_seg (lo' := [.ref a0, .ref a1, .ref a2, .int 0, .retAddr 0]) (st' := [.ref a2, .int 1]) lk_M21 lk_s21_0_4 rfl ?_
  refine lk_wp_al lk_i21_4 lk_M21 H (fun r1 H => ?_)
  refine lk_wp_seg (lo' := [.ref a0, .ref a1, .ref a2, .int 0, .int (1 - r1)]) (st' := []) lk_M21 lk_s21_5_2 rfl ?_
  exact H
set_option maxRecDepth 20000 in
theorem F_mv_mostOfTwo_8 {X : lk_X} {d : Nat} {x3 x4 : Int32} {a0 a1 a2 : Nat} {h : lk_H} {Q : Option Value → lk_H → Prop} (H : lk_al2 h a1 (fun r1 => (r1 ≤ x4 → Q (some (.int x3)) h) ∧ (¬ r1 ≤ x4 → lk_vc h a0 [(3, 23)] (fun k4 => lk_wxi X d k4 [.ref a0, .ref a1, .ref a2, .int x4] h (fun r3 h2 => lk_wp X (d + 1) 21 8 [.ref a0, .ref a1, .ref a2, .int (if x3 < r3 then r3 else x3), .int (x4 + 1)] [] h2 Q))))) : lk_wp X (d + 1) 21 8 [.ref a0, .ref a1, .ref a2, .int x3, .int x4] [] h Q := by
  refine lk_wp_seg (lo' := [.ref a0, .ref a1, .ref a2, .int x3, .int x4]) (st' := [.ref a1, .int x4]) lk_M21 lk_s21_8_2 rfl ?_
  refine lk_wp_al lk_i21_11 lk_M21 H (fun r1 H => ?_)
  refine lk_wp_ic_ge lk_i21_12 lk_M21 H (fun H => ?_) (fun H => ?_)
  · refine lk_wp_seg (lo' := [.ref a0, .ref a1, .ref a2, .int x3, .int x4]) (st' := [.int x3]) lk_M21 lk_s21_34_1 rfl ?_
    exact lk_wp_ret lk_i21_35 lk_M21 rfl H
  · refine lk_wp_seg (lo' := [.ref a0, .ref a1, .ref a2, .int x3, .int x4]) (st' := [.int x4, .ref a2, .ref a1, .ref a0, .int x3]) lk_M21 lk_s21_15_5 rfl ?_
    refine lk_wp_cv (as := [.ref a1, .ref a2, .int x4]) (r := [.int x3]) (a := a0) lk_i21_21 lk_M21 rfl rfl rfl (Nat.le_of_ble_eq_true rfl) H (fun k4 H => lk_gi H (fun r3 h2 H => ?_))
    refine lk_wp_max lk_i21_24 lk_M21 rfl rfl (Nat.le_of_ble_eq_true rfl) ?_
    refine lk_wp_seg (lo' := [.ref a0, .ref a1, .ref a2, .int (if x3 < r3 then r3 else x3), .int (x4 + 1)]) (st' := []) lk_M21 lk_s21_27_3 rfl ?_
    exact H
/-! LonelyDots$Moves.mostWithItself([I)I -/
theorem lk_M22 : lk_mt[22]? = some (yX3_mostWithItself, cX3_mostWithItself, 4, ((some FieldType.int))) := rfl
theorem lk_s22_0_4 : lk_seg 22 [(.iconst 0, 1, (0, [], .int (0))), (.istore_n 2, 1, (0, [], .null)), (.iconst 1, 1, (0, [], .int (1))), (.istore_n 3, 1, (0, [], .null))] 0 = some 4 := by decide +kernel
theorem lk_s22_4_2 : lk_seg 22 [(.iload_n 3, 1, (0, [], .null)), (.aload_n 1, 1, (0, [], .null))] 4 = some 6 := by decide +kernel
theorem lk_i22_6 : lk_ins 22 6 = some (.arraylength, 1, (0, [], .null)) := lk_eqE_eq (by decide +kernel)
theorem lk_i22_7 : lk_ins 22 7 = some (.if_icmp .ge 21, 3, (28, [], .null)) := lk_eqE_eq (by decide +kernel)
theorem lk_s22_28_1 : lk_seg 22 [(.iload_n 2, 1, (0, [], .null))] 28 = some 29 := by decide +kernel
theorem lk_i22_29 : lk_ins 22 29 = some (.ireturn, 1, (0, [], .null)) := lk_eqE_eq (by decide +kernel)
theorem lk_s22_10_5 : lk_seg 22 [(.iload_n 2, 1, (0, [], .null)), (.aload_n 0, 1, (0, [], .null)), (.aload_n 1, 1, (0, [], .null)), (.aload_n 1, 1, (0, [], .null)), (.iload_n 3, 1, (0, [], .null))] 10 = some 15 := by decide +kernel
theorem lk_i22_15 : lk_ins 22 15 = some (.invokevirtual 18, 3, (1, [(3, 23)], .ref 17)) := lk_eqE_eq (by decide +kernel)
theorem lk_i22_18 : lk_ins 22 18 = some (.invokestatic 22, 3, (102, [], .null)) := lk_eqE_eq (by decide +kernel)
theorem lk_s22_21_3 : lk_seg 22 [(.istore_n 2, 1, (0, [], .null)), (.iinc 3 1, 3, (0, [], .int (1))), (.goto (-21), 3, (4, [], .null))] 21 = some 4 := by decide +kernel
set_option maxRecDepth 20000 in
theorem E_mv_mostWithItself {X : lk_X} {d : Nat} {a0 a1 : Nat} {h : lk_H} {Q : Option Value → lk_H → Prop} (H : lk_wp X (d + 1) 22 4 [.ref a0, .ref a1, .int 0, .int 1] [] h Q) : lk_wx X (d + 1) 22 [.ref a0, .ref a1] h Q := by
  refine lk_enter (lo := [.ref a0, .ref a1, .retAddr 0, .retAddr 0]) lk_M22 rfl (Nat.le_of_ble_eq_true rfl) ?_
  refine lk_wp_seg (lo' := [.ref a0, .ref a1, .int 0, .int 1]) (st' := []) lk_M22 lk_s22_0_4 rfl ?_
  exact H
set_option maxRecDepth 20000 in
theorem F_mv_mostWithItself_4 {X : lk_X} {d : Nat} {x2 x3 : Int32} {a0 a1 : Nat} {h : lk_H} {Q : Option Value → lk_H → Prop} (H : lk_al2 h a1 (fun r1 => (r1 ≤ x3 → Q (some (.int x2)) h) ∧ (¬ r1 ≤ x3 → lk_vc h a0 [(3, 23)] (fun k4 => lk_wxi X d k4 [.ref a0, .ref a1, .ref a1, .int x3] h (fun r3 h2 => lk_wp X (d + 1) 22 4 [.ref a0, .ref a1, .int (if x2 < r3 then r3 else x2), .int (x3 + 1)] [] h2 Q))))) : lk_wp X (d + 1) 22 4 [.ref a0, .ref a1, .int x2, .int x3] [] h Q := by
  refine lk_wp_seg (lo' := [.ref a0, .ref a1, .int x2, .int x3]) (st' := [.ref a1, .int x3]) lk_M22 lk_s22_4_2 rfl ?_
  refine lk_wp_al lk_i22_6 lk_M22 H (fun r1 H => ?_)
  refine lk_wp_ic_ge lk_i22_7 lk_M22 H (fun H => ?_) (fun H => ?_)
  · refine lk_wp_seg (lo' := [.ref a0, .ref a1, .int x2, .int x3]) (st' := [.int x2]) lk_M22 lk_s22_28_1 rfl ?_
    exact lk_wp_ret lk_i22_29 lk_M22 rfl H
  · refine lk_wp_seg (lo' := [.ref a0, .ref a1, .int x2, .int x3]) (st' := [.int x3, .ref a1, .ref a1, .ref a0, .int x2]) lk_M22 lk_s22_10_5 rfl ?_
    refine lk_wp_cv (as := [.ref a1, .ref a1, .int x3]) (r := [.int x2]) (a := a0) lk_i22_15 lk_M22 rfl rfl rfl (Nat.le_of_ble_eq_true rfl) H (fun k4 H => lk_gi H (fun r3 h2 H => ?_))
    refine lk_wp_max lk_i22_18 lk_M22 rfl rfl (Nat.le_of_ble_eq_true rfl) ?_
    refine lk_wp_seg (lo' := [.ref a0, .ref a1, .int (if x2 < r3 then r3 else x2), .int (x3 + 1)]) (st' := []) lk_M22 lk_s22_21_3 rfl ?_
    exact H
/-! LonelyDots$Moves.mostMovedByRows([I[II)I -/
theorem lk_M23 : lk_mt[23]? = some (yX3_mostMovedByRows, cX3_mostMovedByRows, 8, ((some FieldType.int))) := rfl
theorem lk_s23_0_1 : lk_seg 23 [(.aload_n 0, 1, (0, [], .null))] 0 = some 1 := by decide +kernel
theorem lk_i23_1 : lk_ins 23 1 = some (.getfield 9, 3, (0, [(3, 0)], .null)) := lk_eqE_eq (by decide +kernel)
theorem lk_s23_4_1 : lk_seg 23 [(.iconst 0, 1, (0, [], .int (0)))] 4 = some 5 := by decide +kernel
theorem lk_i23_5 : lk_ins 23 5 = some (.invokestatic 28, 3, (0, [(0, 170)], .ref 18)) := lk_eqE_eq (by decide +kernel)
theorem lk_s23_8_4 : lk_seg 23 [(.iconst 0, 1, (0, [], .int (0))), (.istore 4, 2, (0, [], .null)), (.iconst 0, 1, (0, [], .int (0))), (.istore 5, 2, (0, [], .null))] 8 = some 14 := by decide +kernel
theorem lk_s23_14_2 : lk_seg 23 [(.iload 5, 2, (0, [], .null)), (.aload_n 2, 1, (0, [], .null))] 14 = some 17 := by decide +kernel
theorem lk_i23_17 : lk_ins 23 17 = some (.arraylength, 1, (0, [], .null)) := lk_eqE_eq (by decide +kernel)
theorem lk_i23_18 : lk_ins 23 18 = some (.if_icmp .ge 68, 3, (86, [], .null)) := lk_eqE_eq (by decide +kernel)
theorem lk_s23_86_1 : lk_seg 23 [(.iload 4, 2, (0, [], .null))] 86 = some 88 := by decide +kernel
theorem lk_i23_88 : lk_ins 23 88 = some (.ireturn, 1, (0, [], .null)) := lk_eqE_eq (by decide +kernel)
theorem lk_s23_21_5 : lk_seg 23 [(.iload 5, 2, (0, [], .null)), (.iload_n 3, 1, (0, [], .null)), (.iadd, 1, (0, [], .null)), (.istore 6, 2, (0, [], .null)), (.iload 6, 2, (0, [], .null))] 21 = some 29 := by decide +kernel
theorem lk_i23_29 : lk_ins 23 29 = some (.ifCond .lt 51, 3, (80, [], .null)) := lk_eqE_eq (by decide +kernel)
theorem lk_s23_80_2 : lk_seg 23 [(.iinc 5 1, 3, (0, [], .int (1))), (.goto (-69), 3, (14, [], .null))] 80 = some 14 := by decide +kernel
theorem lk_s23_32_2 : lk_seg 23 [(.iload 6, 2, (0, [], .null)), (.aload_n 1, 1, (0, [], .null))] 32 = some 35 := by decide +kernel
theorem lk_i23_35 : lk_ins 23 35 = some (.arraylength, 1, (0, [], .null)) := lk_eqE_eq (by decide +kernel)
theorem lk_i23_36 : lk_ins 23 36 = some (.if_icmp .ge 44, 3, (80, [], .null)) := lk_eqE_eq (by decide +kernel)
theorem lk_s23_39_2 : lk_seg 23 [(.aload_n 1, 1, (0, [], .null)), (.iload 6, 2, (0, [], .null))] 39 = some 42 := by decide +kernel
theorem lk_i23_42 : lk_ins 23 42 = some (.iaload, 1, (0, [], .null)) := lk_eqE_eq (by decide +kernel)
theorem lk_s23_43_2 : lk_seg 23 [(.aload_n 2, 1, (0, [], .null)), (.iload 5, 2, (0, [], .null))] 43 = some 46 := by decide +kernel
theorem lk_i23_46 : lk_ins 23 46 = some (.iaload, 1, (0, [], .null)) := lk_eqE_eq (by decide +kernel)
theorem lk_s23_47_7 : lk_seg 23 [(.isub, 1, (0, [], .null)), (.bipush 16, 2, (0, [], .int (16))), (.iadd, 1, (0, [], .null)), (.iconst 1, 1, (0, [], .int (1))), (.isub, 1, (0, [], .null)), (.istore 7, 2, (0, [], .null)), (.aload_n 0, 1, (0, [], .null))] 47 = some 56 := by decide +kernel
theorem lk_i23_56 : lk_ins 23 56 = some (.getfield 9, 3, (0, [(3, 0)], .null)) := lk_eqE_eq (by decide +kernel)
theorem lk_s23_59_2 : lk_seg 23 [(.iload 7, 2, (0, [], .null)), (.dup2, 1, (0, [], .null))] 59 = some 62 := by decide +kernel
theorem lk_i23_62 : lk_ins 23 62 = some (.iaload, 1, (0, [], .null)) := lk_eqE_eq (by decide +kernel)
theorem lk_s23_63_2 : lk_seg 23 [(.iconst 1, 1, (0, [], .int (1))), (.iadd, 1, (0, [], .null))] 63 = some 65 := by decide +kernel
theorem lk_i23_65 : lk_ins 23 65 = some (.iastore, 1, (0, [], .null)) := lk_eqE_eq (by decide +kernel)
theorem lk_s23_66_2 : lk_seg 23 [(.iload 4, 2, (0, [], .null)), (.aload_n 0, 1, (0, [], .null))] 66 = some 69 := by decide +kernel
theorem lk_i23_69 : lk_ins 23 69 = some (.getfield 9, 3, (0, [(3, 0)], .null)) := lk_eqE_eq (by decide +kernel)
theorem lk_s23_72_1 : lk_seg 23 [(.iload 7, 2, (0, [], .null))] 72 = some 74 := by decide +kernel
theorem lk_i23_74 : lk_ins 23 74 = some (.iaload, 1, (0, [], .null)) := lk_eqE_eq (by decide +kernel)
theorem lk_i23_75 : lk_ins 23 75 = some (.invokestatic 22, 3, (102, [], .null)) := lk_eqE_eq (by decide +kernel)
theorem lk_s23_78_3 : lk_seg 23 [(.istore 4, 2, (0, [], .null)), (.iinc 5 1, 3, (0, [], .int (1))), (.goto (-69), 3, (14, [], .null))] 78 = some 14 := by decide +kernel
set_option maxRecDepth 20000 in
theorem E_mv_mostMovedByRows {X : lk_X} {d : Nat} {x3 : Int32} {a0 a1 a2 : Nat} {h : lk_H} {Q : Option Value → lk_H → Prop} (H : lk_fR h a0 0 [(3, 0)] (fun r1 => lk_wxv X d 170 [.ref r1, .int 0] h (fun h2 => lk_wp X (d + 1) 23 14 [.ref a0, .ref a1, .ref a2, .int x3, .int 0, .int 0, .retAddr 0, .retAddr 0] [] h2 Q))) : lk_wx X (d + 1) 23 [.ref a0, .ref a1, .ref a2, .int x3] h Q := by
  refine lk_enter (lo := [.ref a0, .ref a1, .ref a2, .int x3, .retAddr 0, .retAddr 0, .retAddr 0, .retAddr 0]) lk_M23 rfl (Nat.le_of_ble_eq_true rfl) ?_
  refine lk_wp_seg (lo' := [.ref a0, .ref a1, .ref a2, .int x3, .retAddr 0, .retAddr 0, .retAddr 0, .retAddr 0]) (st' := [.ref a0]) lk_M23 lk_s23_0_1 rfl ?_
  refine lk_wp_fR lk_i23_1 lk_M23 H (fun r1 H => ?_)
  refine lk_wp_seg (lo' := [.ref a0, .ref a1, .ref a2, .int x3, .retAddr 0, .retAddr 0, .retAddr 0, .retAddr 0]) (st' := [.int 0, .ref r1]) lk_M23 lk_s23_4_1 rfl ?_
  refine lk_wp_cs (as := [.ref r1, .int 0]) (r := []) lk_i23_5 lk_M23 rfl rfl rfl rfl (Nat.le_of_ble_eq_true rfl) (lk_gv H (fun h2 H => ?_))
  refine lk_wp_seg (lo' := [.ref a0, .ref a1, .ref a2, .int x3, .int 0, .int 0, .retAddr 0, .retAddr 0]) (st' := []) lk_M23 lk_s23_8_4 rfl ?_
  exact H
set_option maxRecDepth 20000 in
theorem F_mv_mostMovedByRows_14 {X : lk_X} {d : Nat} {x3 x4 x5 : Int32} {a0 a1 a2 : Nat} {h : lk_H} {Q : Option Value → lk_H → Prop} (H : lk_al2 h a2 (fun r1 => (r1 ≤ x5 → Q (some (.int x4)) h) ∧ (¬ r1 ≤ x5 → ((x5 + x3) < 0 → lk_wp X (d + 1) 23 14 [.ref a0, .ref a1, .ref a2, .int x3, .int x4, .int (x5 + 1), .retAddr 0, .retAddr 0] [] h Q) ∧ (¬ (x5 + x3) < 0 → lk_al2 h a1 (fun r2 => (r2 ≤ (x5 + x3) → lk_wp X (d + 1) 23 14 [.ref a0, .ref a1, .ref a2, .int x3, .int x4, .int (x5 + 1), .retAddr 0, .retAddr 0] [] h Q) ∧ (¬ r2 ≤ (x5 + x3) → lk_ai h a1 (x5 + x3) (fun r3 => lk_ai h a2 x5 (fun r4 => lk_fR h a0 0 [(3, 0)] (fun r5 => lk_ai h r5 (((r3 - r4) + 16) - 1) (fun r6 => lk_as h r5 (((r3 - r4) + 16) - 1) (r6 + 1) (fun h7 => lk_fR h7 a0 0 [(3, 0)] (fun r8 => lk_ai h7 r8 (((r3 - r4) + 16) - 1) (fun r9 => lk_wp X (d + 1) 23 14 [.ref a0, .ref a1, .ref a2, .int x3, .int (if x4 < r9 then r9 else x4), .int (x5 + 1), .retAddr 0, .retAddr 0] [] h7 Q))))))))))))) : lk_wp X (d + 1) 23 14 [.ref a0, .ref a1, .ref a2, .int x3, .int x4, .int x5, .retAddr 0, .retAddr 0] [] h Q := by
  refine lk_wp_seg (lo' := [.ref a0, .ref a1, .ref a2, .int x3, .int x4, .int x5, .retAddr 0, .retAddr 0]) (st' := [.ref a2, .int x5]) lk_M23 lk_s23_14_2 rfl ?_
  refine lk_wp_al lk_i23_17 lk_M23 H (fun r1 H => ?_)
  refine lk_wp_ic_ge lk_i23_18 lk_M23 H (fun H => ?_) (fun H => ?_)
  · refine lk_wp_seg (lo' := [.ref a0, .ref a1, .ref a2, .int x3, .int x4, .int x5, .retAddr 0, .retAddr 0]) (st' := [.int x4]) lk_M23 lk_s23_86_1 rfl ?_
    exact lk_wp_ret lk_i23_88 lk_M23 rfl H
  · refine lk_wp_seg (lo' := [.ref a0, .ref a1, .ref a2, .int x3, .int x4, .int x5, .int (x5 + x3), .retAddr 0]) (st' := [.int (x5 + x3)]) lk_M23 lk_s23_21_5 rfl ?_
    refine lk_wp_if_lt lk_i23_29 lk_M23 H (fun H => ?_) (fun H => ?_)
    · refine lk_wp_seg (lo' := [.ref a0, .ref a1, .ref a2, .int x3, .int x4, .int (x5 + 1), .int (x5 + x3), .retAddr 0]) (st' := []) lk_M23 lk_s23_80_2 rfl ?_
      exact H.forget (lk_le_s (lk_le_s (lk_le_s (lk_le_s (lk_le_s (lk_le_s (lk_le_d (lk_le_s lk_le_n))))))))
    · refine lk_wp_seg (lo' := [.ref a0, .ref a1, .ref a2, .int x3, .int x4, .int x5, .int (x5 + x3), .retAddr 0]) (st' := [.ref a1, .int (x5 + x3)]) lk_M23 lk_s23_32_2 rfl ?_
      refine lk_wp_al lk_i23_35 lk_M23 H (fun r2 H => ?_)
      refine lk_wp_ic_ge lk_i23_36 lk_M23 H (fun H => ?_) (fun H => ?_)
      · refine lk_wp_seg (lo' := [.ref a0, .ref a1, .ref a2, .int x3, .int x4, .int (x5 + 1), .int (x5 + x3), .retAddr 0]) (st' := []) lk_M23 lk_s23_80_2 rfl ?_
        exact H.forget (lk_le_s (lk_le_s (lk_le_s (lk_le_s (lk_le_s (lk_le_s (lk_le_d (lk_le_s lk_le_n))))))))
      · refine lk_wp_seg (lo' := [.ref a0, .ref a1, .ref a2, .int x3, .int x4, .int x5, .int (x5 + x3), .retAddr 0]) (st' := [.int (x5 + x3), .ref a1]) lk_M23 lk_s23_39_2 rfl ?_
        refine lk_wp_ai lk_i23_42 lk_M23 H (fun r3 H => ?_)
        refine lk_wp_seg (lo' := [.ref a0, .ref a1, .ref a2, .int x3, .int x4, .int x5, .int (x5 + x3), .retAddr 0]) (st' := [.int x5, .ref a2, .int r3]) lk_M23 lk_s23_43_2 rfl ?_
        refine lk_wp_ai lk_i23_46 lk_M23 H (fun r4 H => ?_)
        refine lk_wp_seg (lo' := [.ref a0, .ref a1, .ref a2, .int x3, .int x4, .int x5, .int (x5 + x3), .int (((r3 - r4) + 16) - 1)]) (st' := [.ref a0]) lk_M23 lk_s23_47_7 rfl ?_
        refine lk_wp_fR lk_i23_56 lk_M23 H (fun r5 H => ?_)
        refine lk_wp_seg (lo' := [.ref a0, .ref a1, .ref a2, .int x3, .int x4, .int x5, .int (x5 + x3), .int (((r3 - r4) + 16) - 1)]) (st' := [.int (((r3 - r4) + 16) - 1), .ref r5, .int (((r3 - r4) + 16) - 1), .ref r5]) lk_M23 lk_s23_59_2 rfl ?_
        refine lk_wp_ai lk_i23_62 lk_M23 H (fun r6 H => ?_)
        refine lk_wp_seg (lo' := [.ref a0, .ref a1, .ref a2, .int x3, .int x4, .int x5, .int (x5 + x3), .int (((r3 - r4) + 16) - 1)]) (st' := [.int (r6 + 1), .int (((r3 - r4) + 16) - 1), .ref r5]) lk_M23 lk_s23_63_2 rfl ?_
        refine lk_wp_as lk_i23_65 lk_M23 H (fun h7 H => ?_)
        refine lk_wp_seg (lo' := [.ref a0, .ref a1, .ref a2, .int x3, .int x4, .int x5, .int (x5 + x3), .int (((r3 - r4) + 16) - 1)]) (st' := [.ref a0, .int x4]) lk_M23 lk_s23_66_2 rfl ?_
        refine lk_wp_fR lk_i23_69 lk_M23 H (fun r8 H => ?_)
        refine lk_wp_seg (lo' := [.ref a0, .ref a1, .ref a2, .int x3, .int x4, .int x5, .int (x5 + x3), .int (((r3 - r4) + 16) - 1)]) (st' := [.int (((r3 - r4) + 16) - 1), .ref r8, .int x4]) lk_M23 lk_s23_72_1 rfl ?_
        refine lk_wp_ai lk_i23_74 lk_M23 H (fun r9 H => ?_)
        refine lk_wp_max lk_i23_75 lk_M23 rfl rfl (Nat.le_of_ble_eq_true rfl) ?_
        refine lk_wp_seg (lo' := [.ref a0, .ref a1, .ref a2, .int x3, .int (if x4 < r9 then r9 else x4), .int (x5 + 1), .int (x5 + x3), .int (((r3 - r4) + 16) - 1)]) (st' := []) lk_M23 lk_s23_78_3 rfl ?_
        exact H.forget (lk_le_s (lk_le_s (lk_le_s (lk_le_s (lk_le_s (lk_le_s (lk_le_d (lk_le_d lk_le_n))))))))
/-! LonelyDots$Moves.partOfEcho(I[I[III)I -/
theorem lk_M24 : lk_mt[24]? = some (yX3_partOfEcho, cX3_partOfEcho, 7, ((some FieldType.int))) := rfl
theorem lk_s24_0_1 : lk_seg 24 [(.aload_n 0, 1, (0, [], .null))] 0 = some 1 := by decide +kernel
theorem lk_i24_1 : lk_ins 24 1 = some (.getfield 15, 3, (1, [(3, 0)], .null)) := lk_eqE_eq (by decide +kernel)
theorem lk_s24_4_1 : lk_seg 24 [(.iconst 0, 1, (0, [], .int (0)))] 4 = some 5 := by decide +kernel
theorem lk_i24_5 : lk_ins 24 5 = some (.invokestatic 28, 3, (0, [(0, 170)], .ref 18)) := lk_eqE_eq (by decide +kernel)
theorem lk_s24_8_2 : lk_seg 24 [(.iconst 0, 1, (0, [], .int (0))), (.istore 6, 2, (0, [], .null))] 8 = some 11 := by decide +kernel
theorem lk_s24_11_2 : lk_seg 24 [(.iload 6, 2, (0, [], .null)), (.iload 5, 2, (0, [], .null))] 11 = some 15 := by decide +kernel
theorem lk_i24_15 : lk_ins 24 15 = some (.if_icmp .ge 34, 3, (49, [], .null)) := lk_eqE_eq (by decide +kernel)
theorem lk_s24_49_1 : lk_seg 24 [(.aload_n 0, 1, (0, [], .null))] 49 = some 50 := by decide +kernel
theorem lk_i24_50 : lk_ins 24 50 = some (.invokevirtual 38, 3, (1, [(3, 26)], .ref 20)) := lk_eqE_eq (by decide +kernel)
theorem lk_s24_53_2 : lk_seg 24 [(.istore 6, 2, (0, [], .null)), (.iload_n 1, 1, (0, [], .null))] 53 = some 56 := by decide +kernel
theorem lk_i24_56 : lk_ins 24 56 = some (.lookupswitch 40 #[(0, 28), (1, 34)], 28, (96, [(0, 84), (1, 90)], .null)) := lk_eqE_eq (by decide +kernel)
theorem lk_s24_84_2 : lk_seg 24 [(.iload 6, 2, (0, [], .null)), (.bipush 21, 2, (0, [], .int (21)))] 84 = some 88 := by decide +kernel
theorem lk_i24_88 : lk_ins 24 88 = some (.idiv, 1, (0, [], .null)) := lk_eqE_eq (by decide +kernel)
theorem lk_i24_89 : lk_ins 24 89 = some (.ireturn, 1, (0, [], .null)) := lk_eqE_eq (by decide +kernel)
theorem lk_s24_90_2 : lk_seg 24 [(.iload 6, 2, (0, [], .null)), (.bipush 21, 2, (0, [], .int (21)))] 90 = some 94 := by decide +kernel
theorem lk_i24_94 : lk_ins 24 94 = some (.irem, 1, (0, [], .null)) := lk_eqE_eq (by decide +kernel)
theorem lk_i24_95 : lk_ins 24 95 = some (.ireturn, 1, (0, [], .null)) := lk_eqE_eq (by decide +kernel)
theorem lk_s24_96_1 : lk_seg 24 [(.aload_n 0, 1, (0, [], .null))] 96 = some 97 := by decide +kernel
theorem lk_i24_97 : lk_ins 24 97 = some (.getfield 15, 3, (1, [(3, 0)], .null)) := lk_eqE_eq (by decide +kernel)
theorem lk_s24_100_1 : lk_seg 24 [(.iload 6, 2, (0, [], .null))] 100 = some 102 := by decide +kernel
theorem lk_i24_102 : lk_ins 24 102 = some (.iaload, 1, (0, [], .null)) := lk_eqE_eq (by decide +kernel)
theorem lk_i24_103 : lk_ins 24 103 = some (.ireturn, 1, (0, [], .null)) := lk_eqE_eq (by decide +kernel)
theorem lk_s24_18_8 : lk_seg 24 [(.aload_n 0, 1, (0, [], .null)), (.aload_n 2, 1, (0, [], .null)), (.aload_n 3, 1, (0, [], .null)), (.iload 4, 2, (0, [], .null)), (.iconst 2, 1, (0, [], .int (2))), (.iload 6, 2, (0, [], .null)), (.imul, 1, (0, [], .null)), (.iadd, 1, (0, [], .null))] 18 = some 28 := by decide +kernel
theorem lk_i24_28 : lk_ins 24 28 = some (.iaload, 1, (0, [], .null)) := lk_eqE_eq (by decide +kernel)
theorem lk_s24_29_8 : lk_seg 24 [(.aload_n 3, 1, (0, [], .null)), (.iload 4, 2, (0, [], .null)), (.iconst 2, 1, (0, [], .int (2))), (.iload 6, 2, (0, [], .null)), (.imul, 1, (0, [], .null)), (.iadd, 1, (0, [], .null)), (.iconst 1, 1, (0, [], .int (1))), (.iadd, 1, (0, [], .null))] 29 = some 39 := by decide +kernel
theorem lk_i24_39 : lk_ins 24 39 = some (.iaload, 1, (0, [], .null)) := lk_eqE_eq (by decide +kernel)
theorem lk_i24_40 : lk_ins 24 40 = some (.invokevirtual 34, 3, (1, [(3, 25)], .ref 19)) := lk_eqE_eq (by decide +kernel)
theorem lk_s24_43_2 : lk_seg 24 [(.iinc 6 1, 3, (0, [], .int (1))), (.goto (-35), 3, (11, [], .null))] 43 = some 11 := by decide +kernel
set_option maxRecDepth 20000 in
theorem E_mv_partOfEcho {X : lk_X} {d : Nat} {x1 x4 x5 : Int32} {a0 a2 a3 : Nat} {h : lk_H} {Q : Option Value → lk_H → Prop} (H : lk_fR h a0 1 [(3, 0)] (fun r1 => lk_wxv X d 170 [.ref r1, .int 0] h (fun h2 => lk_wp X (d + 1) 24 11 [.ref a0, .int x1, .ref a2, .ref a3, .int x4, .int x5, .int 0] [] h2 Q))) : lk_wx X (d + 1) 24 [.ref a0, .int x1, .ref a2, .ref a3, .int x4, .int x5] h Q := by
  refine lk_enter (lo := [.ref a0, .int x1, .ref a2, .ref a3, .int x4, .int x5, .retAddr 0]) lk_M24 rfl (Nat.le_of_ble_eq_true rfl) ?_
  refine lk_wp_seg (lo' := [.ref a0, .int x1, .ref a2, .ref a3, .int x4, .int x5, .retAddr 0]) (st' := [.ref a0]) lk_M24 lk_s24_0_1 rfl ?_
  refine lk_wp_fR lk_i24_1 lk_M24 H (fun r1 H => ?_)
  refine lk_wp_seg (lo' := [.ref a0, .int x1, .ref a2, .ref a3, .int x4, .int x5, .retAddr 0]) (st' := [.int 0, .ref r1]) lk_M24 lk_s24_4_1 rfl ?_
  refine lk_wp_cs (as := [.ref r1, .int 0]) (r := []) lk_i24_5 lk_M24 rfl rfl rfl rfl (Nat.le_of_ble_eq_true rfl) (lk_gv H (fun h2 H => ?_))
  refine lk_wp_seg (lo' := [.ref a0, .int x1, .ref a2, .ref a3, .int x4, .int x5, .int 0]) (st' := []) lk_M24 lk_s24_8_2 rfl ?_
  exact H
set_option maxRecDepth 20000 in
theorem F_mv_partOfEcho_11 {X : lk_X} {d : Nat} {x1 x4 x5 x6 : Int32} {a0 a2 a3 : Nat} {h : lk_H} {Q : Option Value → lk_H → Prop} (H : (x5 ≤ x6 → lk_vc h a0 [(3, 26)] (fun k5 => lk_wxi X d k5 [.ref a0] h (fun r2 h1 => (x1 = Int32.ofNat 0 → ¬ (21 : Int32) = 0 ∧ (Q (some (.int (r2 / (21 : Int32)))) h1)) ∧ (¬ x1 = Int32.ofNat 0 → (x1 = Int32.ofNat 1 → ¬ (21 : Int32) = 0 ∧ (Q (some (.int (r2 - r2 / (21 : Int32) * (21 : Int32)))) h1)) ∧ (¬ x1 = Int32.ofNat 1 → lk_fR h1 a0 1 [(3, 0)] (fun r3 => lk_ai h1 r3 r2 (fun r4 => Q (some (.int r4)) h1))))))) ∧ (¬ x5 ≤ x6 → lk_ai h a3 (x4 + (2 * x6)) (fun r6 => lk_ai h a3 ((x4 + (2 * x6)) + 1) (fun r7 => lk_vc h a0 [(3, 25)] (fun k9 => lk_wxv X d k9 [.ref a0, .ref a2, .int r6, .int r7] h (fun h8 => lk_wp X (d + 1) 24 11 [.ref a0, .int x1, .ref a2, .ref a3, .int x4, .int x5, .int (x6 + 1)] [] h8 Q)))))) : lk_wp X (d + 1) 24 11 [.ref a0, .int x1, .ref a2, .ref a3, .int x4, .int x5, .int x6] [] h Q := by
  refine lk_wp_seg (lo' := [.ref a0, .int x1, .ref a2, .ref a3, .int x4, .int x5, .int x6]) (st' := [.int x5, .int x6]) lk_M24 lk_s24_11_2 rfl ?_
  refine lk_wp_ic_ge lk_i24_15 lk_M24 H (fun H => ?_) (fun H => ?_)
  · refine lk_wp_seg (lo' := [.ref a0, .int x1, .ref a2, .ref a3, .int x4, .int x5, .int x6]) (st' := [.ref a0]) lk_M24 lk_s24_49_1 rfl ?_
    refine lk_wp_cv (as := []) (r := []) (a := a0) lk_i24_50 lk_M24 rfl rfl rfl (Nat.le_of_ble_eq_true rfl) H (fun k5 H => lk_gi H (fun r2 h1 H => ?_))
    refine lk_wp_seg (lo' := [.ref a0, .int x1, .ref a2, .ref a3, .int x4, .int x5, .int r2]) (st' := [.int x1]) lk_M24 lk_s24_53_2 rfl ?_
    refine lk_wp_ls lk_i24_56 lk_M24 ?_
    refine lk_wp_swc H (fun H => ?_) (fun H => ?_)
    · refine lk_wp_seg (lo' := [.ref a0, .int x1, .ref a2, .ref a3, .int x4, .int x5, .int r2]) (st' := [.int 21, .int r2]) lk_M24 lk_s24_84_2 rfl ?_
      refine lk_wp_div lk_i24_88 lk_M24 H (fun H => ?_)
      exact lk_wp_ret lk_i24_89 lk_M24 rfl H
    · refine lk_wp_swc H (fun H => ?_) (fun H => ?_)
      · refine lk_wp_seg (lo' := [.ref a0, .int x1, .ref a2, .ref a3, .int x4, .int x5, .int r2]) (st' := [.int 21, .int r2]) lk_M24 lk_s24_90_2 rfl ?_
        refine lk_wp_rem lk_i24_94 lk_M24 H (fun H => ?_)
        exact lk_wp_ret lk_i24_95 lk_M24 rfl H
      · refine lk_wp_seg (lo' := [.ref a0, .int x1, .ref a2, .ref a3, .int x4, .int x5, .int r2]) (st' := [.ref a0]) lk_M24 lk_s24_96_1 rfl ?_
        refine lk_wp_fR lk_i24_97 lk_M24 H (fun r3 H => ?_)
        refine lk_wp_seg (lo' := [.ref a0, .int x1, .ref a2, .ref a3, .int x4, .int x5, .int r2]) (st' := [.int r2, .ref r3]) lk_M24 lk_s24_100_1 rfl ?_
        refine lk_wp_ai lk_i24_102 lk_M24 H (fun r4 H => ?_)
        exact lk_wp_ret lk_i24_103 lk_M24 rfl H
  · refine lk_wp_seg (lo' := [.ref a0, .int x1, .ref a2, .ref a3, .int x4, .int x5, .int x6]) (st' := [.int (x4 + (2 * x6)), .ref a3, .ref a2, .ref a0]) lk_M24 lk_s24_18_8 rfl ?_
    refine lk_wp_ai lk_i24_28 lk_M24 H (fun r6 H => ?_)
    refine lk_wp_seg (lo' := [.ref a0, .int x1, .ref a2, .ref a3, .int x4, .int x5, .int x6]) (st' := [.int ((x4 + (2 * x6)) + 1), .ref a3, .int r6, .ref a2, .ref a0]) lk_M24 lk_s24_29_8 rfl ?_
    refine lk_wp_ai lk_i24_39 lk_M24 H (fun r7 H => ?_)
    refine lk_wp_cv (as := [.ref a2, .int r6, .int r7]) (r := []) (a := a0) lk_i24_40 lk_M24 rfl rfl rfl (Nat.le_of_ble_eq_true rfl) H (fun k9 H => lk_gv H (fun h8 H => ?_))
    refine lk_wp_seg (lo' := [.ref a0, .int x1, .ref a2, .ref a3, .int x4, .int x5, .int (x6 + 1)]) (st' := []) lk_M24 lk_s24_43_2 rfl ?_
    exact H
/-! LonelyDots$Moves.tallyFits([III)V -/
theorem lk_M25 : lk_mt[25]? = some (yX3_tallyFits, cX3_tallyFits, 7, ((none))) := rfl
theorem lk_s25_0_2 : lk_seg 25 [(.iconst 0, 1, (0, [], .int (0))), (.istore 4, 2, (0, [], .null))] 0 = some 3 := by decide +kernel
theorem lk_s25_3_2 : lk_seg 25 [(.iload 4, 2, (0, [], .null)), (.aload_n 1, 1, (0, [], .null))] 3 = some 6 := by decide +kernel
theorem lk_i25_6 : lk_ins 25 6 = some (.arraylength, 1, (0, [], .null)) := lk_eqE_eq (by decide +kernel)
theorem lk_i25_7 : lk_ins 25 7 = some (.if_icmp .ge 64, 3, (71, [], .null)) := lk_eqE_eq (by decide +kernel)
theorem lk_i25_71 : lk_ins 25 71 = some (.return_, 1, (0, [], .null)) := lk_eqE_eq (by decide +kernel)
theorem lk_s25_10_7 : lk_seg 25 [(.iload_n 2, 1, (0, [], .null)), (.iload 4, 2, (0, [], .null)), (.isub, 1, (0, [], .null)), (.istore 5, 2, (0, [], .null)), (.iload_n 3, 1, (0, [], .null)), (.aload_n 1, 1, (0, [], .null)), (.iload 4, 2, (0, [], .null))] 10 = some 20 := by decide +kernel
theorem lk_i25_20 : lk_ins 25 20 = some (.iaload, 1, (0, [], .null)) := lk_eqE_eq (by decide +kernel)
theorem lk_s25_21_3 : lk_seg 25 [(.isub, 1, (0, [], .null)), (.istore 6, 2, (0, [], .null)), (.iload 5, 2, (0, [], .null))] 21 = some 26 := by decide +kernel
theorem lk_i25_26 : lk_ins 25 26 = some (.ifCond .lt 39, 3, (65, [], .null)) := lk_eqE_eq (by decide +kernel)
theorem lk_s25_65_2 : lk_seg 25 [(.iinc 4 1, 3, (0, [], .int (1))), (.goto (-65), 3, (3, [], .null))] 65 = some 3 := by decide +kernel
theorem lk_s25_29_2 : lk_seg 25 [(.iload 5, 2, (0, [], .null)), (.bipush 21, 2, (0, [], .int (21)))] 29 = some 33 := by decide +kernel
theorem lk_i25_33 : lk_ins 25 33 = some (.if_icmp .ge 32, 3, (65, [], .null)) := lk_eqE_eq (by decide +kernel)
theorem lk_s25_36_1 : lk_seg 25 [(.iload 6, 2, (0, [], .null))] 36 = some 38 := by decide +kernel
theorem lk_i25_38 : lk_ins 25 38 = some (.ifCond .lt 27, 3, (65, [], .null)) := lk_eqE_eq (by decide +kernel)
theorem lk_s25_41_2 : lk_seg 25 [(.iload 6, 2, (0, [], .null)), (.bipush 21, 2, (0, [], .int (21)))] 41 = some 45 := by decide +kernel
theorem lk_i25_45 : lk_ins 25 45 = some (.if_icmp .ge 20, 3, (65, [], .null)) := lk_eqE_eq (by decide +kernel)
theorem lk_s25_48_1 : lk_seg 25 [(.aload_n 0, 1, (0, [], .null))] 48 = some 49 := by decide +kernel
theorem lk_i25_49 : lk_ins 25 49 = some (.getfield 15, 3, (1, [(3, 0)], .null)) := lk_eqE_eq (by decide +kernel)
theorem lk_s25_52_6 : lk_seg 25 [(.iload 5, 2, (0, [], .null)), (.bipush 21, 2, (0, [], .int (21))), (.imul, 1, (0, [], .null)), (.iload 6, 2, (0, [], .null)), (.iadd, 1, (0, [], .null)), (.dup2, 1, (0, [], .null))] 52 = some 61 := by decide +kernel
theorem lk_i25_61 : lk_ins 25 61 = some (.iaload, 1, (0, [], .null)) := lk_eqE_eq (by decide +kernel)
theorem lk_s25_62_2 : lk_seg 25 [(.iconst 1, 1, (0, [], .int (1))), (.iadd, 1, (0, [], .null))] 62 = some 64 := by decide +kernel
theorem lk_i25_64 : lk_ins 25 64 = some (.iastore, 1, (0, [], .null)) := lk_eqE_eq (by decide +kernel)
set_option maxRecDepth 20000 in
theorem E_mv_tallyFits {X : lk_X} {d : Nat} {x2 x3 : Int32} {a0 a1 : Nat} {h : lk_H} {Q : Option Value → lk_H → Prop} (H : lk_wp X (d + 1) 25 3 [.ref a0, .ref a1, .int x2, .int x3, .int 0, .retAddr 0, .retAddr 0] [] h Q) : lk_wx X (d + 1) 25 [.ref a0, .ref a1, .int x2, .int x3] h Q := by
  refine lk_enter (lo := [.ref a0, .ref a1, .int x2, .int x3, .retAddr 0, .retAddr 0, .retAddr 0]) lk_M25 rfl (Nat.le_of_ble_eq_true rfl) ?_
  refine lk_wp_seg (lo' := [.ref a0, .ref a1, .int x2, .int x3, .int 0, .retAddr 0, .retAddr 0]) (st' := []) lk_M25 lk_s25_0_2 rfl ?_
  exact H
set_option maxRecDepth 20000 in
theorem F_mv_tallyFits_3 {X : lk_X} {d : Nat} {x2 x3 x4 : Int32} {a0 a1 : Nat} {h : lk_H} {Q : Option Value → lk_H → Prop} (H : lk_al2 h a1 (fun r1 => (r1 ≤ x4 → Q none h) ∧ (¬ r1 ≤ x4 → lk_ai h a1 x4 (fun r2 => ((x2 - x4) < 0 → lk_wp X (d + 1) 25 3 [.ref a0, .ref a1, .int x2, .int x3, .int (x4 + 1), .retAddr 0, .retAddr 0] [] h Q) ∧ (¬ (x2 - x4) < 0 → (21 ≤ (x2 - x4) → lk_wp X (d + 1) 25 3 [.ref a0, .ref a1, .int x2, .int x3, .int (x4 + 1), .retAddr 0, .retAddr 0] [] h Q) ∧ (¬ 21 ≤ (x2 - x4) → ((x3 - r2) < 0 → lk_wp X (d + 1) 25 3 [.ref a0, .ref a1, .int x2, .int x3, .int (x4 + 1), .retAddr 0, .retAddr 0] [] h Q) ∧ (¬ (x3 - r2) < 0 → (21 ≤ (x3 - r2) → lk_wp X (d + 1) 25 3 [.ref a0, .ref a1, .int x2, .int x3, .int (x4 + 1), .retAddr 0, .retAddr 0] [] h Q) ∧ (¬ 21 ≤ (x3 - r2) → lk_fR h a0 1 [(3, 0)] (fun r3 => lk_ai h r3 (((x2 - x4) * 21) + (x3 - r2)) (fun r4 => lk_as h r3 (((x2 - x4) * 21) + (x3 - r2)) (r4 + 1) (fun h5 => lk_wp X (d + 1) 25 3 [.ref a0, .ref a1, .int x2, .int x3, .int (x4 + 1), .retAddr 0, .retAddr 0] [] h5 Q))))))))))) : lk_wp X (d + 1) 25 3 [.ref a0, .ref a1, .int x2, .int x3, .int x4, .retAddr 0, .retAddr 0] [] h Q := by
  refine lk_wp_seg (lo' := [.ref a0, .ref a1, .int x2, .int x3, .int x4, .retAddr 0, .retAddr 0]) (st' := [.ref a1, .int x4]) lk_M25 lk_s25_3_2 rfl ?_
  refine lk_wp_al lk_i25_6 lk_M25 H (fun r1 H => ?_)
  refine lk_wp_ic_ge lk_i25_7 lk_M25 H (fun H => ?_) (fun H => ?_)
  · exact lk_wp_ret lk_i25_71 lk_M25 rfl H
  · refine lk_wp_seg (lo' := [.ref a0, .ref a1, .int x2, .int x3, .int x4, .int (x2 - x4), .retAddr 0]) (st' := [.int x4, .ref a1, .int x3]) lk_M25 lk_s25_10_7 rfl ?_
    refine lk_wp_ai lk_i25_20 lk_M25 H (fun r2 H => ?_)
    refine lk_wp_seg (lo' := [.ref a0, .ref a1, .int x2, .int x3, .int x4, .int (x2 - x4), .int (x3 - r2)]) (st' := [.int (x2 - x4)]) lk_M25 lk_s25_21_3 rfl ?_
    refine lk_wp_if_lt lk_i25_26 lk_M25 H (fun H => ?_) (fun H => ?_)
    · refine lk_wp_seg (lo' := [.ref a0, .ref a1, .int x2, .int x3, .int (x4 + 1), .int (x2 - x4), .int (x3 - r2)]) (st' := []) lk_M25 lk_s25_65_2 rfl ?_
      exact H.forget (lk_le_s (lk_le_s (lk_le_s (lk_le_s (lk_le_s (lk_le_d (lk_le_d lk_le_n)))))))
    · refine lk_wp_seg (lo' := [.ref a0, .ref a1, .int x2, .int x3, .int x4, .int (x2 - x4), .int (x3 - r2)]) (st' := [.int 21, .int (x2 - x4)]) lk_M25 lk_s25_29_2 rfl ?_
      refine lk_wp_ic_ge lk_i25_33 lk_M25 H (fun H => ?_) (fun H => ?_)
      · refine lk_wp_seg (lo' := [.ref a0, .ref a1, .int x2, .int x3, .int (x4 + 1), .int (x2 - x4), .int (x3 - r2)]) (st' := []) lk_M25 lk_s25_65_2 rfl ?_
        exact H.forget (lk_le_s (lk_le_s (lk_le_s (lk_le_s (lk_le_s (lk_le_d (lk_le_d lk_le_n)))))))
      · refine lk_wp_seg (lo' := [.ref a0, .ref a1, .int x2, .int x3, .int x4, .int (x2 - x4), .int (x3 - r2)]) (st' := [.int (x3 - r2)]) lk_M25 lk_s25_36_1 rfl ?_
        refine lk_wp_if_lt lk_i25_38 lk_M25 H (fun H => ?_) (fun H => ?_)
        · refine lk_wp_seg (lo' := [.ref a0, .ref a1, .int x2, .int x3, .int (x4 + 1), .int (x2 - x4), .int (x3 - r2)]) (st' := []) lk_M25 lk_s25_65_2 rfl ?_
          exact H.forget (lk_le_s (lk_le_s (lk_le_s (lk_le_s (lk_le_s (lk_le_d (lk_le_d lk_le_n)))))))
        · refine lk_wp_seg (lo' := [.ref a0, .ref a1, .int x2, .int x3, .int x4, .int (x2 - x4), .int (x3 - r2)]) (st' := [.int 21, .int (x3 - r2)]) lk_M25 lk_s25_41_2 rfl ?_
          refine lk_wp_ic_ge lk_i25_45 lk_M25 H (fun H => ?_) (fun H => ?_)
          · refine lk_wp_seg (lo' := [.ref a0, .ref a1, .int x2, .int x3, .int (x4 + 1), .int (x2 - x4), .int (x3 - r2)]) (st' := []) lk_M25 lk_s25_65_2 rfl ?_
            exact H.forget (lk_le_s (lk_le_s (lk_le_s (lk_le_s (lk_le_s (lk_le_d (lk_le_d lk_le_n)))))))
          · refine lk_wp_seg (lo' := [.ref a0, .ref a1, .int x2, .int x3, .int x4, .int (x2 - x4), .int (x3 - r2)]) (st' := [.ref a0]) lk_M25 lk_s25_48_1 rfl ?_
            refine lk_wp_fR lk_i25_49 lk_M25 H (fun r3 H => ?_)
            refine lk_wp_seg (lo' := [.ref a0, .ref a1, .int x2, .int x3, .int x4, .int (x2 - x4), .int (x3 - r2)]) (st' := [.int (((x2 - x4) * 21) + (x3 - r2)), .ref r3, .int (((x2 - x4) * 21) + (x3 - r2)), .ref r3]) lk_M25 lk_s25_52_6 rfl ?_
            refine lk_wp_ai lk_i25_61 lk_M25 H (fun r4 H => ?_)
            refine lk_wp_seg (lo' := [.ref a0, .ref a1, .int x2, .int x3, .int x4, .int (x2 - x4), .int (x3 - r2)]) (st' := [.int (r4 + 1), .int (((x2 - x4) * 21) + (x3 - r2)), .ref r3]) lk_M25 lk_s25_62_2 rfl ?_
            refine lk_wp_as lk_i25_64 lk_M25 H (fun h5 H => ?_)
            refine lk_wp_seg (lo' := [.ref a0, .ref a1, .int x2, .int x3, .int (x4 + 1), .int (x2 - x4), .int (x3 - r2)]) (st' := []) lk_M25 lk_s25_65_2 rfl ?_
            exact H.forget (lk_le_s (lk_le_s (lk_le_s (lk_le_s (lk_le_s (lk_le_d (lk_le_d lk_le_n)))))))
/-! LonelyDots$Moves.firstBest()I -/
theorem lk_M26 : lk_mt[26]? = some (yX3_firstBest, cX3_firstBest, 3, ((some FieldType.int))) := rfl
theorem lk_s26_0_4 : lk_seg 26 [(.iconst 0, 1, (0, [], .int (0))), (.istore_n 1, 1, (0, [], .null)), (.iconst 1, 1, (0, [], .int (1))), (.istore_n 2, 1, (0, [], .null))] 0 = some 4 := by decide +kernel
theorem lk_s26_4_2 : lk_seg 26 [(.iload_n 2, 1, (0, [], .null)), (.aload_n 0, 1, (0, [], .null))] 4 = some 6 := by decide +kernel
theorem lk_i26_6 : lk_ins 26 6 = some (.getfield 15, 3, (1, [(3, 0)], .null)) := lk_eqE_eq (by decide +kernel)
theorem lk_i26_9 : lk_ins 26 9 = some (.arraylength, 1, (0, [], .null)) := lk_eqE_eq (by decide +kernel)
theorem lk_i26_10 : lk_ins 26 10 = some (.if_icmp .ge 26, 3, (36, [], .null)) := lk_eqE_eq (by decide +kernel)
theorem lk_s26_36_1 : lk_seg 26 [(.iload_n 1, 1, (0, [], .null))] 36 = some 37 := by decide +kernel
theorem lk_i26_37 : lk_ins 26 37 = some (.ireturn, 1, (0, [], .null)) := lk_eqE_eq (by decide +kernel)
theorem lk_s26_13_1 : lk_seg 26 [(.aload_n 0, 1, (0, [], .null))] 13 = some 14 := by decide +kernel
theorem lk_i26_14 : lk_ins 26 14 = some (.getfield 15, 3, (1, [(3, 0)], .null)) := lk_eqE_eq (by decide +kernel)
theorem lk_s26_17_1 : lk_seg 26 [(.iload_n 2, 1, (0, [], .null))] 17 = some 18 := by decide +kernel
theorem lk_i26_18 : lk_ins 26 18 = some (.iaload, 1, (0, [], .null)) := lk_eqE_eq (by decide +kernel)
theorem lk_s26_19_1 : lk_seg 26 [(.aload_n 0, 1, (0, [], .null))] 19 = some 20 := by decide +kernel
theorem lk_i26_20 : lk_ins 26 20 = some (.getfield 15, 3, (1, [(3, 0)], .null)) := lk_eqE_eq (by decide +kernel)
theorem lk_s26_23_1 : lk_seg 26 [(.iload_n 1, 1, (0, [], .null))] 23 = some 24 := by decide +kernel
theorem lk_i26_24 : lk_ins 26 24 = some (.iaload, 1, (0, [], .null)) := lk_eqE_eq (by decide +kernel)
theorem lk_i26_25 : lk_ins 26 25 = some (.if_icmp .le 5, 3, (30, [], .null)) := lk_eqE_eq (by decide +kernel)
theorem lk_s26_30_2 : lk_seg 26 [(.iinc 2 1, 3, (0, [], .int (1))), (.goto (-29), 3, (4, [], .null))] 30 = some 4 := by decide +kernel
theorem lk_s26_28_4 : lk_seg 26 [(.iload_n 2, 1, (0, [], .null)), (.istore_n 1, 1, (0, [], .null)), (.iinc 2 1, 3, (0, [], .int (1))), (.goto (-29), 3, (4, [], .null))] 28 = some 4 := by decide +kernel
set_option maxRecDepth 20000 in
theorem E_mv_firstBest {X : lk_X} {d : Nat} {a0 : Nat} {h : lk_H} {Q : Option Value → lk_H → Prop} (H : lk_wp X (d + 1) 26 4 [.ref a0, .int 0, .int 1] [] h Q) : lk_wx X (d + 1) 26 [.ref a0] h Q := by
  refine lk_enter (lo := [.ref a0, .retAddr 0, .retAddr 0]) lk_M26 rfl (Nat.le_of_ble_eq_true rfl) ?_
  refine lk_wp_seg (lo' := [.ref a0, .int 0, .int 1]) (st' := []) lk_M26 lk_s26_0_4 rfl ?_
  exact H
set_option maxRecDepth 20000 in
theorem F_mv_firstBest_4 {X : lk_X} {d : Nat} {x1 x2 : Int32} {a0 : Nat} {h : lk_H} {Q : Option Value → lk_H → Prop} (H : lk_fR h a0 1 [(3, 0)] (fun r1 => lk_al2 h r1 (fun r2 => (r2 ≤ x2 → Q (some (.int x1)) h) ∧ (¬ r2 ≤ x2 → lk_fR h a0 1 [(3, 0)] (fun r3 => lk_ai h r3 x2 (fun r4 => lk_fR h a0 1 [(3, 0)] (fun r5 => lk_ai h r5 x1 (fun r6 => (r4 ≤ r6 → lk_wp X (d + 1) 26 4 [.ref a0, .int x1, .int (x2 + 1)] [] h Q) ∧ (¬ r4 ≤ r6 → lk_wp X (d + 1) 26 4 [.ref a0, .int x2, .int (x2 + 1)] [] h Q))))))))) : lk_wp X (d + 1) 26 4 [.ref a0, .int x1, .int x2] [] h Q := by
  refine lk_wp_seg (lo' := [.ref a0, .int x1, .int x2]) (st' := [.ref a0, .int x2]) lk_M26 lk_s26_4_2 rfl ?_
  refine lk_wp_fR lk_i26_6 lk_M26 H (fun r1 H => ?_)
  refine lk_wp_al lk_i26_9 lk_M26 H (fun r2 H => ?_)
  refine lk_wp_ic_ge lk_i26_10 lk_M26 H (fun H => ?_) (fun H => ?_)
  · refine lk_wp_seg (lo' := [.ref a0, .int x1, .int x2]) (st' := [.int x1]) lk_M26 lk_s26_36_1 rfl ?_
    exact lk_wp_ret lk_i26_37 lk_M26 rfl H
  · refine lk_wp_seg (lo' := [.ref a0, .int x1, .int x2]) (st' := [.ref a0]) lk_M26 lk_s26_13_1 rfl ?_
    refine lk_wp_fR lk_i26_14 lk_M26 H (fun r3 H => ?_)
    refine lk_wp_seg (lo' := [.ref a0, .int x1, .int x2]) (st' := [.int x2, .ref r3]) lk_M26 lk_s26_17_1 rfl ?_
    refine lk_wp_ai lk_i26_18 lk_M26 H (fun r4 H => ?_)
    refine lk_wp_seg (lo' := [.ref a0, .int x1, .int x2]) (st' := [.ref a0, .int r4]) lk_M26 lk_s26_19_1 rfl ?_
    refine lk_wp_fR lk_i26_20 lk_M26 H (fun r5 H => ?_)
    refine lk_wp_seg (lo' := [.ref a0, .int x1, .int x2]) (st' := [.int x1, .ref r5, .int r4]) lk_M26 lk_s26_23_1 rfl ?_
    refine lk_wp_ai lk_i26_24 lk_M26 H (fun r6 H => ?_)
    refine lk_wp_ic_le lk_i26_25 lk_M26 H (fun H => ?_) (fun H => ?_)
    · refine lk_wp_seg (lo' := [.ref a0, .int x1, .int (x2 + 1)]) (st' := []) lk_M26 lk_s26_30_2 rfl ?_
      exact H
    · refine lk_wp_seg (lo' := [.ref a0, .int x2, .int (x2 + 1)]) (st' := []) lk_M26 lk_s26_28_4 rfl ?_
      exact H
/-! LonelyDots$Order.<init>([I)V -/
theorem lk_M27 : lk_mt[27]? = some (yX4_init, cX4_init, 2, ((none))) := rfl
theorem lk_s27_0_2 : lk_seg 27 [(.aload_n 0, 1, (0, [], .null)), (.aload_n 1, 1, (0, [], .null))] 0 = some 2 := by decide +kernel
theorem lk_i27_2 : lk_ins 27 2 = some (.invokespecial 3, 3, (3, [(0, 55)], .ref 10)) := lk_eqE_eq (by decide +kernel)
theorem lk_i27_5 : lk_ins 27 5 = some (.return_, 1, (0, [], .null)) := lk_eqE_eq (by decide +kernel)
set_option maxRecDepth 20000 in
theorem E_o_init {X : lk_X} {d : Nat} {a0 a1 : Nat} {h : lk_H} {Q : Option Value → lk_H → Prop} (H : lk_ob h a0 (lk_wxv X d 55 [.ref a0, .ref a1] h (fun h1 => Q none h1))) : lk_wx X (d + 1) 27 [.ref a0, .ref a1] h Q := by
  refine lk_enter (lo := [.ref a0, .ref a1]) lk_M27 rfl (Nat.le_of_ble_eq_true rfl) ?_
  refine lk_wp_seg (lo' := [.ref a0, .ref a1]) (st' := [.ref a1, .ref a0]) lk_M27 lk_s27_0_2 rfl ?_
  refine lk_wp_cp (as := [.ref a1]) (r := []) (a := a0) lk_i27_2 lk_M27 rfl rfl rfl rfl (Nat.le_of_ble_eq_true rfl) H (fun H => lk_gv H (fun h1 H => ?_))
  exact lk_wp_ret lk_i27_5 lk_M27 rfl H
/-! LonelyDots$Order.told([I)LLonelyDots$Order; -/
theorem lk_M28 : lk_mt[28]? = some (yX4_told, cX4_told, 2, ((some (FieldType.object "LonelyDots$Order")))) := rfl
theorem lk_i28_0 : lk_ins 28 0 = some (.new 9, 3, (4, [], .null)) := lk_eqE_eq (by decide +kernel)
theorem lk_s28_3_2 : lk_seg 28 [(.dup, 1, (0, [], .null)), (.aload_n 0, 1, (0, [], .null))] 3 = some 5 := by decide +kernel
theorem lk_i28_5 : lk_ins 28 5 = some (.invokespecial 11, 3, (3, [(0, 27)], .ref 0)) := lk_eqE_eq (by decide +kernel)
theorem lk_s28_8_3 : lk_seg 28 [(.astore_n 1, 1, (0, [], .null)), (.aload_n 1, 1, (0, [], .null)), (.iconst 0, 1, (0, [], .int (0)))] 8 = some 11 := by decide +kernel
theorem lk_i28_11 : lk_ins 28 11 = some (.invokevirtual 12, 3, (2, [(0, 58), (4, 58)], .ref 21)) := lk_eqE_eq (by decide +kernel)
theorem lk_s28_14_1 : lk_seg 28 [(.ldc 16, 2, (0, [], .int (-1000000)))] 14 = some 16 := by decide +kernel
theorem lk_i28_16 : lk_ins 28 16 = some (.if_icmp .ne 14, 3, (30, [], .null)) := lk_eqE_eq (by decide +kernel)
theorem lk_s28_30_1 : lk_seg 28 [(.aload_n 1, 1, (0, [], .null))] 30 = some 31 := by decide +kernel
theorem lk_i28_31 : lk_ins 28 31 = some (.areturn, 1, (0, [], .null)) := lk_eqE_eq (by decide +kernel)
theorem lk_i28_19 : lk_ins 28 19 = some (.new 17, 3, (0, [], .null)) := lk_eqE_eq (by decide +kernel)
theorem lk_s28_22_2 : lk_seg 28 [(.dup, 1, (0, [], .null)), (.aload_n 0, 1, (0, [], .null))] 22 = some 24 := by decide +kernel
theorem lk_i28_24 : lk_ins 28 24 = some (.invokespecial 19, 3, (3, [(0, 0)], .ref 22)) := lk_eqE_eq (by decide +kernel)
theorem lk_s28_27_1 : lk_seg 28 [(.goto 4, 3, (31, [], .null))] 27 = some 31 := by decide +kernel
set_option maxRecDepth 20000 in
theorem E_o_told {X : lk_X} {d : Nat} {a0 : Nat} {h : lk_H} {Q : Option Value → lk_H → Prop} (H : lk_ob ((h ++ [.inr (4, [.null])])) h.length (lk_wxv X d 27 [.ref (h.length), .ref a0] ((h ++ [.inr (4, [.null])])) (fun h1 => lk_vc h1 h.length [(0, 58), (4, 58)] (fun k5 => lk_wxi X d k5 [.ref (h.length), .int 0] h1 (fun r3 h2 => (¬ r3 = (-1000000) → Q (some (.ref (h.length))) h2) ∧ (r3 = (-1000000) → lk_ob ((h2 ++ [.inr (0, [.null])])) h2.length (lk_wxv X d 0 [.ref (h2.length), .ref a0] ((h2 ++ [.inr (0, [.null])])) (fun h4 => Q (some (.ref (h2.length))) h4)))))))) : lk_wx X (d + 1) 28 [.ref a0] h Q := by
  refine lk_enter (lo := [.ref a0, .retAddr 0]) lk_M28 rfl (Nat.le_of_ble_eq_true rfl) ?_
  refine lk_wp_new lk_i28_0 lk_M28 rfl ?_
  refine lk_wp_seg (lo' := [.ref a0, .retAddr 0]) (st' := [.ref a0, .ref (h.length), .ref (h.length)]) lk_M28 lk_s28_3_2 rfl ?_
  refine lk_wp_cp (as := [.ref a0]) (r := [.ref (h.length)]) (a := h.length) lk_i28_5 lk_M28 rfl rfl rfl rfl (Nat.le_of_ble_eq_true rfl) H (fun H => lk_gv H (fun h1 H => ?_))
  refine lk_wp_seg (lo' := [.ref a0, .ref (h.length)]) (st' := [.int 0, .ref (h.length)]) lk_M28 lk_s28_8_3 rfl ?_
  refine lk_wp_cv (as := [.int 0]) (r := []) (a := h.length) lk_i28_11 lk_M28 rfl rfl rfl (Nat.le_of_ble_eq_true rfl) H (fun k5 H => lk_gi H (fun r3 h2 H => ?_))
  refine lk_wp_seg (lo' := [.ref a0, .ref (h.length)]) (st' := [.int ((-1000000)), .int r3]) lk_M28 lk_s28_14_1 rfl ?_
  refine lk_wp_ic_ne lk_i28_16 lk_M28 H (fun H => ?_) (fun H => ?_)
  · refine lk_wp_seg (lo' := [.ref a0, .ref (h.length)]) (st' := [.ref (h.length)]) lk_M28 lk_s28_30_1 rfl ?_
    exact lk_wp_ret lk_i28_31 lk_M28 rfl H
  · refine lk_wp_new lk_i28_19 lk_M28 rfl ?_
    refine lk_wp_seg (lo' := [.ref a0, .ref (h.length)]) (st' := [.ref a0, .ref (h2.length), .ref (h2.length)]) lk_M28 lk_s28_22_2 rfl ?_
    refine lk_wp_cp (as := [.ref a0]) (r := [.ref (h2.length)]) (a := h2.length) lk_i28_24 lk_M28 rfl rfl rfl rfl (Nat.le_of_ble_eq_true rfl) H (fun H => lk_gv H (fun h4 H => ?_))
    refine lk_wp_seg (lo' := [.ref a0, .ref (h.length)]) (st' := [.ref (h2.length)]) lk_M28 lk_s28_27_1 rfl ?_
    exact lk_wp_ret lk_i28_31 lk_M28 rfl H
/-! LonelyDots$Order.hasEachColumnOnce([I)Z -/
theorem lk_M29 : lk_mt[29]? = some (yX4_hasEachColumnOnce, cX4_hasEachColumnOnce, 6, ((some FieldType.boolean))) := rfl
theorem lk_s29_0_5 : lk_seg 29 [(.iconst 0, 1, (0, [], .int (0))), (.istore_n 1, 1, (0, [], .null)), (.aload_n 0, 1, (0, [], .null)), (.astore_n 2, 1, (0, [], .null)), (.aload_n 2, 1, (0, [], .null))] 0 = some 5 := by decide +kernel
theorem lk_i29_5 : lk_ins 29 5 = some (.arraylength, 1, (0, [], .null)) := lk_eqE_eq (by decide +kernel)
theorem lk_s29_6_3 : lk_seg 29 [(.istore_n 3, 1, (0, [], .null)), (.iconst 0, 1, (0, [], .int (0))), (.istore 4, 2, (0, [], .null))] 6 = some 10 := by decide +kernel
theorem lk_s29_10_2 : lk_seg 29 [(.iload 4, 2, (0, [], .null)), (.iload_n 3, 1, (0, [], .null))] 10 = some 13 := by decide +kernel
theorem lk_i29_13 : lk_ins 29 13 = some (.if_icmp .ge 45, 3, (58, [], .null)) := lk_eqE_eq (by decide +kernel)
theorem lk_s29_58_1 : lk_seg 29 [(.iconst 1, 1, (0, [], .int (1)))] 58 = some 59 := by decide +kernel
theorem lk_i29_59 : lk_ins 29 59 = some (.ireturn, 1, (0, [], .null)) := lk_eqE_eq (by decide +kernel)
theorem lk_s29_16_2 : lk_seg 29 [(.aload_n 2, 1, (0, [], .null)), (.iload 4, 2, (0, [], .null))] 16 = some 19 := by decide +kernel
theorem lk_i29_19 : lk_ins 29 19 = some (.iaload, 1, (0, [], .null)) := lk_eqE_eq (by decide +kernel)
theorem lk_s29_20_2 : lk_seg 29 [(.istore 5, 2, (0, [], .null)), (.iload 5, 2, (0, [], .null))] 20 = some 24 := by decide +kernel
theorem lk_i29_24 : lk_ins 29 24 = some (.ifCond .lt 19, 3, (43, [], .null)) := lk_eqE_eq (by decide +kernel)
theorem lk_s29_43_1 : lk_seg 29 [(.iconst 0, 1, (0, [], .int (0)))] 43 = some 44 := by decide +kernel
theorem lk_i29_44 : lk_ins 29 44 = some (.ireturn, 1, (0, [], .null)) := lk_eqE_eq (by decide +kernel)
theorem lk_s29_27_2 : lk_seg 29 [(.iload 5, 2, (0, [], .null)), (.aload_n 0, 1, (0, [], .null))] 27 = some 30 := by decide +kernel
theorem lk_i29_30 : lk_ins 29 30 = some (.arraylength, 1, (0, [], .null)) := lk_eqE_eq (by decide +kernel)
theorem lk_i29_31 : lk_ins 29 31 = some (.if_icmp .ge 12, 3, (43, [], .null)) := lk_eqE_eq (by decide +kernel)
theorem lk_s29_34_5 : lk_seg 29 [(.iload_n 1, 1, (0, [], .null)), (.iload 5, 2, (0, [], .null)), (.ishr, 1, (0, [], .null)), (.iconst 1, 1, (0, [], .int (1))), (.iand, 1, (0, [], .null))] 34 = some 40 := by decide +kernel
theorem lk_i29_40 : lk_ins 29 40 = some (.ifCond .eq 5, 3, (45, [], .null)) := lk_eqE_eq (by decide +kernel)
theorem lk_s29_45_8 : lk_seg 29 [(.iload_n 1, 1, (0, [], .null)), (.iconst 1, 1, (0, [], .int (1))), (.iload 5, 2, (0, [], .null)), (.ishl, 1, (0, [], .null)), (.ior, 1, (0, [], .null)), (.istore_n 1, 1, (0, [], .null)), (.iinc 4 1, 3, (0, [], .int (1))), (.goto (-45), 3, (10, [], .null))] 45 = some 10 := by decide +kernel
set_option maxRecDepth 20000 in
theorem E_o_hasEachColumnOnce {X : lk_X} {d : Nat} {a0 : Nat} {h : lk_H} {Q : Option Value → lk_H → Prop} (H : lk_al2 h a0 (fun r1 => lk_wp X (d + 1) 29 10 [.ref a0, .int 0, .ref a0, .int r1, .int 0, .retAddr 0] [] h Q)) : lk_wx X (d + 1) 29 [.ref a0] h Q := by
  refine lk_enter (lo := [.ref a0, .retAddr 0, .retAddr 0, .retAddr 0, .retAddr 0, .retAddr 0]) lk_M29 rfl (Nat.le_of_ble_eq_true rfl) ?_
  refine lk_wp_seg (lo' := [.ref a0, .int 0, .ref a0, .retAddr 0, .retAddr 0, .retAddr 0]) (st' := [.ref a0]) lk_M29 lk_s29_0_5 rfl ?_
  refine lk_wp_al lk_i29_5 lk_M29 H (fun r1 H => ?_)
  refine lk_wp_seg (lo' := [.ref a0, .int 0, .ref a0, .int r1, .int 0, .retAddr 0]) (st' := []) lk_M29 lk_s29_6_3 rfl ?_
  exact H
set_option maxRecDepth 20000 in
theorem F_o_hasEachColumnOnce_10 {X : lk_X} {d : Nat} {x1 x3 x4 : Int32} {a0 a2 : Nat} {h : lk_H} {Q : Option Value → lk_H → Prop} (H : (x3 ≤ x4 → Q (some (.int 1)) h) ∧ (¬ x3 ≤ x4 → lk_ai h a2 x4 (fun r1 => (r1 < 0 → Q (some (.int 0)) h) ∧ (¬ r1 < 0 → lk_al2 h a0 (fun r2 => (r2 ≤ r1 → Q (some (.int 0)) h) ∧ (¬ r2 ≤ r1 → (((x1 >>> (r1 &&& 31)) &&& 1) = 0 → lk_wp X (d + 1) 29 10 [.ref a0, .int (x1 ||| (1 <<< (r1 &&& 31))), .ref a2, .int x3, .int (x4 + 1), .retAddr 0] [] h Q) ∧ (¬ ((x1 >>> (r1 &&& 31)) &&& 1) = 0 → Q (some (.int 0)) h))))))) : lk_wp X (d + 1) 29 10 [.ref a0, .int x1, .ref a2, .int x3, .int x4, .retAddr 0] [] h Q := by
  refine lk_wp_seg (lo' := [.ref a0, .int x1, .ref a2, .int x3, .int x4, .retAddr 0]) (st' := [.int x3, .int x4]) lk_M29 lk_s29_10_2 rfl ?_
  refine lk_wp_ic_ge lk_i29_13 lk_M29 H (fun H => ?_) (fun H => ?_)
  · refine lk_wp_seg (lo' := [.ref a0, .int x1, .ref a2, .int x3, .int x4, .retAddr 0]) (st' := [.int 1]) lk_M29 lk_s29_58_1 rfl ?_
    exact lk_wp_ret lk_i29_59 lk_M29 rfl H
  · refine lk_wp_seg (lo' := [.ref a0, .int x1, .ref a2, .int x3, .int x4, .retAddr 0]) (st' := [.int x4, .ref a2]) lk_M29 lk_s29_16_2 rfl ?_
    refine lk_wp_ai lk_i29_19 lk_M29 H (fun r1 H => ?_)
    refine lk_wp_seg (lo' := [.ref a0, .int x1, .ref a2, .int x3, .int x4, .int r1]) (st' := [.int r1]) lk_M29 lk_s29_20_2 rfl ?_
    refine lk_wp_if_lt lk_i29_24 lk_M29 H (fun H => ?_) (fun H => ?_)
    · refine lk_wp_seg (lo' := [.ref a0, .int x1, .ref a2, .int x3, .int x4, .int r1]) (st' := [.int 0]) lk_M29 lk_s29_43_1 rfl ?_
      exact lk_wp_ret lk_i29_44 lk_M29 rfl H
    · refine lk_wp_seg (lo' := [.ref a0, .int x1, .ref a2, .int x3, .int x4, .int r1]) (st' := [.ref a0, .int r1]) lk_M29 lk_s29_27_2 rfl ?_
      refine lk_wp_al lk_i29_30 lk_M29 H (fun r2 H => ?_)
      refine lk_wp_ic_ge lk_i29_31 lk_M29 H (fun H => ?_) (fun H => ?_)
      · refine lk_wp_seg (lo' := [.ref a0, .int x1, .ref a2, .int x3, .int x4, .int r1]) (st' := [.int 0]) lk_M29 lk_s29_43_1 rfl ?_
        exact lk_wp_ret lk_i29_44 lk_M29 rfl H
      · refine lk_wp_seg (lo' := [.ref a0, .int x1, .ref a2, .int x3, .int x4, .int r1]) (st' := [.int ((x1 >>> (r1 &&& 31)) &&& 1)]) lk_M29 lk_s29_34_5 rfl ?_
        refine lk_wp_if_eq lk_i29_40 lk_M29 H (fun H => ?_) (fun H => ?_)
        · refine lk_wp_seg (lo' := [.ref a0, .int (x1 ||| (1 <<< (r1 &&& 31))), .ref a2, .int x3, .int (x4 + 1), .int r1]) (st' := []) lk_M29 lk_s29_45_8 rfl ?_
          exact H.forget (lk_le_s (lk_le_s (lk_le_s (lk_le_s (lk_le_s (lk_le_d lk_le_n))))))
        · refine lk_wp_seg (lo' := [.ref a0, .int x1, .ref a2, .int x3, .int x4, .int r1]) (st' := [.int 0]) lk_M29 lk_s29_43_1 rfl ?_
          exact lk_wp_ret lk_i29_44 lk_M29 rfl H
/-! LonelyDots$Order.turnInto([I[II)V -/
theorem lk_M30 : lk_mt[30]? = some (yX4_turnInto, cX4_turnInto, 7, ((none))) := rfl
theorem lk_s30_0_1 : lk_seg 30 [(.aload_n 1, 1, (0, [], .null))] 0 = some 1 := by decide +kernel
theorem lk_i30_1 : lk_ins 30 1 = some (.arraylength, 1, (0, [], .null)) := lk_eqE_eq (by decide +kernel)
theorem lk_s30_2_5 : lk_seg 30 [(.iconst 1, 1, (0, [], .int (1))), (.isub, 1, (0, [], .null)), (.istore_n 3, 1, (0, [], .null)), (.iconst 0, 1, (0, [], .int (0))), (.istore 4, 2, (0, [], .null))] 2 = some 8 := by decide +kernel
theorem lk_s30_8_2 : lk_seg 30 [(.iload 4, 2, (0, [], .null)), (.aload_n 1, 1, (0, [], .null))] 8 = some 11 := by decide +kernel
theorem lk_i30_11 : lk_ins 30 11 = some (.arraylength, 1, (0, [], .null)) := lk_eqE_eq (by decide +kernel)
theorem lk_i30_12 : lk_ins 30 12 = some (.if_icmp .ge 68, 3, (80, [], .null)) := lk_eqE_eq (by decide +kernel)
theorem lk_i30_80 : lk_ins 30 80 = some (.return_, 1, (0, [], .null)) := lk_eqE_eq (by decide +kernel)
theorem lk_s30_15_3 : lk_seg 30 [(.iload_n 2, 1, (0, [], .null)), (.iconst 1, 1, (0, [], .int (1))), (.iand, 1, (0, [], .null))] 15 = some 18 := by decide +kernel
theorem lk_i30_18 : lk_ins 30 18 = some (.ifCond .eq 10, 3, (28, [], .null)) := lk_eqE_eq (by decide +kernel)
theorem lk_s30_28_5 : lk_seg 30 [(.iload 4, 2, (0, [], .null)), (.istore 5, 2, (0, [], .null)), (.iload_n 2, 1, (0, [], .null)), (.iconst 2, 1, (0, [], .int (2))), (.iand, 1, (0, [], .null))] 28 = some 35 := by decide +kernel
theorem lk_i30_35 : lk_ins 30 35 = some (.ifCond .eq 12, 3, (47, [], .null)) := lk_eqE_eq (by decide +kernel)
theorem lk_s30_47_2 : lk_seg 30 [(.aload_n 1, 1, (0, [], .null)), (.iload 4, 2, (0, [], .null))] 47 = some 50 := by decide +kernel
theorem lk_i30_50 : lk_ins 30 50 = some (.iaload, 1, (0, [], .null)) := lk_eqE_eq (by decide +kernel)
theorem lk_s30_51_4 : lk_seg 30 [(.istore 6, 2, (0, [], .null)), (.iload_n 2, 1, (0, [], .null)), (.iconst 4, 1, (0, [], .int (4))), (.iand, 1, (0, [], .null))] 51 = some 56 := by decide +kernel
theorem lk_i30_56 : lk_ins 30 56 = some (.ifCond .eq 12, 3, (68, [], .null)) := lk_eqE_eq (by decide +kernel)
theorem lk_s30_68_3 : lk_seg 30 [(.aload_n 0, 1, (0, [], .null)), (.iload 5, 2, (0, [], .null)), (.iload 6, 2, (0, [], .null))] 68 = some 73 := by decide +kernel
theorem lk_i30_73 : lk_ins 30 73 = some (.iastore, 1, (0, [], .null)) := lk_eqE_eq (by decide +kernel)
theorem lk_s30_74_2 : lk_seg 30 [(.iinc 4 1, 3, (0, [], .int (1))), (.goto (-69), 3, (8, [], .null))] 74 = some 8 := by decide +kernel
theorem lk_s30_59_3 : lk_seg 30 [(.aload_n 0, 1, (0, [], .null)), (.iload 6, 2, (0, [], .null)), (.iload 5, 2, (0, [], .null))] 59 = some 64 := by decide +kernel
theorem lk_i30_64 : lk_ins 30 64 = some (.iastore, 1, (0, [], .null)) := lk_eqE_eq (by decide +kernel)
theorem lk_s30_65_1 : lk_seg 30 [(.goto 9, 3, (74, [], .null))] 65 = some 74 := by decide +kernel
theorem lk_s30_38_3 : lk_seg 30 [(.iload_n 3, 1, (0, [], .null)), (.aload_n 1, 1, (0, [], .null)), (.iload 4, 2, (0, [], .null))] 38 = some 42 := by decide +kernel
theorem lk_i30_42 : lk_ins 30 42 = some (.iaload, 1, (0, [], .null)) := lk_eqE_eq (by decide +kernel)
theorem lk_s30_43_2 : lk_seg 30 [(.isub, 1, (0, [], .null)), (.goto 7, 3, (51, [], .null))] 43 = some 51 := by decide +kernel
theorem lk_s30_21_4 : lk_seg 30 [(.iload_n 3, 1, (0, [], .null)), (.iload 4, 2, (0, [], .null)), (.isub, 1, (0, [], .null)), (.goto 5, 3, (30, [], .null))] 21 = some 30 := by decide +kernel
theorem lk_s30_30_4 : lk_seg 30 [(.istore 5, 2, (0, [], .null)), (.iload_n 2, 1, (0, [], .null)), (.iconst 2, 1, (0, [], .int (2))), (.iand, 1, (0, [], .null))] 30 = some 35 := by decide +kernel
set_option maxRecDepth 20000 in
theorem E_o_turnInto {X : lk_X} {d : Nat} {x2 : Int32} {a0 a1 : Nat} {h : lk_H} {Q : Option Value → lk_H → Prop} (H : lk_al2 h a1 (fun r1 => lk_wp X (d + 1) 30 8 [.ref a0, .ref a1, .int x2, .int (r1 - 1), .int 0, .retAddr 0, .retAddr 0] [] h Q)) : lk_wx X (d + 1) 30 [.ref a0, .ref a1, .int x2] h Q := by
  refine lk_enter (lo := [.ref a0, .ref a1, .int x2, .retAddr 0, .retAddr 0, .retAddr 0, .retAddr 0]) lk_M30 rfl (Nat.le_of_ble_eq_true rfl) ?_
  refine lk_wp_seg (lo' := [.ref a0, .ref a1, .int x2, .retAddr 0, .retAddr 0, .retAddr 0, .retAddr 0]) (st' := [.ref a1]) lk_M30 lk_s30_0_1 rfl ?_
  refine lk_wp_al lk_i30_1 lk_M30 H (fun r1 H => ?_)
  refine lk_wp_seg (lo' := [.ref a0, .ref a1, .int x2, .int (r1 - 1), .int 0, .retAddr 0, .retAddr 0]) (st' := []) lk_M30 lk_s30_2_5 rfl ?_
  exact H
set_option maxRecDepth 20000 in
theorem F_o_turnInto_8 {X : lk_X} {d : Nat} {x2 x3 x4 : Int32} {a0 a1 : Nat} {h : lk_H} {Q : Option Value → lk_H → Prop} (H : lk_al2 h a1 (fun r1 => (r1 ≤ x4 → Q none h) ∧ (¬ r1 ≤ x4 → ((x2 &&& 1) = 0 → ((x2 &&& 2) = 0 → lk_ai h a1 x4 (fun r2 => ((x2 &&& 4) = 0 → lk_as h a0 x4 r2 (fun h3 => lk_wp X (d + 1) 30 8 [.ref a0, .ref a1, .int x2, .int x3, .int (x4 + 1), .retAddr 0, .retAddr 0] [] h3 Q)) ∧ (¬ (x2 &&& 4) = 0 → lk_as h a0 r2 x4 (fun h4 => lk_wp X (d + 1) 30 8 [.ref a0, .ref a1, .int x2, .int x3, .int (x4 + 1), .retAddr 0, .retAddr 0] [] h4 Q)))) ∧ (¬ (x2 &&& 2) = 0 → lk_ai h a1 x4 (fun r5 => ((x2 &&& 4) = 0 → lk_as h a0 x4 (x3 - r5) (fun h6 => lk_wp X (d + 1) 30 8 [.ref a0, .ref a1, .int x2, .int x3, .int (x4 + 1), .retAddr 0, .retAddr 0] [] h6 Q)) ∧ (¬ (x2 &&& 4) = 0 → lk_as h a0 (x3 - r5) x4 (fun h7 => lk_wp X (d + 1) 30 8 [.ref a0, .ref a1, .int x2, .int x3, .int (x4 + 1), .retAddr 0, .retAddr 0] [] h7 Q))))) ∧ (¬ (x2 &&& 1) = 0 → ((x2 &&& 2) = 0 → lk_ai h a1 x4 (fun r8 => ((x2 &&& 4) = 0 → lk_as h a0 (x3 - x4) r8 (fun h9 => lk_wp X (d + 1) 30 8 [.ref a0, .ref a1, .int x2, .int x3, .int (x4 + 1), .retAddr 0, .retAddr 0] [] h9 Q)) ∧ (¬ (x2 &&& 4) = 0 → lk_as h a0 r8 (x3 - x4) (fun h10 => lk_wp X (d + 1) 30 8 [.ref a0, .ref a1, .int x2, .int x3, .int (x4 + 1), .retAddr 0, .retAddr 0] [] h10 Q)))) ∧ (¬ (x2 &&& 2) = 0 → lk_ai h a1 x4 (fun r11 => ((x2 &&& 4) = 0 → lk_as h a0 (x3 - x4) (x3 - r11) (fun h12 => lk_wp X (d + 1) 30 8 [.ref a0, .ref a1, .int x2, .int x3, .int (x4 + 1), .retAddr 0, .retAddr 0] [] h12 Q)) ∧ (¬ (x2 &&& 4) = 0 → lk_as h a0 (x3 - r11) (x3 - x4) (fun h13 => lk_wp X (d + 1) 30 8 [.ref a0, .ref a1, .int x2, .int x3, .int (x4 + 1), .retAddr 0, .retAddr 0] [] h13 Q)))))))) : lk_wp X (d + 1) 30 8 [.ref a0, .ref a1, .int x2, .int x3, .int x4, .retAddr 0, .retAddr 0] [] h Q := by
  refine lk_wp_seg (lo' := [.ref a0, .ref a1, .int x2, .int x3, .int x4, .retAddr 0, .retAddr 0]) (st' := [.ref a1, .int x4]) lk_M30 lk_s30_8_2 rfl ?_
  refine lk_wp_al lk_i30_11 lk_M30 H (fun r1 H => ?_)
  refine lk_wp_ic_ge lk_i30_12 lk_M30 H (fun H => ?_) (fun H => ?_)
  · exact lk_wp_ret lk_i30_80 lk_M30 rfl H
  · refine lk_wp_seg (lo' := [.ref a0, .ref a1, .int x2, .int x3, .int x4, .retAddr 0, .retAddr 0]) (st' := [.int (x2 &&& 1)]) lk_M30 lk_s30_15_3 rfl ?_
    refine lk_wp_if_eq lk_i30_18 lk_M30 H (fun H => ?_) (fun H => ?_)
    · refine lk_wp_seg (lo' := [.ref a0, .ref a1, .int x2, .int x3, .int x4, .int x4, .retAddr 0]) (st' := [.int (x2 &&& 2)]) lk_M30 lk_s30_28_5 rfl ?_
      refine lk_wp_if_eq lk_i30_35 lk_M30 H (fun H => ?_) (fun H => ?_)
      · refine lk_wp_seg (lo' := [.ref a0, .ref a1, .int x2, .int x3, .int x4, .int x4, .retAddr 0]) (st' := [.int x4, .ref a1]) lk_M30 lk_s30_47_2 rfl ?_
        refine lk_wp_ai lk_i30_50 lk_M30 H (fun r2 H => ?_)
        refine lk_wp_seg (lo' := [.ref a0, .ref a1, .int x2, .int x3, .int x4, .int x4, .int r2]) (st' := [.int (x2 &&& 4)]) lk_M30 lk_s30_51_4 rfl ?_
        refine lk_wp_if_eq lk_i30_56 lk_M30 H (fun H => ?_) (fun H => ?_)
        · refine lk_wp_seg (lo' := [.ref a0, .ref a1, .int x2, .int x3, .int x4, .int x4, .int r2]) (st' := [.int r2, .int x4, .ref a0]) lk_M30 lk_s30_68_3 rfl ?_
          refine lk_wp_as lk_i30_73 lk_M30 H (fun h3 H => ?_)
          refine lk_wp_seg (lo' := [.ref a0, .ref a1, .int x2, .int x3, .int (x4 + 1), .int x4, .int r2]) (st' := []) lk_M30 lk_s30_74_2 rfl ?_
          exact H.forget (lk_le_s (lk_le_s (lk_le_s (lk_le_s (lk_le_s (lk_le_d (lk_le_d lk_le_n)))))))
        · refine lk_wp_seg (lo' := [.ref a0, .ref a1, .int x2, .int x3, .int x4, .int x4, .int r2]) (st' := [.int x4, .int r2, .ref a0]) lk_M30 lk_s30_59_3 rfl ?_
          refine lk_wp_as lk_i30_64 lk_M30 H (fun h4 H => ?_)
          refine lk_wp_seg (lo' := [.ref a0, .ref a1, .int x2, .int x3, .int x4, .int x4, .int r2]) (st' := []) lk_M30 lk_s30_65_1 rfl ?_
          refine lk_wp_seg (lo' := [.ref a0, .ref a1, .int x2, .int x3, .int (x4 + 1), .int x4, .int r2]) (st' := []) lk_M30 lk_s30_74_2 rfl ?_
          exact H.forget (lk_le_s (lk_le_s (lk_le_s (lk_le_s (lk_le_s (lk_le_d (lk_le_d lk_le_n)))))))
      · refine lk_wp_seg (lo' := [.ref a0, .ref a1, .int x2, .int x3, .int x4, .int x4, .retAddr 0]) (st' := [.int x4, .ref a1, .int x3]) lk_M30 lk_s30_38_3 rfl ?_
        refine lk_wp_ai lk_i30_42 lk_M30 H (fun r5 H => ?_)
        refine lk_wp_seg (lo' := [.ref a0, .ref a1, .int x2, .int x3, .int x4, .int x4, .retAddr 0]) (st' := [.int (x3 - r5)]) lk_M30 lk_s30_43_2 rfl ?_
        refine lk_wp_seg (lo' := [.ref a0, .ref a1, .int x2, .int x3, .int x4, .int x4, .int (x3 - r5)]) (st' := [.int (x2 &&& 4)]) lk_M30 lk_s30_51_4 rfl ?_
        refine lk_wp_if_eq lk_i30_56 lk_M30 H (fun H => ?_) (fun H => ?_)
        · refine lk_wp_seg (lo' := [.ref a0, .ref a1, .int x2, .int x3, .int x4, .int x4, .int (x3 - r5)]) (st' := [.int (x3 - r5), .int x4, .ref a0]) lk_M30 lk_s30_68_3 rfl ?_
          refine lk_wp_as lk_i30_73 lk_M30 H (fun h6 H => ?_)
          refine lk_wp_seg (lo' := [.ref a0, .ref a1, .int x2, .int x3, .int (x4 + 1), .int x4, .int (x3 - r5)]) (st' := []) lk_M30 lk_s30_74_2 rfl ?_
          exact H.forget (lk_le_s (lk_le_s (lk_le_s (lk_le_s (lk_le_s (lk_le_d (lk_le_d lk_le_n)))))))
        · refine lk_wp_seg (lo' := [.ref a0, .ref a1, .int x2, .int x3, .int x4, .int x4, .int (x3 - r5)]) (st' := [.int x4, .int (x3 - r5), .ref a0]) lk_M30 lk_s30_59_3 rfl ?_
          refine lk_wp_as lk_i30_64 lk_M30 H (fun h7 H => ?_)
          refine lk_wp_seg (lo' := [.ref a0, .ref a1, .int x2, .int x3, .int x4, .int x4, .int (x3 - r5)]) (st' := []) lk_M30 lk_s30_65_1 rfl ?_
          refine lk_wp_seg (lo' := [.ref a0, .ref a1, .int x2, .int x3, .int (x4 + 1), .int x4, .int (x3 - r5)]) (st' := []) lk_M30 lk_s30_74_2 rfl ?_
          exact H.forget (lk_le_s (lk_le_s (lk_le_s (lk_le_s (lk_le_s (lk_le_d (lk_le_d lk_le_n)))))))
    · refine lk_wp_seg (lo' := [.ref a0, .ref a1, .int x2, .int x3, .int x4, .retAddr 0, .retAddr 0]) (st' := [.int (x3 - x4)]) lk_M30 lk_s30_21_4 rfl ?_
      refine lk_wp_seg (lo' := [.ref a0, .ref a1, .int x2, .int x3, .int x4, .int (x3 - x4), .retAddr 0]) (st' := [.int (x2 &&& 2)]) lk_M30 lk_s30_30_4 rfl ?_
      refine lk_wp_if_eq lk_i30_35 lk_M30 H (fun H => ?_) (fun H => ?_)
      · refine lk_wp_seg (lo' := [.ref a0, .ref a1, .int x2, .int x3, .int x4, .int (x3 - x4), .retAddr 0]) (st' := [.int x4, .ref a1]) lk_M30 lk_s30_47_2 rfl ?_
        refine lk_wp_ai lk_i30_50 lk_M30 H (fun r8 H => ?_)
        refine lk_wp_seg (lo' := [.ref a0, .ref a1, .int x2, .int x3, .int x4, .int (x3 - x4), .int r8]) (st' := [.int (x2 &&& 4)]) lk_M30 lk_s30_51_4 rfl ?_
        refine lk_wp_if_eq lk_i30_56 lk_M30 H (fun H => ?_) (fun H => ?_)
        · refine lk_wp_seg (lo' := [.ref a0, .ref a1, .int x2, .int x3, .int x4, .int (x3 - x4), .int r8]) (st' := [.int r8, .int (x3 - x4), .ref a0]) lk_M30 lk_s30_68_3 rfl ?_
          refine lk_wp_as lk_i30_73 lk_M30 H (fun h9 H => ?_)
          refine lk_wp_seg (lo' := [.ref a0, .ref a1, .int x2, .int x3, .int (x4 + 1), .int (x3 - x4), .int r8]) (st' := []) lk_M30 lk_s30_74_2 rfl ?_
          exact H.forget (lk_le_s (lk_le_s (lk_le_s (lk_le_s (lk_le_s (lk_le_d (lk_le_d lk_le_n)))))))
        · refine lk_wp_seg (lo' := [.ref a0, .ref a1, .int x2, .int x3, .int x4, .int (x3 - x4), .int r8]) (st' := [.int (x3 - x4), .int r8, .ref a0]) lk_M30 lk_s30_59_3 rfl ?_
          refine lk_wp_as lk_i30_64 lk_M30 H (fun h10 H => ?_)
          refine lk_wp_seg (lo' := [.ref a0, .ref a1, .int x2, .int x3, .int x4, .int (x3 - x4), .int r8]) (st' := []) lk_M30 lk_s30_65_1 rfl ?_
          refine lk_wp_seg (lo' := [.ref a0, .ref a1, .int x2, .int x3, .int (x4 + 1), .int (x3 - x4), .int r8]) (st' := []) lk_M30 lk_s30_74_2 rfl ?_
          exact H.forget (lk_le_s (lk_le_s (lk_le_s (lk_le_s (lk_le_s (lk_le_d (lk_le_d lk_le_n)))))))
      · refine lk_wp_seg (lo' := [.ref a0, .ref a1, .int x2, .int x3, .int x4, .int (x3 - x4), .retAddr 0]) (st' := [.int x4, .ref a1, .int x3]) lk_M30 lk_s30_38_3 rfl ?_
        refine lk_wp_ai lk_i30_42 lk_M30 H (fun r11 H => ?_)
        refine lk_wp_seg (lo' := [.ref a0, .ref a1, .int x2, .int x3, .int x4, .int (x3 - x4), .retAddr 0]) (st' := [.int (x3 - r11)]) lk_M30 lk_s30_43_2 rfl ?_
        refine lk_wp_seg (lo' := [.ref a0, .ref a1, .int x2, .int x3, .int x4, .int (x3 - x4), .int (x3 - r11)]) (st' := [.int (x2 &&& 4)]) lk_M30 lk_s30_51_4 rfl ?_
        refine lk_wp_if_eq lk_i30_56 lk_M30 H (fun H => ?_) (fun H => ?_)
        · refine lk_wp_seg (lo' := [.ref a0, .ref a1, .int x2, .int x3, .int x4, .int (x3 - x4), .int (x3 - r11)]) (st' := [.int (x3 - r11), .int (x3 - x4), .ref a0]) lk_M30 lk_s30_68_3 rfl ?_
          refine lk_wp_as lk_i30_73 lk_M30 H (fun h12 H => ?_)
          refine lk_wp_seg (lo' := [.ref a0, .ref a1, .int x2, .int x3, .int (x4 + 1), .int (x3 - x4), .int (x3 - r11)]) (st' := []) lk_M30 lk_s30_74_2 rfl ?_
          exact H.forget (lk_le_s (lk_le_s (lk_le_s (lk_le_s (lk_le_s (lk_le_d (lk_le_d lk_le_n)))))))
        · refine lk_wp_seg (lo' := [.ref a0, .ref a1, .int x2, .int x3, .int x4, .int (x3 - x4), .int (x3 - r11)]) (st' := [.int (x3 - x4), .int (x3 - r11), .ref a0]) lk_M30 lk_s30_59_3 rfl ?_
          refine lk_wp_as lk_i30_64 lk_M30 H (fun h13 H => ?_)
          refine lk_wp_seg (lo' := [.ref a0, .ref a1, .int x2, .int x3, .int x4, .int (x3 - x4), .int (x3 - r11)]) (st' := []) lk_M30 lk_s30_65_1 rfl ?_
          refine lk_wp_seg (lo' := [.ref a0, .ref a1, .int x2, .int x3, .int (x4 + 1), .int (x3 - x4), .int (x3 - r11)]) (st' := []) lk_M30 lk_s30_74_2 rfl ?_
          exact H.forget (lk_le_s (lk_le_s (lk_le_s (lk_le_s (lk_le_s (lk_le_d (lk_le_d lk_le_n)))))))
