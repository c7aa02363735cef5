theorem lk_s102_48_1 : lk_seg 102 [(.iconst 0, 1, (0, [], .int (0)))] 48 = some 49 := by decide +kernel
set_option maxRecDepth 20000 in
theorem E_x_isOfKind_n {X : lk_X} {d : Nat} {x1 : Int32} {h : lk_H} {Q : Option Value → lk_H → Prop} (H : (x1 = Int32.ofNat 0 → Q (some (.int 0)) h) ∧ (¬ x1 = Int32.ofNat 0 → (x1 = Int32.ofNat 1 → Q (some (.int 0)) h) ∧ (¬ x1 = Int32.ofNat 1 → (x1 = Int32.ofNat 2 → Q (some (.int 0)) h) ∧ (¬ x1 = Int32.ofNat 2 → (x1 = Int32.ofNat 3 → Q (some (.int 0)) h) ∧ (¬ x1 = Int32.ofNat 3 → (x1 = Int32.ofNat 4 → Q (some (.int 0)) h) ∧ (¬ x1 = Int32.ofNat 4 → (x1 = Int32.ofNat 5 → Q (some (.int 0)) h) ∧ (¬ x1 = Int32.ofNat 5 → Q (some (.int 0)) h))))))) : lk_wx X (d + 1) 102 [.null, .int x1] h Q := by
  refine lk_enter (lo := [.null, .int x1]) lk_M102 rfl (Nat.le_of_ble_eq_true rfl) ?_
  refine lk_wp_seg (lo' := [.null, .int x1]) (st' := [.int x1]) lk_M102 lk_s102_0_1 rfl ?_
  refine lk_wp_sw lk_i102_1 lk_M102 ?_
  refine lk_wp_swc H (fun H => ?_) (fun H => ?_)
  · refine lk_wp_seg (lo' := [.null, .int x1]) (st' := [.null]) lk_M102 lk_s102_40_1 rfl ?_
    refine lk_wp_one lk_i102_41 lk_M102 rfl (lk_cal0 rfl) rfl ?_
    refine lk_wp_seg (lo' := [.null, .int x1]) (st' := [.int 0]) lk_M102 lk_s102_48_1 rfl ?_
    exact lk_wp_ret lk_i102_49 lk_M102 rfl H
  · refine lk_wp_swc H (fun H => ?_) (fun H => ?_)
    · refine lk_wp_seg (lo' := [.null, .int x1]) (st' := [.null]) lk_M102 lk_s102_50_1 rfl ?_
      refine lk_wp_one lk_i102_51 lk_M102 rfl (lk_cal0 rfl) rfl ?_
      exact lk_wp_ret lk_i102_54 lk_M102 rfl H
    · refine lk_wp_swc H (fun H => ?_) (fun H => ?_)
      · refine lk_wp_seg (lo' := [.null, .int x1]) (st' := [.null]) lk_M102 lk_s102_55_1 rfl ?_
        refine lk_wp_one lk_i102_56 lk_M102 rfl (lk_cal0 rfl) rfl ?_
        exact lk_wp_ret lk_i102_59 lk_M102 rfl H
      · refine lk_wp_swc H (fun H => ?_) (fun H => ?_)
        · refine lk_wp_seg (lo' := [.null, .int x1]) (st' := [.null]) lk_M102 lk_s102_60_1 rfl ?_
          refine lk_wp_one lk_i102_61 lk_M102 rfl (lk_cal0 rfl) rfl ?_
          exact lk_wp_ret lk_i102_64 lk_M102 rfl H
        · refine lk_wp_swc H (fun H => ?_) (fun H => ?_)
          · refine lk_wp_seg (lo' := [.null, .int x1]) (st' := [.null]) lk_M102 lk_s102_65_1 rfl ?_
            refine lk_wp_one lk_i102_66 lk_M102 rfl (lk_cal0 rfl) rfl ?_
            exact lk_wp_ret lk_i102_69 lk_M102 rfl H
          · refine lk_wp_swc H (fun H => ?_) (fun H => ?_)
            · refine lk_wp_seg (lo' := [.null, .int x1]) (st' := [.null]) lk_M102 lk_s102_70_1 rfl ?_
              refine lk_wp_one lk_i102_71 lk_M102 rfl (lk_cal0 rfl) rfl ?_
              exact lk_wp_ret lk_i102_74 lk_M102 rfl H
            · refine lk_wp_seg (lo' := [.null, .int x1]) (st' := [.int 0]) lk_M102 lk_s102_75_1 rfl ?_
              exact lk_wp_ret lk_i102_76 lk_M102 rfl H
