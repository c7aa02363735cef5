/-! echo, tied -/
section ECHO4
variable {X : lk_X} {d : Nat} {x : Nat → Nat → Int32} {S L : Nat → Option Nat} {m : Nat → Nat → Int32} {dyn : lk_H}
theorem T_echo (h : Rel x S L m dyn) (a s i n w : Int32) : TE X (d + 5) 89 163 [.int a, .int s, .int i, .int n, .int w] x S L m dyn := by
  have e0 : (0 : Int32).toInt = 0 := rfl
  have e1 : (1 : Int32).toInt = 1 := rfl
  have e2 : (2 : Int32).toInt = 2 := rfl
  have e30 : (30 : Int32).toInt = 30 := rfl
  by_cases ha : 0 ≤ a.toInt ∧ a.toInt ≤ 9
  · by_cases hs : 0 ≤ s.toInt ∧ s.toInt ≤ 7
    · by_cases hn : 1 ≤ n.toInt ∧ n.toInt ≤ 30
      · by_cases hw : 0 ≤ w.toInt ∧ w.toInt ≤ 2
        · obtain ⟨p, rfl, hp1, -⟩ := i32_nat ha.1
          obtain ⟨k, rfl, hk1, -⟩ := i32_nat hs.1
          obtain ⟨nn, rfl, hn1, -⟩ := i32_nat (v := n) (by omega)
          obtain ⟨ww, rfl, hw1, -⟩ := i32_nat hw.1
          have hp10 : p < 10 := by omega
          have hk8 : k < 8 := by omega
          have e2n : 2 * nI nn = nI (2 * nn) := by rw [show (2 : Int32) = nI 2 from rfl, pk_mul]
          have e2t : (nI (2 * nn)).toInt = 2 * (nn : Int) := by rw [i32_nI (by omega)]; omega
          rcases h.ord hp10 with ⟨f, hf, o1, o2, o3⟩ | ⟨a1, c1, b1, n1, g1, s1, t1, or1, m1, o1, o3⟩
          · refine TE.mk0 (r := -1000010 - f) (E_x_echo ?_) (E_m_echo ?_) (h.st f)
            · rw [S_x_isPlace.iffi]
              refine br_f (bI_t ha) ?_
              rw [S_x_isSheet.iffi]
              refine br_f (bI_t hs) ?_
              refine br_f (by rw [i32_lt]; omega) (br_f (by rw [i32_lt]; omega) ?_)
              refine br_f (by rw [i32_lt]; omega) (br_t (by rw [i32_le]; omega) ?_)
              rw [hp_v0, (o1 X (d + 3)).iffn, hp_v0, (o2 X (d + 3)).iffi, hp_v0, S_x_found.iffi]
              exact ⟨rfl, rfl⟩
            · rw [S_m_isPlace.iffi]
              refine br_f (bI_t ha) ?_
              rw [S_m_isSheet.iffi]
              refine br_f (bI_t hs) ?_
              rw [S_m_in.iffi, i64_of]
              refine br_f (bI_t hn) ?_
              rw [S_m_in.iffi, i64_of]
              refine br_n1 (bI_t hw) ?_
              rw [hp_v29, (o3 X (d + 2) _ _ _ _ m rfl).iffi]
              rcases hf with rfl | rfl
              · exact br_f (by decide) ⟨rfl, rfl⟩
              · exact br_f (by decide) ⟨rfl, rfl⟩
          · have t1' : ∀ x', tr (hp x' S L m dyn) (44 + a1) c1 (44 + b1) n1 g1 := fun x' => by
              have := t1 x' S L m []
              rw [List.append_nil] at this
              exact this
            rcases h.1 k hk8 with ⟨q1, q2⟩ | ⟨q1, la, sz, l1, l2, l3, l4, l5, l6, l7⟩
            · refine TE.mk0 (r := -1000010 - 1) (E_x_echo ?_) (E_m_echo ?_) (h.st 1)
              · rw [S_x_isPlace.iffi]
                refine br_f (bI_t ha) ?_
                rw [S_x_isSheet.iffi]
                refine br_f (bI_t hs) ?_
                refine br_f (by rw [i32_lt]; omega) (br_f (by rw [i32_lt]; omega) ?_)
                refine br_f (by rw [i32_lt]; omega) (br_t (by rw [i32_le]; omega) ?_)
                rw [hp_v0, (o1 X (d + 3)).iffr, hp_v0, (S_x_items0 (d := d + 2) hk8 q1).iffi]
                refine br_f (by decide) ?_
                rw [hp_v0, S_x_found.iffi]
                exact ⟨rfl, rfl⟩
              · rw [S_m_isPlace.iffi]
                refine br_f (bI_t ha) ?_
                rw [S_m_isSheet.iffi]
                refine br_f (bI_t hs) ?_
                rw [S_m_in.iffi, i64_of]
                refine br_f (bI_t hn) ?_
                rw [S_m_in.iffi, i64_of]
                refine br_n1 (bI_t hw) ?_
                rw [hp_v29, (o3 X (d + 2) _ _ _ _ m rfl).iffi]
                refine br_t rfl ?_
                rw [hp_f29_0, hp_a30, nI_clamp (by omega), q2]
                refine ⟨vp_in_nI hk8 (by omega), br_n2 rfl ?_⟩
                rw [hp_v29, S_m_finds.iffi]
                exact ⟨rfl, rfl⟩
            · have hl0 : ¬ nI (la + 1) = 0 := fun w => by
                have := (nI_eq (a := la + 1) (b := 0) (by omega) (by omega)).mp w
                omega
              by_cases hi : 0 ≤ i.toInt ∧ i.toInt + 2 * (nn : Int) ≤ sz
              · obtain ⟨ii, rfl, hi1, -⟩ := i32_nat hi.1
                have hi60 : ii + 2 * nn ≤ 60 := by omega
                obtain ⟨x', ev, hx'⟩ := C_echo (X := X) (d := d + 2) (x := x) (S := S) (L := L) (m := m) (dyn := dyn) (bb := 44 + b1) (N := n1) (g := g1) hk8 hi60 (by omega) (show ww < 3 by omega) (fun x' => (t1' x').2.2)
                have eF : fitF n1 g1 (fun j => x (10 + k) (ii + 2 * j)) (fun j => x (10 + k) (ii + 2 * j + 1)) nn = fitF n1 g1 (fun j => m 2 (60 * k + (ii + 2 * j))) (fun j => m 2 (60 * k + (ii + 2 * j + 1))) nn := by
                  funext t
                  unfold fitF
                  refine cn_congr fun j _ hj => ?_
                  dsimp only
                  rw [l7 (ii + 2 * j) (by omega), l7 (ii + 2 * j + 1) (by omega)]
                rw [eF] at ev
                refine TE.mk0 (r := nI (ep ww (fitF n1 g1 (fun j => m 2 (60 * k + (ii + 2 * j))) (fun j => m 2 (60 * k + (ii + 2 * j + 1))) nn))) (E_x_echo ?_) (E_m_echo ?_) ((h.x34 (fun q _ h4 => hx' q h4)).st 0)
                · rw [S_x_isPlace.iffi]
                  refine br_f (bI_t ha) ?_
                  rw [S_x_isSheet.iffi]
                  refine br_f (bI_t hs) ?_
                  refine br_f (by rw [i32_lt]; omega) (br_f (by rw [i32_lt]; omega) ?_)
                  refine br_f (by rw [i32_lt]; omega) (br_t (by rw [i32_le]; omega) ?_)
                  rw [hp_v0, (o1 X (d + 3)).iffr, hp_v0, e2n, (S_x_items (d := d + 2) hk8 l2 q1 l5).iffi, e2t, if_pos ⟨hi.1, by omega, hi.2⟩]
                  refine br_t rfl ?_
                  rw [hp_f0_3, (t1' x).fR has5, hp_f0_0, hp_ra1, nI_clamp (by omega)]
                  refine ⟨vp_in_nI hk8 (by omega), ?_⟩
                  rw [hp_sfR hk8, hp_v5, ev.iffi, hp_v0, S_x_settled.iffi]
                  exact ⟨rfl, rfl⟩
                · rw [S_m_isPlace.iffi]
                  refine br_f (bI_t ha) ?_
                  rw [S_m_isSheet.iffi]
                  refine br_f (bI_t hs) ?_
                  rw [S_m_in.iffi, i64_of]
                  refine br_f (bI_t hn) ?_
                  rw [S_m_in.iffi, i64_of]
                  refine br_n1 (bI_t hw) ?_
                  rw [hp_v29, (o3 X (d + 2) _ _ _ _ m rfl).iffi]
                  refine br_t rfl ?_
                  rw [hp_f29_0, hp_a30, nI_clamp (by omega), l4]
                  refine ⟨vp_in_nI hk8 (by omega), br_n1 hl0 (br_f (by rw [i32_lt]; omega) ?_)⟩
                  rw [hp_f29_1, hp_a31, nI_clamp (by omega), l6]
                  refine ⟨vp_in_nI hk8 (by omega), br_t ?_ ?_⟩
                  · rw [lg_cmp_le, Int64.le_iff_toInt_le, i64_add2, i64_of, i32_nI (n := sz) (by omega), i32_nI (n := nn) (by omega)]
                    exact hi.2
                  · exact m_echo_r (d := d + 3) (r := 0) m1 hk8 hi60 (by omega) (show ww < 3 by omega) rfl 21 _ _ _ rfl (by omega) (Or.inl ⟨rfl, rfl, rfl, rfl⟩) ⟨rfl, rfl⟩
              · refine TE.mk0 (r := -1000010 - 2) (E_x_echo ?_) (E_m_echo ?_) (h.st 2)
                · rw [S_x_isPlace.iffi]
                  refine br_f (bI_t ha) ?_
                  rw [S_x_isSheet.iffi]
                  refine br_f (bI_t hs) ?_
                  refine br_f (by rw [i32_lt]; omega) (br_f (by rw [i32_lt]; omega) ?_)
                  refine br_f (by rw [i32_lt]; omega) (br_t (by rw [i32_le]; omega) ?_)
                  rw [hp_v0, (o1 X (d + 3)).iffr, hp_v0, e2n, (S_x_items (d := d + 2) hk8 l2 q1 l5).iffi, e2t, if_neg (fun w => hi ⟨w.1, w.2.2⟩)]
                  refine br_f (by decide) ?_
                  rw [hp_v0, S_x_found.iffi]
                  exact ⟨rfl, rfl⟩
                · rw [S_m_isPlace.iffi]
                  refine br_f (bI_t ha) ?_
                  rw [S_m_isSheet.iffi]
                  refine br_f (bI_t hs) ?_
                  rw [S_m_in.iffi, i64_of]
                  refine br_f (bI_t hn) ?_
                  rw [S_m_in.iffi, i64_of]
                  refine br_n1 (bI_t hw) ?_
                  rw [hp_v29, (o3 X (d + 2) _ _ _ _ m rfl).iffi]
                  refine br_t rfl ?_
                  rw [hp_f29_0, hp_a30, nI_clamp (by omega), l4]
                  refine ⟨vp_in_nI hk8 (by omega), br_n1 hl0 ?_⟩
                  by_cases hi0 : i.toInt < 0
                  · refine br_t (by rw [i32_lt]; omega) ?_
                    rw [hp_v29, S_m_finds.iffi]
                    exact ⟨rfl, rfl⟩
                  · refine br_f (by rw [i32_lt]; omega) ?_
                    rw [hp_f29_1, hp_a31, nI_clamp (by omega), l6]
                    refine ⟨vp_in_nI hk8 (by omega), br_f ?_ ?_⟩
                    · rw [lg_cmp_le, Int64.le_iff_toInt_le, i64_add2, i64_of, i32_nI (n := sz) (by omega), i32_nI (n := nn) (by omega)]
                      omega
                    · rw [hp_v29, S_m_finds.iffi]
                      exact ⟨rfl, rfl⟩
        · refine TE.mk0 (r := -1000001) (E_x_echo ?_) (E_m_echo ?_) h
          · rw [S_x_isPlace.iffi]
            refine br_f (bI_t ha) ?_
            rw [S_x_isSheet.iffi]
            refine br_f (bI_t hs) ?_
            refine br_f (by rw [i32_lt]; omega) (br_f (by rw [i32_lt]; omega) ?_)
            by_cases hlo : w.toInt < 0
            · exact br_t (by rw [i32_lt]; omega) ⟨rfl, rfl⟩
            · exact br_f (by rw [i32_lt]; omega) (br_f (by rw [i32_le]; omega) ⟨rfl, rfl⟩)
          · rw [S_m_isPlace.iffi]
            refine br_f (bI_t ha) ?_
            rw [S_m_isSheet.iffi]
            refine br_f (bI_t hs) ?_
            rw [S_m_in.iffi, i64_of]
            refine br_f (bI_t hn) ?_
            rw [S_m_in.iffi, i64_of]
            exact br_n2 (bI_f hw) ⟨rfl, rfl⟩
      · refine TE.mk0 (r := -1000001) (E_x_echo ?_) (E_m_echo ?_) h
        · rw [S_x_isPlace.iffi]
          refine br_f (bI_t ha) ?_
          rw [S_x_isSheet.iffi]
          refine br_f (bI_t hs) ?_
          by_cases hlo : n.toInt < 1
          · exact br_t (by rw [i32_lt]; omega) ⟨rfl, rfl⟩
          · exact br_f (by rw [i32_lt]; omega) (br_t (by rw [i32_lt]; omega) ⟨rfl, rfl⟩)
        · rw [S_m_isPlace.iffi]
          refine br_f (bI_t ha) ?_
          rw [S_m_isSheet.iffi]
          refine br_f (bI_t hs) ?_
          rw [S_m_in.iffi, i64_of]
          exact br_t (bI_f hn) ⟨rfl, rfl⟩
    · refine TE.mk0 (r := -1000001) (E_x_echo ?_) (E_m_echo ?_) h
      · rw [S_x_isPlace.iffi]
        refine br_f (bI_t ha) ?_
        rw [S_x_isSheet.iffi]
        exact br_t (bI_f hs) ⟨rfl, rfl⟩
      · rw [S_m_isPlace.iffi]
        refine br_f (bI_t ha) ?_
        rw [S_m_isSheet.iffi]
        exact br_t (bI_f hs) ⟨rfl, rfl⟩
  · refine TE.mk0 (r := -1000001) (E_x_echo ?_) (E_m_echo ?_) h
    · rw [S_x_isPlace.iffi]
      exact br_t (bI_f ha) ⟨rfl, rfl⟩
    · rw [S_m_isPlace.iffi]
      exact br_t (bI_f ha) ⟨rfl, rfl⟩
end ECHO4
