/-! ask -/
section ASK3
variable {X : lk_X} {d : Nat} {x : Nat → Nat → Int32} {S L : Nat → Option Nat} {m : Nat → Nat → Int32} {dyn : lk_H}
theorem S_tr_empty : lk_ev X (d + 1) 62 [.ref 3] (hp x S L m dyn) none (hp (ms x 1 0 0) S L m dyn) := by
  refine E_tr_empty ?_
  rw [hp_p3_1]
  exact ⟨rfl, rfl⟩
theorem ms_10 : ms x 1 0 0 1 0 = nI 0 := by rw [ms_same, pk_us]; rfl
theorem ms_150 : ms m 15 0 0 15 0 = nI 0 := by rw [ms_same, pk_us]; rfl
theorem T_ask (h : Rel x S L m dyn) (v w : Int32) : TE X (d + 7) 82 153 [.int v, .int w] x S L m dyn := by
  have e0 : (0 : Int32).toInt = 0 := rfl
  have eT : (1 : Int32).toInt = 1 := rfl
  by_cases hv : 0 ≤ v.toInt ∧ v.toInt ≤ 9
  · by_cases hw : 0 ≤ w.toInt ∧ w.toInt ≤ 1
    · obtain ⟨p, rfl, hp1, -⟩ := i32_nat hv.1
      have hp10 : p < 10 := by omega
      rcases h.2.2.1.get hp10 with ⟨q1, q2⟩ | ⟨a, c, b, n, g, q1, q2, q3, q4, q5⟩
      · refine TE.mk0 (r := -1000010 - 1) (E_x_ask ?_) (E_m_ask ?_) (h.trc (TR.st x m) (by omega) 1)
        · rw [S_x_isPlace.iffi]
          refine br_f (bI_t hv) (br_f (by rw [i32_lt]; omega) (br_t (by rw [i32_le]; omega) ?_))
          rw [hp_f0_2, hp_v3, S_tr_empty.iffv, hp_f0_1]
          refine ra_n rfl hp10 q1 ?_
          rw [hp_v0, S_x_found.iffi]
          exact ⟨rfl, rfl⟩
        · rw [S_m_isPlace.iffi]
          refine br_f (bI_t hv) ?_
          rw [S_m_in.iffi, i64_of]
          refine br_n1 (bI_t hw) ?_
          rw [hp_p29_9, hp_f29_4, hp_a34, nI_clamp (by omega), ms_ne (c := 15) (c' := 4) (by decide)]
          rw [q2]
          refine ⟨vp_in_nI (by omega) (by omega), br_n2 rfl ?_⟩
          rw [hp_v29, S_m_finds.iffi]
          exact ⟨rfl, rfl⟩
      · have hn := q3.n16
        have hr : ∀ x', tr (hp x' S L m dyn) (44 + a) c (44 + b) n g := fun x' => by
          have := q2 x' S L m []
          rw [List.append_nil] at this
          exact this
        have hm0 : mth (ms m 15 0 0) p n g := q5.congr (ms_ne (by decide)) (ms_ne (by decide))
        have hk0 : ms m 15 0 0 4 p = nI (kc c) := by rw [ms_ne (by decide)]; exact q4
        obtain ⟨k, rfl, hk1, -⟩ := i32_nat hw.1
        have hk2 : k = 0 ∨ k = 1 := by omega
        have t0 := TR.st x m
        rcases q3.isC with rfl | rfl | rfl | rfl | rfl
        · rcases hk2 with rfl | rfl
          · refine TE.mk0 (r := nI n) (E_x_ask ?_) (E_m_ask ?_) (h.trc (t0.go 11) (by decide) 0)
            · rw [S_x_isPlace.iffi]
              refine br_f (bI_t hv) (br_f (by rw [i32_lt]; omega) (br_t (by rw [i32_le]; omega) ?_))
              rw [hp_f0_2, hp_v3, S_tr_empty.iffv, hp_f0_1]
              refine ra_s hp10 q1 (br_n2 rfl ?_)
              rw [hp_f0_2, vc_of (k := 33) (hr _).1 rfl, (C_o_askSize (d := d + 4) ms_10 (by decide) hr).iffi, hp_v0, S_x_settled.iffi]
              exact ⟨rfl, rfl⟩
            · rw [S_m_isPlace.iffi]
              refine br_f (bI_t hv) ?_
              rw [S_m_in.iffi, i64_of]
              refine br_n1 (bI_t hw) ?_
              rw [hp_p29_9, hp_f29_4, hp_a34, nI_clamp (by omega), ms_ne (c := 15) (c' := 4) (by decide)]
              rw [q4]
              refine ⟨vp_in_nI (by omega) (by omega), br_n1 (by decide) (br_n2 rfl ?_)⟩
              rw [hp_v29, (M_sizeOf_o (d := d + 3) (K := 2) (by decide) hk0 ms_150 (by decide) hm0).iffi, hp_v29, S_m_well.iffi]
              exact ⟨rfl, rfl⟩
          · refine TE.mk0 (r := 2 * (nI n + 4)) (E_x_ask ?_) (E_m_ask ?_) (h.trc (((t0.go 21).go 20).go 11) (by decide) 0)
            · rw [S_x_isPlace.iffi]
              refine br_f (bI_t hv) (br_f (by rw [i32_lt]; omega) (br_t (by rw [i32_le]; omega) ?_))
              rw [hp_f0_2, hp_v3, S_tr_empty.iffv, hp_f0_1]
              refine ra_s hp10 q1 (br_n1 (by decide) ?_)
              rw [hp_f0_2, vc_of (k := 2) (hr _).1 rfl, (C_l_askMark (d := d + 2) ms_10 (by decide) hr).iffi, hp_v0, S_x_settled.iffi]
              exact ⟨rfl, rfl⟩
            · rw [S_m_isPlace.iffi]
              refine br_f (bI_t hv) ?_
              rw [S_m_in.iffi, i64_of]
              refine br_n1 (bI_t hw) ?_
              rw [hp_p29_9, hp_f29_4, hp_a34, nI_clamp (by omega), ms_ne (c := 15) (c' := 4) (by decide)]
              rw [q4]
              refine ⟨vp_in_nI (by omega) (by omega), br_n1 (by decide) (br_n1 (by decide) ?_)⟩
              rw [hp_v29, (M_mark_2 (d := d + 2) hk0 ms_150 (by decide) hm0).iffi, hp_v29, S_m_well.iffi]
              exact ⟨rfl, rfl⟩
        · rcases hk2 with rfl | rfl
          · refine TE.mk0 (r := 1 + nI (g (n - 1))) (E_x_ask ?_) (E_m_ask ?_) (h.trc ((t0.go 12).go 10) (by decide) 0)
            · rw [S_x_isPlace.iffi]
              refine br_f (bI_t hv) (br_f (by rw [i32_lt]; omega) (br_t (by rw [i32_le]; omega) ?_))
              rw [hp_f0_2, hp_v3, S_tr_empty.iffv, hp_f0_1]
              refine ra_s hp10 q1 (br_n2 rfl ?_)
              rw [hp_f0_2, vc_of (k := 17) (hr _).1 rfl, (C_k_askSize (d := d + 3) ms_10 (by decide) hn.1 hr).iffi, hp_v0, S_x_settled.iffi]
              exact ⟨rfl, rfl⟩
            · rw [S_m_isPlace.iffi]
              refine br_f (bI_t hv) ?_
              rw [S_m_in.iffi, i64_of]
              refine br_n1 (bI_t hw) ?_
              rw [hp_p29_9, hp_f29_4, hp_a34, nI_clamp (by omega), ms_ne (c := 15) (c' := 4) (by decide)]
              rw [q4]
              refine ⟨vp_in_nI (by omega) (by omega), br_n1 (by decide) (br_n2 rfl ?_)⟩
              rw [hp_v29, (M_sizeOf_3 (d := d + 3) hk0 hn.1 ms_150 (by decide) hm0).iffi, hp_v29, S_m_well.iffi]
              exact ⟨rfl, rfl⟩
          · refine TE.mk0 (r := nI n) (E_x_ask ?_) (E_m_ask ?_) (h.trc (t0.go 22) (by decide) 0)
            · rw [S_x_isPlace.iffi]
              refine br_f (bI_t hv) (br_f (by rw [i32_lt]; omega) (br_t (by rw [i32_le]; omega) ?_))
              rw [hp_f0_2, hp_v3, S_tr_empty.iffv, hp_f0_1]
              refine ra_s hp10 q1 (br_n1 (by decide) ?_)
              rw [hp_f0_2, vc_of (k := 18) (hr _).1 rfl, (C_k_askMark (d := d + 4) ms_10 (by decide) hr).iffi, hp_v0, S_x_settled.iffi]
              exact ⟨rfl, rfl⟩
            · rw [S_m_isPlace.iffi]
              refine br_f (bI_t hv) ?_
              rw [S_m_in.iffi, i64_of]
              refine br_n1 (bI_t hw) ?_
              rw [hp_p29_9, hp_f29_4, hp_a34, nI_clamp (by omega), ms_ne (c := 15) (c' := 4) (by decide)]
              rw [q4]
              refine ⟨vp_in_nI (by omega) (by omega), br_n1 (by decide) (br_n1 (by decide) ?_)⟩
              rw [hp_v29, (M_mark_3 (d := d + 2) (K := 3) (by decide) (by decide) hk0 ms_150 (by decide) hm0).iffi, hp_v29, S_m_well.iffi]
              exact ⟨rfl, rfl⟩
        · rcases hk2 with rfl | rfl
          · refine TE.mk0 (r := nI n) (E_x_ask ?_) (E_m_ask ?_) (h.trc (t0.go 11) (by decide) 0)
            · rw [S_x_isPlace.iffi]
              refine br_f (bI_t hv) (br_f (by rw [i32_lt]; omega) (br_t (by rw [i32_le]; omega) ?_))
              rw [hp_f0_2, hp_v3, S_tr_empty.iffv, hp_f0_1]
              refine ra_s hp10 q1 (br_n2 rfl ?_)
              rw [hp_f0_2, vc_of (k := 33) (hr _).1 rfl, (C_o_askSize (d := d + 4) ms_10 (by decide) hr).iffi, hp_v0, S_x_settled.iffi]
              exact ⟨rfl, rfl⟩
            · rw [S_m_isPlace.iffi]
              refine br_f (bI_t hv) ?_
              rw [S_m_in.iffi, i64_of]
              refine br_n1 (bI_t hw) ?_
              rw [hp_p29_9, hp_f29_4, hp_a34, nI_clamp (by omega), ms_ne (c := 15) (c' := 4) (by decide)]
              rw [q4]
              refine ⟨vp_in_nI (by omega) (by omega), br_n1 (by decide) (br_n2 rfl ?_)⟩
              rw [hp_v29, (M_sizeOf_o (d := d + 3) (K := 1) (by decide) hk0 ms_150 (by decide) hm0).iffi, hp_v29, S_m_well.iffi]
              exact ⟨rfl, rfl⟩
          · refine TE.mk0 (r := nI n + 4) (E_x_ask ?_) (E_m_ask ?_) (h.trc ((t0.go 20).go 11) (by decide) 0)
            · rw [S_x_isPlace.iffi]
              refine br_f (bI_t hv) (br_f (by rw [i32_lt]; omega) (br_t (by rw [i32_le]; omega) ?_))
              rw [hp_f0_2, hp_v3, S_tr_empty.iffv, hp_f0_1]
              refine ra_s hp10 q1 (br_n1 (by decide) ?_)
              rw [hp_f0_2, vc_of (k := 57) (hr _).1 rfl, (C_t_askMark (d := d + 3) ms_10 (by decide) (Or.inr rfl) hr).iffi, hp_v0, S_x_settled.iffi]
              exact ⟨rfl, rfl⟩
            · rw [S_m_isPlace.iffi]
              refine br_f (bI_t hv) ?_
              rw [S_m_in.iffi, i64_of]
              refine br_n1 (bI_t hw) ?_
              rw [hp_p29_9, hp_f29_4, hp_a34, nI_clamp (by omega), ms_ne (c := 15) (c' := 4) (by decide)]
              rw [q4]
              refine ⟨vp_in_nI (by omega) (by omega), br_n1 (by decide) (br_n1 (by decide) ?_)⟩
              rw [hp_v29, (M_mark_1 (d := d + 2) hk0 ms_150 (by decide) hm0).iffi, hp_v29, S_m_well.iffi]
              exact ⟨rfl, rfl⟩
        · rcases hk2 with rfl | rfl
          · refine TE.mk0 (r := 2 * (1 + nI (g (n - 1))) + nI n) (E_x_ask ?_) (E_m_ask ?_) (h.trc (((((t0.go 14).go 13).go 12).go 10).go 22) (by decide) 0)
            · rw [S_x_isPlace.iffi]
              refine br_f (bI_t hv) (br_f (by rw [i32_lt]; omega) (br_t (by rw [i32_le]; omega) ?_))
              rw [hp_f0_2, hp_v3, S_tr_empty.iffv, hp_f0_1]
              refine ra_s hp10 q1 (br_n2 rfl ?_)
              rw [hp_f0_2, vc_of (k := 41) (hr _).1 rfl, (C_p_askSize (d := d + 1) ms_10 (by decide) hn.1 hr).iffi, hp_v0, S_x_settled.iffi]
              exact ⟨rfl, rfl⟩
            · rw [S_m_isPlace.iffi]
              refine br_f (bI_t hv) ?_
              rw [S_m_in.iffi, i64_of]
              refine br_n1 (bI_t hw) ?_
              rw [hp_p29_9, hp_f29_4, hp_a34, nI_clamp (by omega), ms_ne (c := 15) (c' := 4) (by decide)]
              rw [q4]
              refine ⟨vp_in_nI (by omega) (by omega), br_n1 (by decide) (br_n2 rfl ?_)⟩
              rw [hp_v29, (M_sizeOf_5 (d := d + 3) hk0 hn.1 ms_150 (by decide) hm0).iffi, hp_v29, S_m_well.iffi]
              exact ⟨rfl, rfl⟩
          · refine TE.mk0 (r := nI n) (E_x_ask ?_) (E_m_ask ?_) (h.trc (t0.go 22) (by decide) 0)
            · rw [S_x_isPlace.iffi]
              refine br_f (bI_t hv) (br_f (by rw [i32_lt]; omega) (br_t (by rw [i32_le]; omega) ?_))
              rw [hp_f0_2, hp_v3, S_tr_empty.iffv, hp_f0_1]
              refine ra_s hp10 q1 (br_n1 (by decide) ?_)
              rw [hp_f0_2, vc_of (k := 18) (hr _).1 rfl, (C_k_askMark (d := d + 4) ms_10 (by decide) hr).iffi, hp_v0, S_x_settled.iffi]
              exact ⟨rfl, rfl⟩
            · rw [S_m_isPlace.iffi]
              refine br_f (bI_t hv) ?_
              rw [S_m_in.iffi, i64_of]
              refine br_n1 (bI_t hw) ?_
              rw [hp_p29_9, hp_f29_4, hp_a34, nI_clamp (by omega), ms_ne (c := 15) (c' := 4) (by decide)]
              rw [q4]
              refine ⟨vp_in_nI (by omega) (by omega), br_n1 (by decide) (br_n1 (by decide) ?_)⟩
              rw [hp_v29, (M_mark_3 (d := d + 2) (K := 5) (by decide) (by decide) hk0 ms_150 (by decide) hm0).iffi, hp_v29, S_m_well.iffi]
              exact ⟨rfl, rfl⟩
        · rcases hk2 with rfl | rfl
          · refine TE.mk0 (r := 2 * (1 + nI (g (n - 1)))) (E_x_ask ?_) (E_m_ask ?_) (h.trc (((t0.go 13).go 12).go 10) (by decide) 0)
            · rw [S_x_isPlace.iffi]
              refine br_f (bI_t hv) (br_f (by rw [i32_lt]; omega) (br_t (by rw [i32_le]; omega) ?_))
              rw [hp_f0_2, hp_v3, S_tr_empty.iffv, hp_f0_1]
              refine ra_s hp10 q1 (br_n2 rfl ?_)
              rw [hp_f0_2, vc_of (k := 44) (hr _).1 rfl, (C_r_askSize (d := d + 2) ms_10 (by decide) hn.1 hr).iffi, hp_v0, S_x_settled.iffi]
              exact ⟨rfl, rfl⟩
            · rw [S_m_isPlace.iffi]
              refine br_f (bI_t hv) ?_
              rw [S_m_in.iffi, i64_of]
              refine br_n1 (bI_t hw) ?_
              rw [hp_p29_9, hp_f29_4, hp_a34, nI_clamp (by omega), ms_ne (c := 15) (c' := 4) (by decide)]
              rw [q4]
              refine ⟨vp_in_nI (by omega) (by omega), br_n1 (by decide) (br_n2 rfl ?_)⟩
              rw [hp_v29, (M_sizeOf_4 (d := d + 3) hk0 hn.1 ms_150 (by decide) hm0).iffi, hp_v29, S_m_well.iffi]
              exact ⟨rfl, rfl⟩
          · refine TE.mk0 (r := nI n) (E_x_ask ?_) (E_m_ask ?_) (h.trc (t0.go 22) (by decide) 0)
            · rw [S_x_isPlace.iffi]
              refine br_f (bI_t hv) (br_f (by rw [i32_lt]; omega) (br_t (by rw [i32_le]; omega) ?_))
              rw [hp_f0_2, hp_v3, S_tr_empty.iffv, hp_f0_1]
              refine ra_s hp10 q1 (br_n1 (by decide) ?_)
              rw [hp_f0_2, vc_of (k := 18) (hr _).1 rfl, (C_k_askMark (d := d + 4) ms_10 (by decide) hr).iffi, hp_v0, S_x_settled.iffi]
              exact ⟨rfl, rfl⟩
            · rw [S_m_isPlace.iffi]
              refine br_f (bI_t hv) ?_
              rw [S_m_in.iffi, i64_of]
              refine br_n1 (bI_t hw) ?_
              rw [hp_p29_9, hp_f29_4, hp_a34, nI_clamp (by omega), ms_ne (c := 15) (c' := 4) (by decide)]
              rw [q4]
              refine ⟨vp_in_nI (by omega) (by omega), br_n1 (by decide) (br_n1 (by decide) ?_)⟩
              rw [hp_v29, (M_mark_3 (d := d + 2) (K := 4) (by decide) (by decide) hk0 ms_150 (by decide) hm0).iffi, hp_v29, S_m_well.iffi]
              exact ⟨rfl, rfl⟩
    · refine TE.mk0 (r := -1000001) (E_x_ask ?_) (E_m_ask ?_) h
      · rw [S_x_isPlace.iffi]
        refine br_f (bI_t hv) ?_
        by_cases hw0 : w.toInt < 0
        · exact br_t (by rw [i32_lt]; omega) ⟨rfl, rfl⟩
        · exact br_f (by rw [i32_lt]; omega) (br_f (by rw [i32_le]; omega) ⟨rfl, rfl⟩)
      · rw [S_m_isPlace.iffi]
        refine br_f (bI_t hv) ?_
        rw [S_m_in.iffi, i64_of]
        exact br_n2 (bI_f hw) ⟨rfl, rfl⟩
  · refine TE.mk0 (r := -1000001) (E_x_ask ?_) (E_m_ask ?_) h
    · rw [S_x_isPlace.iffi]
      exact br_t (bI_f hv) ⟨rfl, rfl⟩
    · rw [S_m_isPlace.iffi]
      exact br_t (bI_f hv) ⟨rfl, rfl⟩
end ASK3
