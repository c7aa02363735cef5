/-! is, as, at, alike, trace -/
section ASK2
variable {X : lk_X} {d : Nat} {x : Nat → Nat → Int32} {S L : Nat → Option Nat} {m : Nat → Nat → Int32} {dyn : lk_H}
theorem S_m_refusal0 {p : Nat} {v : Int32} (hp10 : p < 10) (hm : m 4 p = 0) : lk_ev X (d + 2) 136 [.ref 29, .int (nI p), .int v] (hp x S L m dyn) (some (.int (-1000010 - 1))) (hp x S L (ms m 14 0 1) dyn) := by
  refine E_m_refusal ?_
  rw [hp_f29_4, hp_a34, nI_clamp (by omega), hm]
  refine ⟨vp_in_nI (by omega) (by omega), br_n2 rfl ?_⟩
  rw [hp_v29, S_m_finds.iffi]
  exact ⟨rfl, rfl⟩
theorem S_m_refusal1 {p c k : Nat} (hp10 : p < 10) (hc : isC c) (hk : k < 6) (hm : m 4 p = nI (kc c)) (ho : ok5 c k = true) : lk_ev X (d + 2) 136 [.ref 29, .int (nI p), .int (nI k)] (hp x S L m dyn) (some (.int 0)) (hp x S L m dyn) := by
  have hkc := kc_pos (c := c)
  refine E_m_refusal ?_
  rw [hp_f29_4, hp_a34, nI_clamp (by omega), hm]
  refine ⟨vp_in_nI (by omega) (by omega), br_n1 (nI_ne0 (by omega) (by omega)) ?_⟩
  rw [hp_f29_4, hp_a34, nI_clamp (by omega), hm]
  refine ⟨vp_in_nI (by omega) (by omega), ?_⟩
  rw [(S_m_isOf hc hk).iffi]
  exact br_f (bI_t ho) ⟨rfl, rfl⟩
theorem S_m_refusal3 {p c k : Nat} (hp10 : p < 10) (hc : isC c) (hk : k < 6) (hm : m 4 p = nI (kc c)) (ho : ¬ ok5 c k = true) : lk_ev X (d + 2) 136 [.ref 29, .int (nI p), .int (nI k)] (hp x S L m dyn) (some (.int (-1000010 - 3))) (hp x S L (ms m 14 0 3) dyn) := by
  have hkc := kc_pos (c := c)
  refine E_m_refusal ?_
  rw [hp_f29_4, hp_a34, nI_clamp (by omega), hm]
  refine ⟨vp_in_nI (by omega) (by omega), br_n1 (nI_ne0 (by omega) (by omega)) ?_⟩
  rw [hp_f29_4, hp_a34, nI_clamp (by omega), hm]
  refine ⟨vp_in_nI (by omega) (by omega), ?_⟩
  rw [(S_m_isOf hc hk).iffi]
  refine br_t (bI_f ho) ?_
  rw [hp_v29, S_m_finds.iffi]
  exact ⟨rfl, rfl⟩
theorem T_is (h : Rel x S L m dyn) (v w : Int32) : TE X (d + 6) 80 147 [.int v, .int w] x S L m dyn := by
  have e0 : (0 : Int32).toInt = 0 := rfl
  have eT : (6 : Int32).toInt = 6 := rfl
  by_cases hv : 0 ≤ v.toInt ∧ v.toInt ≤ 9
  · by_cases hw : 0 ≤ w.toInt ∧ w.toInt ≤ 5
    · obtain ⟨p, rfl, hp1, -⟩ := i32_nat hv.1
      obtain ⟨k, rfl, hk1, -⟩ := i32_nat hw.1
      have hp10 : p < 10 := by omega
      have hkT : k < 6 := by omega
      have hw' := hw
      rw [i32_nI (by omega)] at hw'
      rcases h.2.2.1.get hp10 with ⟨q1, q2⟩ | ⟨a, c, b, n, g, q1, q2, q3, q4, q5⟩
      · refine TE.mk0 (r := 0) (E_x_is ?_) (E_m_is ?_) h
        · rw [S_x_isPlace.iffi]
          refine br_f (bI_t hv) (br_f (by rw [i32_lt]; omega) (br_t (by rw [i32_lt]; omega) ?_))
          rw [hp_f0_1]
          refine ra_n rfl hp10 q1 ?_
          rw [S_x_isOfKind_n.iffi]
          exact br_t rfl ⟨rfl, rfl⟩
        · rw [S_m_isPlace.iffi]
          refine br_f (bI_t hv) ?_
          rw [S_m_in.iffi, i64_of]
          refine br_n1 (bI_t hw) ?_
          rw [hp_f29_4, hp_a34, nI_clamp (by omega), q2]
          exact ⟨vp_in_nI (by omega) (by omega), br_t (by decide) ⟨rfl, rfl⟩⟩
      · have hk := kc_pos (c := c)
        have q2' := q2 x S L m []
        rw [List.append_nil] at q2'
        by_cases ho : ok5 c k = true
        · refine TE.mk0 (r := 1) (E_x_is ?_) (E_m_is ?_) h
          · rw [S_x_isPlace.iffi]
            refine br_f (bI_t hv) (br_f (by rw [i32_lt]; omega) (br_t (by rw [i32_lt]; omega) ?_))
            rw [hp_f0_1]
            refine ra_s hp10 q1 ?_
            rw [(S_x_isOfKind q2' hkT).iffi]
            exact br_f (bI_t ho) ⟨rfl, rfl⟩
          · rw [S_m_isPlace.iffi]
            refine br_f (bI_t hv) ?_
            rw [S_m_in.iffi, i64_of]
            refine br_n1 (bI_t hw) ?_
            rw [hp_f29_4, hp_a34, nI_clamp (by omega), q4]
            refine ⟨vp_in_nI (by omega) (by omega), br_f (nI_ge (a := 0) (by omega) (by omega)) ?_⟩
            rw [hp_f29_4, hp_a34, nI_clamp (by omega), q4]
            refine ⟨vp_in_nI (by omega) (by omega), ?_⟩
            rw [(S_m_isOf q3.isC hkT).iffi]
            exact br_f (bI_t ho) ⟨rfl, rfl⟩
        · refine TE.mk0 (r := 0) (E_x_is ?_) (E_m_is ?_) h
          · rw [S_x_isPlace.iffi]
            refine br_f (bI_t hv) (br_f (by rw [i32_lt]; omega) (br_t (by rw [i32_lt]; omega) ?_))
            rw [hp_f0_1]
            refine ra_s hp10 q1 ?_
            rw [(S_x_isOfKind q2' hkT).iffi]
            exact br_t (bI_f ho) ⟨rfl, rfl⟩
          · rw [S_m_isPlace.iffi]
            refine br_f (bI_t hv) ?_
            rw [S_m_in.iffi, i64_of]
            refine br_n1 (bI_t hw) ?_
            rw [hp_f29_4, hp_a34, nI_clamp (by omega), q4]
            refine ⟨vp_in_nI (by omega) (by omega), br_f (nI_ge (a := 0) (by omega) (by omega)) ?_⟩
            rw [hp_f29_4, hp_a34, nI_clamp (by omega), q4]
            refine ⟨vp_in_nI (by omega) (by omega), ?_⟩
            rw [(S_m_isOf q3.isC hkT).iffi]
            exact br_t (bI_f ho) ⟨rfl, rfl⟩
    · refine TE.mk0 (r := -1000001) (E_x_is ?_) (E_m_is ?_) h
      · rw [S_x_isPlace.iffi]
        refine br_f (bI_t hv) ?_
        by_cases hw0 : w.toInt < 0
        · exact br_t (by rw [i32_lt]; omega) ⟨rfl, rfl⟩
        · exact br_f (by rw [i32_lt]; omega) (br_f (by rw [i32_lt]; omega) ⟨rfl, rfl⟩)
      · rw [S_m_isPlace.iffi]
        refine br_f (bI_t hv) ?_
        rw [S_m_in.iffi, i64_of]
        exact br_n2 (bI_f hw) ⟨rfl, rfl⟩
  · refine TE.mk0 (r := -1000001) (E_x_is ?_) (E_m_is ?_) h
    · rw [S_x_isPlace.iffi]
      exact br_t (bI_f hv) ⟨rfl, rfl⟩
    · rw [S_m_isPlace.iffi]
      exact br_t (bI_f hv) ⟨rfl, rfl⟩
theorem T_as (h : Rel x S L m dyn) (v w : Int32) : TE X (d + 6) 81 148 [.int v, .int w] x S L m dyn := by
  have e0 : (0 : Int32).toInt = 0 := rfl
  have eT : (6 : Int32).toInt = 6 := rfl
  by_cases hv : 0 ≤ v.toInt ∧ v.toInt ≤ 9
  · by_cases hw : 0 ≤ w.toInt ∧ w.toInt ≤ 5
    · obtain ⟨p, rfl, hp1, -⟩ := i32_nat hv.1
      obtain ⟨k, rfl, hk1, -⟩ := i32_nat hw.1
      have hp10 : p < 10 := by omega
      have hkT : k < 6 := by omega
      have hw' := hw
      rw [i32_nI (by omega)] at hw'
      rcases h.2.2.1.get hp10 with ⟨q1, q2⟩ | ⟨a, c, b, n, g, q1, q2, q3, q4, q5⟩
      · refine TE.mk0 (r := -1000010 - 1) (E_x_as ?_) (E_m_as ?_) (h.st 1)
        · rw [S_x_isPlace.iffi]
          refine br_f (bI_t hv) (br_f (by rw [i32_lt]; omega) (br_t (by rw [i32_lt]; omega) ?_))
          rw [hp_f0_1]
          refine ra_n rfl hp10 q1 ?_
          rw [hp_v0, S_x_found.iffi]
          exact ⟨rfl, rfl⟩
        · rw [S_m_isPlace.iffi]
          refine br_f (bI_t hv) ?_
          rw [S_m_in.iffi, i64_of]
          refine br_n1 (bI_t hw) ?_
          rw [hp_v29, (S_m_refusal0 hp10 q2).iffi]
          exact br_f (by decide) ⟨rfl, rfl⟩
      · have hk := kc_pos (c := c)
        have hn := q3.n16
        have q2' := q2 x S L m []
        rw [List.append_nil] at q2'
        by_cases ho : ok5 c k = true
        · refine TE.mk0 (r := nI n) (E_x_as ?_) (E_m_as ?_) (h.st 0)
          · rw [S_x_isPlace.iffi]
            refine br_f (bI_t hv) (br_f (by rw [i32_lt]; omega) (br_t (by rw [i32_lt]; omega) ?_))
            rw [hp_f0_1]
            refine ra_s hp10 q1 ?_
            rw [(S_x_isOfKind q2' hkT).iffi]
            refine br_f (bI_t ho) ?_
            rw [q2'.fR has0, q2'.2.2.al]
            rw [hp_v0, S_x_settled.iffi]
            exact ⟨rfl, rfl⟩
          · rw [S_m_isPlace.iffi]
            refine br_f (bI_t hv) ?_
            rw [S_m_in.iffi, i64_of]
            refine br_n1 (bI_t hw) ?_
            rw [hp_v29, (S_m_refusal1 hp10 q3.isC hkT q4 ho).iffi]
            refine br_t rfl ?_
            rw [hp_f29_5, hp_a35, nI_clamp (by omega), q5.2.2.1]
            refine ⟨vp_in_nI (by omega) (by omega), ?_⟩
            rw [hp_v29, S_m_well.iffi]
            exact ⟨rfl, rfl⟩
        · refine TE.mk0 (r := -1000010 - 3) (E_x_as ?_) (E_m_as ?_) (h.st 3)
          · rw [S_x_isPlace.iffi]
            refine br_f (bI_t hv) (br_f (by rw [i32_lt]; omega) (br_t (by rw [i32_lt]; omega) ?_))
            rw [hp_f0_1]
            refine ra_s hp10 q1 ?_
            rw [(S_x_isOfKind q2' hkT).iffi]
            refine br_t (bI_f ho) ?_
            rw [hp_v0, S_x_found.iffi]
            exact ⟨rfl, rfl⟩
          · rw [S_m_isPlace.iffi]
            refine br_f (bI_t hv) ?_
            rw [S_m_in.iffi, i64_of]
            refine br_n1 (bI_t hw) ?_
            rw [hp_v29, (S_m_refusal3 hp10 q3.isC hkT q4 ho).iffi]
            exact br_f (by decide) ⟨rfl, rfl⟩
    · refine TE.mk0 (r := -1000001) (E_x_as ?_) (E_m_as ?_) h
      · rw [S_x_isPlace.iffi]
        refine br_f (bI_t hv) ?_
        by_cases hw0 : w.toInt < 0
        · exact br_t (by rw [i32_lt]; omega) ⟨rfl, rfl⟩
        · exact br_f (by rw [i32_lt]; omega) (br_f (by rw [i32_lt]; omega) ⟨rfl, rfl⟩)
      · rw [S_m_isPlace.iffi]
        refine br_f (bI_t hv) ?_
        rw [S_m_in.iffi, i64_of]
        exact br_n2 (bI_f hw) ⟨rfl, rfl⟩
  · refine TE.mk0 (r := -1000001) (E_x_as ?_) (E_m_as ?_) h
    · rw [S_x_isPlace.iffi]
      exact br_t (bI_f hv) ⟨rfl, rfl⟩
    · rw [S_m_isPlace.iffi]
      exact br_t (bI_f hv) ⟨rfl, rfl⟩
theorem fA_at {v : Option (Nat × Nat × Nat × Nat)} {w : Nat} (hw : w < 4) : fA m v 8 w = pick w v := by
  match v with
  | none =>
    simp only [fA, pick]
    match w, hw with
    | 0, _ => rfl
    | 1, _ => rfl
    | 2, _ => rfl
    | 3, _ => rfl
  | some (a, b, c, e) =>
    simp only [fA, pick]
    match w, hw with
    | 0, _ => rfl
    | 1, _ => rfl
    | 2, _ => rfl
    | 3, _ => rfl
theorem Rel.fAA (h : Rel x S L m dyn) (v : Option (Nat × Nat × Nat × Nat)) : Rel x S L (fA m v) dyn := SC.rel h ⟨fun p _ => ⟨by rw [fA_ne (by decide)], by rw [fA_ne (by decide)]⟩, fun q _ => by rw [fA_ne (by decide)], fun c h4 h5 h6 h8 h9 => fA_ne h8⟩
theorem T_alike (h : Rel x S L m dyn) (v w : Int32) : TE X (d + 6) 85 156 [.int v, .int w] x S L m dyn := by
  have e0 : (0 : Int32).toInt = 0 := rfl
  have eT : (3 : Int32).toInt = 3 := rfl
  by_cases hv : 0 ≤ v.toInt ∧ v.toInt ≤ 9
  · by_cases hw : 0 ≤ w.toInt ∧ w.toInt ≤ 3
    · obtain ⟨p, rfl, hp1, -⟩ := i32_nat hv.1
      obtain ⟨k, rfl, hk1, -⟩ := i32_nat hw.1
      have hp10 : p < 10 := by omega
      have hkT : k < 4 := by omega
      have hw' := hw
      rw [i32_nI (by omega)] at hw'
      rcases h.2.2.1.get hp10 with ⟨q1, q2⟩ | ⟨a, c, b, n, g, q1, q2, q3, q4, q5⟩
      · refine TE.mk0 (r := -1000010 - 1) (E_x_alike ?_) (E_m_alike ?_) (h.st 1)
        · rw [S_x_isPlace.iffi]
          refine br_f (bI_t hv) (br_f (by rw [i32_lt]; omega) (br_t (by rw [i32_le]; omega) ?_))
          rw [hp_f0_1]
          refine ra_n rfl hp10 q1 ?_
          rw [hp_v0, S_x_found.iffi]
          exact ⟨rfl, rfl⟩
        · rw [S_m_isPlace.iffi]
          refine br_f (bI_t hv) ?_
          rw [S_m_in.iffi, i64_of]
          refine br_n1 (bI_t hw) ?_
          rw [hp_f29_4, hp_a34, nI_clamp (by omega), q2]
          refine ⟨vp_in_nI (by omega) (by omega), br_n2 rfl ?_⟩
          rw [hp_v29, S_m_finds.iffi]
          exact ⟨rfl, rfl⟩
      · have hk := kc_pos (c := c)
        have q2' := q2 x S L m []
        rw [List.append_nil] at q2'
        refine TE.mk0 (r := pick k (alk (oc c) n g)) (E_x_alike ?_) (E_m_alike ?_) ((h.fAA (alk (oc c) n g)).st 0)
        · rw [S_x_isPlace.iffi]
          refine br_f (bI_t hv) (br_f (by rw [i32_lt]; omega) (br_t (by rw [i32_le]; omega) ?_))
          rw [hp_f0_1]
          refine ra_s hp10 q1 ?_
          rw [is5_59 q2', (S_t_partOfAlike (d := d + 2) q2' q3.rise hkT).iffi, ← q3.alk]
          rw [hp_v0, S_x_settled.iffi]
          exact ⟨rfl, rfl⟩
        · rw [S_m_isPlace.iffi]
          refine br_f (bI_t hv) ?_
          rw [S_m_in.iffi, i64_of]
          refine br_n1 (bI_t hw) ?_
          rw [hp_f29_4, hp_a34, nI_clamp (by omega), q4]
          refine ⟨vp_in_nI (by omega) (by omega), br_n1 (nI_ne0 (by omega) (by omega)) ?_⟩
          rw [hp_f29_4, hp_a34, nI_clamp (by omega), q4]
          refine ⟨vp_in_nI (by omega) (by omega), ?_⟩
          cases hoc : oc c with
          | false =>
            have h3 : 3 ≤ kc c := by
              rcases q3.isC with rfl | rfl | rfl | rfl | rfl <;> first | exact absurd hoc (by decide) | decide
            refine br_t (nI_le (a := 3) h3 (by omega)) ?_
            rw [hp_v29, show (Value.int 0) = Value.int (oI false) from rfl, (S_m_findAlike (d := d + 2) q5).iffi, hp_f29_10, hp_a38, nI_clamp (by omega), fA_at hkT]
            refine ⟨vp_in_nI hkT (by omega), ?_⟩
            rw [hp_v29, S_m_well.iffi]
            exact ⟨rfl, rfl⟩
          | true =>
            have h3 : kc c < 3 := by
              rcases q3.isC with rfl | rfl | rfl | rfl | rfl <;> first | exact absurd hoc (by decide) | decide
            refine br_f (nI_ge (b := 3) h3 (by omega)) ?_
            rw [hp_v29, show (Value.int 1) = Value.int (oI true) from rfl, (S_m_findAlike (d := d + 2) q5).iffi, hp_f29_10, hp_a38, nI_clamp (by omega), fA_at hkT]
            refine ⟨vp_in_nI hkT (by omega), ?_⟩
            rw [hp_v29, S_m_well.iffi]
            exact ⟨rfl, rfl⟩
    · refine TE.mk0 (r := -1000001) (E_x_alike ?_) (E_m_alike ?_) h
      · rw [S_x_isPlace.iffi]
        refine br_f (bI_t hv) ?_
        by_cases hw0 : w.toInt < 0
        · exact br_t (by rw [i32_lt]; omega) ⟨rfl, rfl⟩
        · exact br_f (by rw [i32_lt]; omega) (br_f (by rw [i32_le]; omega) ⟨rfl, rfl⟩)
      · rw [S_m_isPlace.iffi]
        refine br_f (bI_t hv) ?_
        rw [S_m_in.iffi, i64_of]
        exact br_n2 (bI_f hw) ⟨rfl, rfl⟩
  · refine TE.mk0 (r := -1000001) (E_x_alike ?_) (E_m_alike ?_) h
    · rw [S_x_isPlace.iffi]
      exact br_t (bI_f hv) ⟨rfl, rfl⟩
    · rw [S_m_isPlace.iffi]
      exact br_t (bI_f hv) ⟨rfl, rfl⟩
theorem T_at (h : Rel x S L m dyn) (v w : Int32) : TE X (d + 6) 84 155 [.int v, .int w] x S L m dyn := by
  have e0 : (0 : Int32).toInt = 0 := rfl
  have e00 : (0 : Int64).toInt = 0 := rfl
  by_cases hv : 0 ≤ v.toInt ∧ v.toInt ≤ 9
  · obtain ⟨p, rfl, hp1, -⟩ := i32_nat hv.1
    have hp10 : p < 10 := by omega
    rcases h.2.2.1.get hp10 with ⟨q1, q2⟩ | ⟨a, c, b, n, g, q1, q2, q3, q4, q5⟩
    · refine TE.mk0 (r := -1000010 - 1) (E_x_at ?_) (E_m_at ?_) (h.st 1)
      · rw [S_x_isPlace.iffi]
        refine br_n1 (bI_t hv) ?_
        rw [hp_f0_1]
        refine ra_n rfl hp10 q1 ?_
        rw [hp_v0, S_x_found.iffi]
        exact ⟨rfl, rfl⟩
      · rw [S_m_isPlace.iffi]
        refine br_n1 (bI_t hv) ?_
        rw [hp_f29_4, hp_a34, nI_clamp (by omega), q2]
        refine ⟨vp_in_nI (by omega) (by omega), br_n2 rfl ?_⟩
        rw [hp_v29, S_m_finds.iffi]
        exact ⟨rfl, rfl⟩
    · have hk := kc_pos (c := c)
      have hn := q3.n16
      have q2' := q2 x S L m []
      rw [List.append_nil] at q2'
      have en : (nI n - 1).toInt = (n : Int) - 1 := pk_sub_toInt (a := n) (b := 1) (by omega) (by omega)
      by_cases hw : 0 ≤ w.toInt ∧ w.toInt < n
      · obtain ⟨k, rfl, hk1, -⟩ := i32_nat hw.1
        have hkn : k < n := by omega
        refine TE.mk0 (r := nI (g k)) (E_x_at ?_) (E_m_at ?_) (h.st 0)
        · rw [S_x_isPlace.iffi]
          refine br_n1 (bI_t hv) ?_
          rw [hp_f0_1]
          refine ra_s hp10 q1 (br_f (by rw [i32_lt]; omega) ?_)
          rw [q2'.fR has0, q2'.2.2.al]
          refine br_t (nI_lt hkn (by omega)) ?_
          rw [q2'.fR has0, q2'.2.2.ai hkn]
          rw [hp_v0, S_x_settled.iffi]
          exact ⟨rfl, rfl⟩
        · rw [S_m_isPlace.iffi]
          refine br_n1 (bI_t hv) ?_
          rw [hp_f29_4, hp_a34, nI_clamp (by omega), q4]
          refine ⟨vp_in_nI (by omega) (by omega), br_n1 (nI_ne0 (by omega) (by omega)) ?_⟩
          rw [hp_f29_5, hp_a35, nI_clamp (by omega), q5.2.2.1]
          refine ⟨vp_in_nI (by omega) (by omega), ?_⟩
          rw [S_m_in.iffi, i64_of, i64_of, en]
          refine br_f (bI_t (by rw [e00]; omega)) ?_
          rw [hp_v29, (S_m_at1 q5 hkn).iffi]
          rw [hp_v29, S_m_well.iffi]
          exact ⟨rfl, rfl⟩
      · refine TE.mk0 (r := -1000001) (E_x_at ?_) (E_m_at ?_) h
        · rw [S_x_isPlace.iffi]
          refine br_n1 (bI_t hv) ?_
          rw [hp_f0_1]
          refine ra_s hp10 q1 ?_
          by_cases hw0 : w.toInt < 0
          · exact br_t (by rw [i32_lt]; omega) ⟨rfl, rfl⟩
          · refine br_f (by rw [i32_lt]; omega) ?_
            rw [q2'.fR has0, q2'.2.2.al]
            exact br_f (by rw [i32_lt, i32_nI (by omega)]; omega) ⟨rfl, rfl⟩
        · rw [S_m_isPlace.iffi]
          refine br_n1 (bI_t hv) ?_
          rw [hp_f29_4, hp_a34, nI_clamp (by omega), q4]
          refine ⟨vp_in_nI (by omega) (by omega), br_n1 (nI_ne0 (by omega) (by omega)) ?_⟩
          rw [hp_f29_5, hp_a35, nI_clamp (by omega), q5.2.2.1]
          refine ⟨vp_in_nI (by omega) (by omega), ?_⟩
          rw [S_m_in.iffi, i64_of, i64_of, en]
          exact br_t (bI_f (by rw [e00]; omega)) ⟨rfl, rfl⟩
  · refine TE.mk0 (r := -1000001) (E_x_at ?_) (E_m_at ?_) h
    · rw [S_x_isPlace.iffi]
      exact br_n2 (bI_f hv) ⟨rfl, rfl⟩
    · rw [S_m_isPlace.iffi]
      exact br_n2 (bI_f hv) ⟨rfl, rfl⟩
end ASK2
