/-! meeting -/
section MEET2
variable {X : lk_X} {d : Nat} {x : Nat → Nat → Int32} {S L : Nat → Option Nat} {m : Nat → Nat → Int32} {dyn : lk_H}
theorem max_lt {r s : Int32} {k : Int32} : k < (if r < s then s else r) ↔ (k.toInt < r.toInt ∨ k.toInt < s.toInt) := by
  split
  · rename_i q
    rw [i32_lt] at q ⊢
    omega
  · rename_i q
    rw [i32_lt] at q ⊢
    omega
theorem min_le {r s : Int32} {k : Int32} : k ≤ (if s < r then s else r) ↔ (k.toInt ≤ r.toInt ∧ k.toInt ≤ s.toInt) := by
  split
  · rename_i q
    rw [i32_lt] at q
    rw [i32_le]
    omega
  · rename_i q
    rw [i32_lt] at q
    rw [i32_le]
    omega
theorem T_meeting (h : Rel x S L m dyn) (a b r s : Int32) : TE X (d + 5) 86 159 [.int a, .int b, .int r, .int s] x S L m dyn := by
  have e20 : (20 : Int32).toInt = 20 := rfl
  have em20 : (-20 : Int32).toInt = -20 := rfl
  by_cases ha : 0 ≤ a.toInt ∧ a.toInt ≤ 9
  · by_cases hb : 0 ≤ b.toInt ∧ b.toInt ≤ 9
    · by_cases hr : -20 ≤ r.toInt ∧ r.toInt ≤ 20
      · by_cases hs : -20 ≤ s.toInt ∧ s.toInt ≤ 20
        · obtain ⟨p, rfl, hp1, -⟩ := i32_nat ha.1
          obtain ⟨q, rfl, hq1, -⟩ := i32_nat hb.1
          have hp10 : p < 10 := by omega
          have hq10 : q < 10 := by omega
          rcases h.ord hp10 with ⟨f, hf, o1, o2, o3⟩ | ⟨a1, c1, b1, n1, g1, s1, t1, or1, m1, o1, o3⟩
          · refine TE.mk0 (r := -1000010 - f) (E_x_meeting ?_) (E_m_meeting ?_) (h.st f)
            · rw [S_x_isPlace.iffi]
              refine br_f (bI_t ha) ?_
              rw [S_x_isPlace.iffi]
              refine br_f (bI_t hb) ?_
              rw [max_lt, min_le]
              refine br_f (by omega) (br_t (by omega) ?_)
              rw [hp_v0, (o1 X (d + 3)).iffn, hp_v0, (o2 X (d + 3)).iffi, hp_v0, S_x_found.iffi]
              exact ⟨rfl, rfl⟩
            · rw [S_m_isPlace.iffi]
              refine br_f (bI_t ha) ?_
              rw [S_m_isPlace.iffi]
              refine br_f (bI_t hb) ?_
              rw [S_m_isMove.iffi]
              refine br_f (bI_t hr) ?_
              rw [S_m_isMove.iffi]
              refine br_n1 (bI_t hs) ?_
              rw [hp_v29, (o3 X (d + 2) _ _ _ _ m rfl).iffi]
              rcases hf with rfl | rfl
              · exact br_n1 (by decide) (br_f (by decide) ⟨rfl, rfl⟩)
              · exact br_n1 (by decide) (br_f (by decide) ⟨rfl, rfl⟩)
          · rcases h.ord hq10 with ⟨f, hf, o4, o5, o6⟩ | ⟨a2, c2, b2, n2, g2, s2, t2, or2, m2, o4, o6⟩
            · refine TE.mk0 (r := -1000010 - f) (E_x_meeting ?_) (E_m_meeting ?_) (h.st f)
              · rw [S_x_isPlace.iffi]
                refine br_f (bI_t ha) ?_
                rw [S_x_isPlace.iffi]
                refine br_f (bI_t hb) ?_
                rw [max_lt, min_le]
                refine br_f (by omega) (br_t (by omega) ?_)
                rw [hp_v0, (o1 X (d + 3)).iffr, hp_v0, (o4 X (d + 3)).iffn, hp_v0, (o5 X (d + 3)).iffi, hp_v0, S_x_found.iffi]
                exact ⟨rfl, rfl⟩
              · rw [S_m_isPlace.iffi]
                refine br_f (bI_t ha) ?_
                rw [S_m_isPlace.iffi]
                refine br_f (bI_t hb) ?_
                rw [S_m_isMove.iffi]
                refine br_f (bI_t hr) ?_
                rw [S_m_isMove.iffi]
                refine br_n1 (bI_t hs) ?_
                rw [hp_v29, (o3 X (d + 2) _ _ _ _ m rfl).iffi]
                refine br_n2 rfl ?_
                rw [hp_v29, (o6 X (d + 2) _ _ _ _ m rfl).iffi]
                rcases hf with rfl | rfl
                · exact br_f (by decide) ⟨rfl, rfl⟩
                · exact br_f (by decide) ⟨rfl, rfl⟩
            · have t1' := t1 x S L m []
              have t2' := t2 x S L m []
              rw [List.append_nil] at t1' t2'
              refine TE.mk0 (r := nI (Mt n1 n2 g1 g2 r.toInt s.toInt)) (E_x_meeting ?_) (E_m_meeting ?_) (h.st 0)
              · rw [S_x_isPlace.iffi]
                refine br_f (bI_t ha) ?_
                rw [S_x_isPlace.iffi]
                refine br_f (bI_t hb) ?_
                rw [max_lt, min_le]
                refine br_f (by omega) (br_t (by omega) ?_)
                rw [hp_v0, (o1 X (d + 3)).iffr, hp_v0, (o4 X (d + 3)).iffr, t1'.fR has5, t2'.fR has5, (S_mv_meetingDots t1'.2.2 t2'.2.2 hr hs).iffi, hp_v0, S_x_settled.iffi]
                exact ⟨rfl, rfl⟩
              · rw [S_m_isPlace.iffi]
                refine br_f (bI_t ha) ?_
                rw [S_m_isPlace.iffi]
                refine br_f (bI_t hb) ?_
                rw [S_m_isMove.iffi]
                refine br_f (bI_t hr) ?_
                rw [S_m_isMove.iffi]
                refine br_n1 (bI_t hs) ?_
                rw [hp_v29, (o3 X (d + 2) _ _ _ _ m rfl).iffi]
                refine br_n2 rfl ?_
                rw [hp_v29, (o6 X (d + 2) _ _ _ _ m rfl).iffi]
                refine br_t rfl ?_
                rw [hp_v29, (S_m_meet m1 m2 hr hs).iffi, hp_v29, S_m_well.iffi]
                exact ⟨rfl, rfl⟩
        · refine TE.mk0 (r := -1000001) (E_x_meeting ?_) (E_m_meeting ?_) h
          · rw [S_x_isPlace.iffi]
            refine br_f (bI_t ha) ?_
            rw [S_x_isPlace.iffi]
            refine br_f (bI_t hb) ?_
            rw [max_lt, min_le]
            by_cases h1 : 20 < s.toInt
            · exact br_t (by omega) ⟨rfl, rfl⟩
            · exact br_f (by omega) (br_f (by omega) ⟨rfl, rfl⟩)
          · rw [S_m_isPlace.iffi]
            refine br_f (bI_t ha) ?_
            rw [S_m_isPlace.iffi]
            refine br_f (bI_t hb) ?_
            rw [S_m_isMove.iffi]
            refine br_f (bI_t hr) ?_
            rw [S_m_isMove.iffi]
            exact br_n2 (bI_f hs) ⟨rfl, rfl⟩
      · refine TE.mk0 (r := -1000001) (E_x_meeting ?_) (E_m_meeting ?_) h
        · rw [S_x_isPlace.iffi]
          refine br_f (bI_t ha) ?_
          rw [S_x_isPlace.iffi]
          refine br_f (bI_t hb) ?_
          rw [max_lt, min_le]
          by_cases h1 : 20 < r.toInt ∨ 20 < s.toInt
          · exact br_t (by omega) ⟨rfl, rfl⟩
          · exact br_f (by omega) (br_f (by omega) ⟨rfl, rfl⟩)
        · rw [S_m_isPlace.iffi]
          refine br_f (bI_t ha) ?_
          rw [S_m_isPlace.iffi]
          refine br_f (bI_t hb) ?_
          rw [S_m_isMove.iffi]
          exact br_t (bI_f hr) ⟨rfl, rfl⟩
    · refine TE.mk0 (r := -1000001) (E_x_meeting ?_) (E_m_meeting ?_) h
      · rw [S_x_isPlace.iffi]
        refine br_f (bI_t ha) ?_
        rw [S_x_isPlace.iffi]
        exact br_t (bI_f hb) ⟨rfl, rfl⟩
      · rw [S_m_isPlace.iffi]
        refine br_f (bI_t ha) ?_
        rw [S_m_isPlace.iffi]
        exact br_t (bI_f hb) ⟨rfl, rfl⟩
  · refine TE.mk0 (r := -1000001) (E_x_meeting ?_) (E_m_meeting ?_) h
    · rw [S_x_isPlace.iffi]
      exact br_t (bI_f ha) ⟨rfl, rfl⟩
    · rw [S_m_isPlace.iffi]
      exact br_t (bI_f ha) ⟨rfl, rfl⟩
end MEET2
