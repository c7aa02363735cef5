/-! drop, set, copy -/
theorem i64_add (a b : Int32) : (a.toInt64 + b.toInt64).toInt = a.toInt + b.toInt := by
  have h1 := Int32.le_toInt a
  have h2 := Int32.toInt_lt a
  have h3 := Int32.le_toInt b
  have h4 := Int32.toInt_lt b
  rw [Int64.toInt_add, i64_of, i64_of]
  apply Int.bmod_eq_of_le <;> omega
section SHEETS2
variable {X : lk_X} {d : Nat} {x : Nat → Nat → Int32} {S L : Nat → Option Nat} {m : Nat → Nat → Int32} {dyn : lk_H}
theorem KS.rf (hT : x 0 0 = m 14 0) : KS x x m m := ⟨fun _ _ _ => rfl, fun _ _ _ => rfl, hT⟩
theorem RS.st (hR : RS x m) (v : Int32) : RS (ms x 0 0 v) (ms m 14 0 v) := hR.congr (fun c hc => ms_ne (by omega)) (ms_ne (by decide)) (ms_ne (by decide)) (ms_ne (by decide))
theorem T_drop (hR : RS x m) (hT : x 0 0 = m 14 0) (s : Int32) : ∃ r x' m', TI X (d + 4) 69 119 [.int s] x S L m dyn r x' m' ∧ RS x' m' ∧ KS x x' m m' := by
  by_cases hs : 0 ≤ s.toInt ∧ s.toInt ≤ 7
  · obtain ⟨k, rfl, hk, -⟩ := i32_nat hs.1
    have hk8 : k < 8 := by omega
    rcases hR k hk8 with ⟨h1, h2⟩ | ⟨h1, la, n, hla, hn, q3, q4, q5, q6, q7⟩
    · refine ⟨-1000010 - 1, ms x 0 0 1, ms m 14 0 1, ⟨E_x_drop ?_, E_m_drop ?_⟩, hR.st 1, KS.st 1⟩
      · rw [S_x_isSheet.iffi]
        refine br_n1 (bI_t hs) ?_
        rw [hp_f0_0, hp_ra1, nI_clamp (by omega)]
        refine ⟨vp_in_nI hk8 (by omega), ?_⟩
        rw [hp_sfI1 hk8, h1]
        refine br_f (by decide) ?_
        rw [hp_v0, S_x_found.iffi]
        exact ⟨rfl, rfl⟩
      · rw [S_m_isSheet.iffi]
        refine br_n1 (bI_t hs) ?_
        rw [hp_f29_0, hp_a30, nI_clamp (by omega), h2]
        refine ⟨vp_in_nI hk8 (by omega), br_n2 rfl ?_⟩
        rw [hp_v29, S_m_finds.iffi]
        exact ⟨rfl, rfl⟩
    · refine ⟨nI n, ms (ms x (20 + k) 0 1) 0 0 0, ms (ms m 0 k 0) 14 0 0, ⟨E_x_drop ?_, E_m_drop ?_⟩, ?_, ?_⟩
      · rw [S_x_isSheet.iffi]
        refine br_n1 (bI_t hs) ?_
        rw [hp_f0_0, hp_ra1, nI_clamp (by omega)]
        refine ⟨vp_in_nI hk8 (by omega), ?_⟩
        rw [hp_sfI1 hk8, h1]
        refine br_t rfl ?_
        rw [hp_spf1 hk8 (Or.inr rfl), hp_sfI3 hk8, hp_v0, S_x_settled.iffi, ms_ne (by omega), q5]
        exact ⟨rfl, rfl⟩
      · rw [S_m_isSheet.iffi]
        refine br_n1 (bI_t hs) ?_
        rw [hp_f29_0, hp_a30, nI_clamp (by omega), q4]
        refine ⟨vp_in_nI hk8 (by omega), br_n1 (nI_ne0 (by omega) (by omega)) ?_⟩
        rw [hp_f29_0, hp_w30, nI_clamp (by omega)]
        refine ⟨vp_in_nI hk8 (by omega), ?_⟩
        rw [hp_f29_1, hp_a31, nI_clamp (by omega)]
        refine ⟨vp_in_nI hk8 (by omega), ?_⟩
        rw [hp_v29, S_m_well.iffi, ms_ne (by omega), q6]
        exact ⟨rfl, rfl⟩
      · intro q hq
        by_cases hqk : q = k
        · subst hqk
          exact Or.inl ⟨by rw [ms_ne (by omega), ms_same, pk_us], by rw [ms_ne (by omega), ms_same, pk_us]⟩
        · have h0 := hR q hq
          rw [ms_ne (c := 0) (c' := 20 + q) (by omega), ms_ne (c := 0) (c' := 30 + q) (by omega), ms_ne (c := 0) (c' := 40 + q) (by omega), ms_ne (c := 0) (c' := 10 + q) (by omega), ms_ne (c' := 20 + q) (by omega), ms_ne (c' := 30 + q) (by omega), ms_ne (c' := 40 + q) (by omega), ms_ne (c' := 10 + q) (by omega), ms_ne (c := 14) (c' := 0) (by omega), ms_ne (c := 14) (c' := 1) (by omega), ms_ne (c := 14) (c' := 2) (by omega), ms_same, pk_un hqk, ms_ne (c' := 1) (by omega), ms_ne (c' := 2) (by omega)]
          exact h0
      · exact ⟨fun c h1 h2 => by rw [ms_ne h2, ms_ne (by omega)], fun c h1 h2 => by rw [ms_ne h2, ms_ne (by omega)], by rw [ms_same, ms_same, pk_us, pk_us]⟩
  · refine ⟨-1000001, x, m, ⟨E_x_drop ?_, E_m_drop ?_⟩, hR, KS.rf hT⟩
    · rw [S_x_isSheet.iffi]
      exact br_n2 (bI_f hs) ⟨rfl, rfl⟩
    · rw [S_m_isSheet.iffi]
      exact br_n2 (bI_f hs) ⟨rfl, rfl⟩
theorem T_set (hR : RS x m) (hT : x 0 0 = m 14 0) (s i v : Int32) : ∃ r x' m', TI X (d + 4) 67 117 [.int s, .int i, .int v] x S L m dyn r x' m' ∧ RS x' m' ∧ KS x x' m m' := by
  by_cases hs : 0 ≤ s.toInt ∧ s.toInt ≤ 7
  · obtain ⟨k, rfl, hk, -⟩ := i32_nat hs.1
    have hk8 : k < 8 := by omega
    rcases hR k hk8 with ⟨h1, h2⟩ | ⟨h1, la, n, hla, hn, q3, q4, q5, q6, q7⟩
    · refine ⟨-1000010 - 1, ms x 0 0 1, ms m 14 0 1, ⟨E_x_set ?_, E_m_set ?_⟩, hR.st 1, KS.st 1⟩
      · rw [S_x_isSheet.iffi]
        refine br_n1 (bI_t hs) ?_
        rw [hp_f0_0, hp_ra1, nI_clamp (by omega)]
        refine ⟨vp_in_nI hk8 (by omega), ?_⟩
        rw [hp_sfI1 hk8, h1]
        refine br_f (by decide) ?_
        rw [hp_v0, S_x_found.iffi]
        exact ⟨rfl, rfl⟩
      · rw [S_m_isSheet.iffi]
        refine br_n1 (bI_t hs) ?_
        rw [hp_f29_0, hp_a30, nI_clamp (by omega), h2]
        refine ⟨vp_in_nI hk8 (by omega), br_n2 rfl ?_⟩
        rw [hp_v29, S_m_finds.iffi]
        exact ⟨rfl, rfl⟩
    · have e1 : (1 : Int32).toInt = 1 := rfl
      have en : (nI n - 1).toInt = (n : Int) - 1 := pk_sub_toInt (a := n) (b := 1) (by omega) (by omega)
      have elane : ∀ c : Nat, c < 3 → (nI (la + 1) = nI c ↔ la + 1 = c) := fun c hc => nI_eq (by omega) (by omega)
      by_cases hi : 0 ≤ i.toInt ∧ i.toInt < n
      · obtain ⟨ii, rfl, hii, -⟩ := i32_nat hi.1
        obtain ⟨w, hw⟩ : ∃ w : Int32, w = (if la = 0 then v.toInt8.toInt32 else if la = 1 then v.toInt16.toInt32 else v) := ⟨_, rfl⟩
        refine ⟨w, ms (ms x (10 + k) ii w) 0 0 0, ms (ms m 2 (60 * k + ii) w) 14 0 0, ⟨E_x_set ?_, E_m_set ?_⟩, ?_, ?_⟩
        · rw [S_x_isSheet.iffi]
          refine br_n1 (bI_t hs) ?_
          rw [hp_f0_0, hp_ra1, nI_clamp (by omega)]
          refine ⟨vp_in_nI hk8 (by omega), ?_⟩
          rw [hp_sfI1 hk8, h1]
          refine br_t rfl ?_
          rw [hp_sv hk8, (S_s_holds hk8 hn q5).iffi]
          refine br_n1 (bI_t (by omega)) ?_
          rw [hp_sfR hk8, hp_sv hk8, (S_s_narrowed hk8 hla q3).iffi, hp_sas hk8, nI_clamp (by omega), ← hw]
          refine ⟨vp_in_nI (by omega) (by omega), ?_⟩
          rw [hp_sfR hk8, hp_sa hk8, nI_clamp (by omega), ms_same, pk_us, hp_v0, S_x_settled.iffi]
          exact ⟨vp_in_nI (by omega) (by omega), rfl, rfl⟩
        · have e60 : 60 * nI k + nI ii = nI (60 * k + ii) := by rw [show (60 : Int32) = nI 60 from rfl, pk_mul, nI_add]
          rw [S_m_isSheet.iffi]
          refine br_n1 (bI_t hs) ?_
          rw [hp_f29_0, hp_a30, nI_clamp (by omega), q4]
          refine ⟨vp_in_nI hk8 (by omega), br_n1 (nI_ne0 (by omega) (by omega)) ?_⟩
          rw [hp_f29_1, hp_a31, nI_clamp (by omega), q6]
          refine ⟨vp_in_nI hk8 (by omega), ?_⟩
          rw [S_m_in.iffi, i64_of, i64_of, en]
          refine br_n1 (bI_t ⟨hi.1, by omega⟩) ?_
          rw [hp_f29_0, hp_a30, nI_clamp (by omega), q4]
          refine ⟨vp_in_nI hk8 (by omega), ?_⟩
          match la, hla, hw, elane with
          | 0, _, hw, elane =>
            refine br_n2 rfl ?_
            rw [hp_f29_2, hp_w32, e60, nI_clamp (by omega)]
            refine ⟨vp_in_nI (by omega) (by omega), ?_⟩
            rw [hp_v29, S_m_well.iffi, hw]
            exact ⟨rfl, rfl⟩
          | 1, _, hw, elane =>
            refine br_n1 (by decide) ?_
            rw [hp_f29_0, hp_a30, nI_clamp (by omega), q4]
            refine ⟨vp_in_nI hk8 (by omega), br_n2 rfl ?_⟩
            rw [hp_f29_2, hp_w32, e60, nI_clamp (by omega)]
            refine ⟨vp_in_nI (by omega) (by omega), ?_⟩
            rw [hp_v29, S_m_well.iffi, hw]
            exact ⟨rfl, rfl⟩
          | 2, _, hw, elane =>
            refine br_n1 (by decide) ?_
            rw [hp_f29_0, hp_a30, nI_clamp (by omega), q4]
            refine ⟨vp_in_nI hk8 (by omega), br_n1 (by decide) ?_⟩
            rw [hp_f29_2, hp_w32, e60, nI_clamp (by omega)]
            refine ⟨vp_in_nI (by omega) (by omega), ?_⟩
            rw [hp_v29, S_m_well.iffi, hw]
            exact ⟨rfl, rfl⟩
        · intro q hq
          have h0 := hR q hq
          rw [ms_ne (c := 0) (c' := 20 + q) (by omega), ms_ne (c := 0) (c' := 30 + q) (by omega), ms_ne (c := 0) (c' := 40 + q) (by omega), ms_ne (c := 0) (c' := 10 + q) (by omega), ms_ne (c' := 20 + q) (by omega), ms_ne (c' := 30 + q) (by omega), ms_ne (c' := 40 + q) (by omega), ms_ne (c := 14) (c' := 0) (by omega), ms_ne (c := 14) (c' := 1) (by omega), ms_ne (c := 14) (c' := 2) (by omega), ms_same, ms_ne (c' := 0) (by omega), ms_ne (c' := 1) (by omega)]
          rcases h0 with h0 | ⟨a1, la2, n2, a2, a3, a4, a5, a6, a7, a8⟩
          · exact Or.inl h0
          · refine Or.inr ⟨a1, la2, n2, a2, a3, a4, a5, a6, a7, fun t ht => ?_⟩
            by_cases hqk : q = k
            · subst hqk
              rw [ms_same]
              by_cases hti : t = ii
              · subst hti
                rw [pk_us, pk_us]
              · rw [pk_un hti, pk_un (by omega)]
                exact a8 t ht
            · rw [ms_ne (by omega), pk_un (by omega)]
              exact a8 t ht
        · exact ⟨fun c h1 h2 => by rw [ms_ne h2, ms_ne (by omega)], fun c h1 h2 => by rw [ms_ne h2, ms_ne (by omega)], by rw [ms_same, ms_same, pk_us, pk_us]⟩
      · refine ⟨-1000010 - 2, ms x 0 0 2, ms m 14 0 2, ⟨E_x_set ?_, E_m_set ?_⟩, hR.st 2, KS.st 2⟩
        · rw [S_x_isSheet.iffi]
          refine br_n1 (bI_t hs) ?_
          rw [hp_f0_0, hp_ra1, nI_clamp (by omega)]
          refine ⟨vp_in_nI hk8 (by omega), ?_⟩
          rw [hp_sfI1 hk8, h1]
          refine br_t rfl ?_
          rw [hp_sv hk8, (S_s_holds hk8 hn q5).iffi]
          refine br_n2 (bI_f (by omega)) ?_
          rw [hp_v0, S_x_found.iffi]
          exact ⟨rfl, rfl⟩
        · rw [S_m_isSheet.iffi]
          refine br_n1 (bI_t hs) ?_
          rw [hp_f29_0, hp_a30, nI_clamp (by omega), q4]
          refine ⟨vp_in_nI hk8 (by omega), br_n1 (nI_ne0 (by omega) (by omega)) ?_⟩
          rw [hp_f29_1, hp_a31, nI_clamp (by omega), q6]
          refine ⟨vp_in_nI hk8 (by omega), ?_⟩
          rw [S_m_in.iffi, i64_of, i64_of, en]
          refine br_n2 (bI_f (by rw [show (0 : Int64).toInt = 0 from rfl]; omega)) ?_
          rw [hp_v29, S_m_finds.iffi]
          exact ⟨rfl, rfl⟩
  · refine ⟨-1000001, x, m, ⟨E_x_set ?_, E_m_set ?_⟩, hR, KS.rf hT⟩
    · rw [S_x_isSheet.iffi]
      exact br_n2 (bI_f hs) ⟨rfl, rfl⟩
    · rw [S_m_isSheet.iffi]
      exact br_n2 (bI_f hs) ⟨rfl, rfl⟩
end SHEETS2
