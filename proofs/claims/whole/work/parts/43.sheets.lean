/-! the calls of sheets, of both sides -/
section SHEETS
variable {X : lk_X} {d : Nat} {x : Nat → Nat → Int32} {S L : Nat → Option Nat} {m : Nat → Nat → Int32} {dyn : lk_H}
theorem m_sheet_loop {k n : Nat} (hk : k < 8) (hn : n ≤ 60) {Q : Option Value → lk_H → Prop} : ∀ (j i : Nat), n - i = j → i ≤ n → ∀ (m : Nat → Nat → Int32), Q (some (.int (nI n))) (hp x S L (ms (mr m 2 (fun q => if 60 * k + i ≤ q ∧ q < 60 * k + n then 0 else m 2 q)) 14 0 0) dyn) → lk_wp X (d + 2) 116 57 [.ref 29, .int (nI k), .retAddr 0, .int (nI n), .int (nI i)] [] (hp x S L m dyn) Q := by
  intro j
  induction j with
  | zero =>
    intro i hj hi m hQ
    refine F_m_sheet_57 (br_t (by rw [show i = n by omega]; exact nI_le (Nat.le_refl _) (by omega)) ?_)
    rw [hp_v29, S_m_well.iffi]
    have e : mr m 2 (fun q => if 60 * k + i ≤ q ∧ q < 60 * k + n then 0 else m 2 q) = m := by
      funext c
      by_cases hc : c = 2
      · subst hc
        rw [mr_same]
        funext q
        rw [if_neg (by omega)]
      · rw [mr_ne hc]
    rw [e] at hQ
    exact hQ
  | succ j ih =>
    intro i hj hi m hQ
    refine F_m_sheet_57 (br_f (nI_ge (by omega) (by omega)) ?_)
    have e : 60 * nI k + nI i = nI (60 * k + i) := by rw [show (60 : Int32) = nI 60 from rfl, pk_mul, nI_add]
    rw [hp_f29_2, hp_w32, e, nI_clamp (by omega), nI_1]
    refine ⟨vp_in_nI (by omega) (by omega), ih (i + 1) (by omega) (by omega) _ ?_⟩
    have e2 : mr (ms m 2 (60 * k + i) 0) 2 (fun q => if 60 * k + (i + 1) ≤ q ∧ q < 60 * k + n then 0 else ms m 2 (60 * k + i) 0 2 q) = mr m 2 (fun q => if 60 * k + i ≤ q ∧ q < 60 * k + n then 0 else m 2 q) := by
      funext c
      by_cases hc : c = 2
      · subst hc
        rw [mr_same, mr_same, ms_same]
        funext q
        by_cases hq : q = 60 * k + i
        · subst hq
          rw [if_neg (by omega), pk_us, if_pos (by omega)]
        · rw [pk_un hq]
          by_cases h2 : 60 * k + i ≤ q ∧ q < 60 * k + n
          · rw [if_pos h2, if_pos (by omega)]
          · rw [if_neg h2, if_neg (by omega)]
      · rw [mr_ne hc, mr_ne hc, ms_ne hc]
    rw [e2]
    exact hQ
/-- both sides answer alike, and are tied again; no cell is made -/
def TI (X : lk_X) (d kx km : Nat) (as : List Value) (x : Nat → Nat → Int32) (S L : Nat → Option Nat) (m : Nat → Nat → Int32) (dyn : lk_H) (r : Int32) (x' m' : Nat → Nat → Int32) : Prop :=
  lk_ev X d kx (.ref 0 :: as) (hp x S L m dyn) (some (.int r)) (hp x' S L m dyn) ∧ lk_ev X d km (.ref 29 :: as) (hp x' S L m dyn) (some (.int r)) (hp x' S L m' dyn)
/-- what a call of sheets may change -/
def KS (x x' m m' : Nat → Nat → Int32) : Prop := (∀ c, c < 10 → ¬ c = 0 → x' c = x c) ∧ (∀ c, 4 ≤ c → ¬ c = 14 → m' c = m c) ∧ x' 0 0 = m' 14 0
theorem KS.st (v : Int32) : KS x (ms x 0 0 v) m (ms m 14 0 v) := ⟨fun c _ h => ms_ne h, fun c _ h => ms_ne h, by rw [ms_same, ms_same, pk_us, pk_us]⟩
theorem T_sheet (hR : RS x m) (hT : x 0 0 = m 14 0) (s l n : Int32) : ∃ r x' m', TI X (d + 4) 66 116 [.int s, .int l, .int n] x S L m dyn r x' m' ∧ RS x' m' ∧ KS x x' m m' := by
  have e0 : (0 : Int32).toInt = 0 := rfl
  have e3 : (3 : Int32).toInt = 3 := rfl
  have e60 : (60 : Int32).toInt = 60 := rfl
  have same : KS x x m m := ⟨fun _ _ _ => rfl, fun _ _ _ => rfl, hT⟩
  by_cases hs : 0 ≤ s.toInt ∧ s.toInt ≤ 7
  · by_cases hl : 0 ≤ l.toInt ∧ l.toInt ≤ 2
    · by_cases hn : n.toInt ≤ 60
      · by_cases hz : 0 ≤ n.toInt
        · obtain ⟨k, rfl, hk, -⟩ := i32_nat hs.1
          obtain ⟨la, rfl, hla, -⟩ := i32_nat hl.1
          obtain ⟨nn, rfl, hnn, -⟩ := i32_nat hz
          have hk8 : k < 8 := by omega
          refine ⟨nI nn, ms (mr (ms (ms (ms x (20 + k) 0 0) (30 + k) 0 (nI la)) (40 + k) 0 (nI nn)) (10 + k) (fun q => if q < 60 then 0 else x (10 + k) q)) 0 0 0, ms (mr (ms (ms m 0 k (nI (la + 1))) 1 k (nI nn)) 2 (fun q => if 60 * k + 0 ≤ q ∧ q < 60 * k + nn then 0 else m 2 q)) 14 0 0, ⟨E_x_sheet ?_, E_m_sheet ?_⟩, ?_, ?_⟩
          · rw [S_x_isSheet.iffi]
            refine br_f (bI_t hs) (br_f (by rw [i32_lt]; omega) (br_f (by rw [i32_le]; omega) (br_t (by rw [i32_le]; omega) (br_t (by rw [i32_le]; omega) ?_))))
            rw [hp_f0_0, hp_ra1, nI_clamp (by omega)]
            refine ⟨vp_in_nI hk8 (by omega), ?_⟩
            rw [hp_sv hk8, (S_s_lay hk8).iffv, hp_v0, S_x_settled.iffi]
            exact ⟨rfl, rfl⟩
          · rw [S_m_isSheet.iffi]
            refine br_f (bI_t hs) ?_
            rw [S_m_in.iffi, i64_of]
            refine br_f (bI_t hl) (br_t (by rw [i32_le]; omega) (br_t (by rw [i32_le]; omega) ?_))
            rw [hp_f29_0, hp_w30, nI_clamp (by omega)]
            refine ⟨vp_in_nI hk8 (by omega), ?_⟩
            rw [hp_f29_1, hp_w31, nI_clamp (by omega), nI_1]
            refine ⟨vp_in_nI hk8 (by omega), ?_⟩
            refine m_sheet_loop (d := d + 2) hk8 (by omega) nn 0 rfl (Nat.zero_le _) _ ⟨rfl, ?_⟩
            rw [ms_ne (c := 1) (by decide), ms_ne (c := 0) (by decide)]
          · intro q hq
            by_cases hqk : q = k
            · subst hqk
              refine Or.inr ⟨?_, la, nn, by omega, by omega, ?_, ?_, ?_, ?_, fun i hi => ?_⟩
              · rw [ms_ne (by omega), mr_ne (by omega), ms_ne (by omega), ms_ne (by omega), ms_same, pk_us]
              · rw [ms_ne (by omega), mr_ne (by omega), ms_ne (by omega), ms_same, pk_us]
              · rw [ms_ne (by omega), mr_ne (by omega), ms_ne (by omega), ms_same, pk_us]
              · rw [ms_ne (by omega), mr_ne (by omega), ms_same, pk_us]
              · rw [ms_ne (by omega), mr_ne (by omega), ms_same, pk_us]
              · rw [ms_ne (by omega), mr_same, ms_ne (by omega), mr_same, if_pos (by omega), if_pos (by omega)]
            · have h0 := hR q hq
              have a1 : ∀ c, c = 10 + q ∨ c = 20 + q ∨ c = 30 + q ∨ c = 40 + q → ms (mr (ms (ms (ms x (20 + k) 0 0) (30 + k) 0 (nI la)) (40 + k) 0 (nI nn)) (10 + k) (fun q => if q < 60 then 0 else x (10 + k) q)) 0 0 0 c = x c := by
                intro c hc
                rw [ms_ne (by omega), mr_ne (by omega), ms_ne (by omega), ms_ne (by omega), ms_ne (by omega)]
              rw [a1 (20 + q) (by omega), a1 (30 + q) (by omega), a1 (40 + q) (by omega), a1 (10 + q) (by omega)]
              have a2 : ms (mr (ms (ms m 0 k (nI (la + 1))) 1 k (nI nn)) 2 (fun q => if 60 * k + 0 ≤ q ∧ q < 60 * k + nn then 0 else m 2 q)) 14 0 0 0 q = m 0 q := by
                rw [ms_ne (by omega), mr_ne (by omega), ms_ne (by omega), ms_same, pk_un hqk]
              have a3 : ms (mr (ms (ms m 0 k (nI (la + 1))) 1 k (nI nn)) 2 (fun q => if 60 * k + 0 ≤ q ∧ q < 60 * k + nn then 0 else m 2 q)) 14 0 0 1 q = m 1 q := by
                rw [ms_ne (by omega), mr_ne (by omega), ms_same, pk_un hqk, ms_ne (by omega)]
              have a4 : ∀ i, i < 60 → ms (mr (ms (ms m 0 k (nI (la + 1))) 1 k (nI nn)) 2 (fun q => if 60 * k + 0 ≤ q ∧ q < 60 * k + nn then 0 else m 2 q)) 14 0 0 2 (60 * q + i) = m 2 (60 * q + i) := by
                intro i hi
                rw [ms_ne (by omega), mr_same, if_neg (by omega)]
              rw [a2, a3]
              rcases h0 with h0 | ⟨h1, la2, n2, h2, h3, h4, h5, h6, h7, h8⟩
              · exact Or.inl h0
              · exact Or.inr ⟨h1, la2, n2, h2, h3, h4, h5, h6, h7, fun i hi => by rw [a4 i (by omega)]; exact h8 i hi⟩
          · refine ⟨fun c h1 h2 => ?_, fun c h1 h2 => ?_, ?_⟩
            · rw [ms_ne h2, mr_ne (by omega), ms_ne (by omega), ms_ne (by omega), ms_ne (by omega)]
            · rw [ms_ne h2, mr_ne (by omega), ms_ne (by omega), ms_ne (by omega)]
            · rw [ms_same, ms_same, pk_us, pk_us]
        · refine ⟨-1000010 - 4, ms x 0 0 4, ms m 14 0 4, ⟨E_x_sheet ?_, E_m_sheet ?_⟩, hR.congr (fun c hc => ms_ne (by omega)) (ms_ne (by decide)) (ms_ne (by decide)) (ms_ne (by decide)), KS.st 4⟩
          · rw [S_x_isSheet.iffi]
            refine br_f (bI_t hs) (br_f (by rw [i32_lt]; omega) (br_f (by rw [i32_le]; omega) (br_t (by rw [i32_le]; omega) (br_f (by rw [i32_le]; omega) ?_))))
            rw [hp_v0, S_x_found.iffi]
            exact ⟨rfl, rfl⟩
          · rw [S_m_isSheet.iffi]
            refine br_f (bI_t hs) ?_
            rw [S_m_in.iffi, i64_of]
            refine br_f (bI_t hl) (br_t (by rw [i32_le]; omega) (br_f (by rw [i32_le]; omega) ?_))
            rw [hp_v29, S_m_finds.iffi]
            exact ⟨rfl, rfl⟩
      · refine ⟨-1000001, x, m, ⟨E_x_sheet ?_, E_m_sheet ?_⟩, hR, same⟩
        · rw [S_x_isSheet.iffi]
          exact br_f (bI_t hs) (br_f (by rw [i32_lt]; omega) (br_f (by rw [i32_le]; omega) (br_f (by rw [i32_le]; omega) ⟨rfl, rfl⟩)))
        · rw [S_m_isSheet.iffi]
          refine br_f (bI_t hs) ?_
          rw [S_m_in.iffi, i64_of]
          exact br_f (bI_t hl) (br_f (by rw [i32_le]; omega) ⟨rfl, rfl⟩)
    · refine ⟨-1000001, x, m, ⟨E_x_sheet ?_, E_m_sheet ?_⟩, hR, same⟩
      · rw [S_x_isSheet.iffi]
        refine br_f (bI_t hs) ?_
        by_cases hl0 : l.toInt < 0
        · exact br_t (by rw [i32_lt]; omega) ⟨rfl, rfl⟩
        · exact br_f (by rw [i32_lt]; omega) (br_t (by rw [i32_le]; omega) ⟨rfl, rfl⟩)
      · rw [S_m_isSheet.iffi]
        refine br_f (bI_t hs) ?_
        rw [S_m_in.iffi, i64_of]
        exact br_t (bI_f hl) ⟨rfl, rfl⟩
  · refine ⟨-1000001, x, m, ⟨E_x_sheet ?_, E_m_sheet ?_⟩, hR, same⟩
    · rw [S_x_isSheet.iffi]
      exact br_t (bI_f hs) ⟨rfl, rfl⟩
    · rw [S_m_isSheet.iffi]
      exact br_t (bI_f hs) ⟨rfl, rfl⟩
end SHEETS
