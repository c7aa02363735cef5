/-! marks -/
/-- rising marks, so far -/
def okm (V : Nat → Int32) (j : Nat) : Prop := ∀ i, i < j → (0 ≤ (V i).toInt ∧ (V i).toInt ≤ 200) ∧ (0 < i → (V (i - 1)).toInt < (V i).toInt)
theorem okm.go {V : Nat → Int32} {j : Nat} (h : okm V j) (h1 : 0 ≤ (V j).toInt ∧ (V j).toInt ≤ 200) (h2 : 0 < j → (V (j - 1)).toInt < (V j).toInt) : okm V (j + 1) := by
  intro i hi
  by_cases hj : i = j
  · subst hj
    exact ⟨h1, h2⟩
  · exact h i (by omega)
theorem okm_eq {V : Nat → Int32} {j i : Nat} (h : okm V j) (hi : i < j) : V i = nI (cV V i) ∧ (cV V i : Int) = (V i).toInt := by
  obtain ⟨c, h1, h2, h3⟩ := i32_nat (h i hi).1.1
  have e : cV V i = c := by
    unfold cV
    rw [h1, nI_clamp h3]
  rw [e]
  exact ⟨h1, h2⟩
theorem okm.mk {V : Nat → Int32} {n : Nat} (h : okm V n) (h1 : 1 ≤ n) (h2 : n ≤ 12) : MK n (cV V) := by
  refine ⟨h1, h2, fun i hi => ?_, ?_⟩
  · have e := (okm_eq h hi).2
    have := (h i hi).1.2
    omega
  · intro i j hij
    induction j with
    | zero => omega
    | succ j ih =>
      intro hj
      have e1 := (okm_eq h hj).2
      have e2 := (okm_eq h (show j < n by omega)).2
      have e3 := (h (j + 1) hj).2 (by omega)
      rw [Nat.add_sub_cancel] at e3
      by_cases hq : i = j
      · subst hq
        omega
      · have := ih (by omega) (by omega)
        omega
section MARKS
variable {X : lk_X} {d : Nat} {x : Nat → Nat → Int32} {S L : Nat → Option Nat} {m : Nat → Nat → Int32} {dyn : lk_H}
theorem x_rise_loop {h : lk_H} {b n : Nat} {V : Nat → Int32} (hn : n ≤ 16) (hb : h[b]? = some (.inl (0, (n, .inl V)))) {Q : Option Value → lk_H → Prop} (hQ1 : okm V n → Q (some (.int 1)) h) (hQ0 : ¬ okm V n → Q (some (.int 0)) h) : ∀ (k j : Nat) (e : Int32), n - j = k → j ≤ n → okm V j → (e.toInt = if j = 0 then -1 else (V (j - 1)).toInt) → lk_wp X (d + 1) 13 10 [.retAddr 0, .int e, .ref b, .int (nI n), .int (nI j), .retAddr 0] [] h Q := by
  intro k
  induction k with
  | zero =>
    intro j e hk hj hok he
    refine F_k_rise_10 (br_t (nI_le (by omega) (by omega)) (hQ1 ?_))
    rw [show j = n by omega] at hok
    exact hok
  | succ k ih =>
    intro j e hk hj hok he
    have hjn : j < n := by omega
    have e200 : (200 : Int32).toInt = 200 := rfl
    refine F_k_rise_10 (br_f (nI_ge hjn (by omega)) ⟨n, V, hb, vp_in_nI hjn (by omega), ?_⟩)
    rw [nI_clamp (by omega), nI_1]
    have hlow : (if j = 0 then -1 else (V (j - 1)).toInt) < (V j).toInt ↔ 0 ≤ (V j).toInt ∧ (0 < j → (V (j - 1)).toInt < (V j).toInt) := by
      by_cases hj0 : j = 0
      · rw [if_pos hj0]
        omega
      · rw [if_neg hj0]
        have := (hok (j - 1) (by omega)).1
        omega
    by_cases h1 : (V j).toInt ≤ e.toInt
    · refine br_t (by rw [i32_le]; exact h1) (hQ0 fun w => ?_)
      have := w j hjn
      have := hlow.mpr ⟨this.1.1, this.2⟩
      omega
    · refine br_f (by rw [i32_le]; exact h1) ?_
      have h3 := hlow.mp (by omega)
      by_cases h2 : (V j).toInt ≤ 200
      · refine br_t (by rw [i32_le]; omega) (ih (j + 1) _ (by omega) (by omega) (hok.go ⟨h3.1, h2⟩ h3.2) ?_)
        rw [if_neg (by omega), Nat.add_sub_cancel]
      · refine br_f (by rw [i32_le]; omega) (hQ0 fun w => ?_)
        have := (w j hjn).1
        omega
theorem S_k_rise {h : lk_H} {b n : Nat} {V : Nat → Int32} (hn : n ≤ 16) (hb : h[b]? = some (.inl (0, (n, .inl V)))) (v : Bool) (hv : v = true ↔ okm V n) : lk_ev X (d + 1) 13 [.ref b] h (some (.int (oI v))) h := by
  refine E_k_rise ⟨0, _, hb, by decide, ?_⟩
  refine x_rise_loop hn hb (fun w => ?_) (fun w => ?_) n 0 _ rfl (Nat.zero_le _) (fun i hi => by omega) rfl
  · rw [hv.mpr w]
    exact ⟨rfl, rfl⟩
  · have : v = false := by
      cases v with
      | false => rfl
      | true => exact absurd (hv.mp rfl) w
    rw [this]
    exact ⟨rfl, rfl⟩
theorem m_marks_loop {p k i n : Nat} {V : Nat → Int32} (hk : k < 8) (hi : i + n ≤ 60) (hn1 : 1 ≤ n) (hn : n ≤ 12) (hV : ∀ j, j < n → V j = m 2 (60 * k + i + j)) {Q : Option Value → lk_H → Prop} (hQ1 : ∀ m1, okm V n → MD m m1 (cV V) n → m1 5 10 = nI n → lk_wxi X (d + 1) 127 [.ref 29, .int (nI p), .int 0] (hp x S L m1 dyn) (fun r h => Q (some (.int r)) h)) (hQ0 : ∀ m1, ¬ okm V n → SC m m1 → Q (some (.int (-1000001))) (hp x S L m1 dyn)) : ∀ (u j : Nat) (m1 : Nat → Nat → Int32), n - j = u → j ≤ n → okm V j → MD m m1 (cV V) j → lk_wp X (d + 2) 130 75 [.ref 29, .int (nI p), .int (nI k), .int (nI i), .int (nI n), .int (nI j), .retAddr 0] [] (hp x S L m1 dyn) Q := by
  intro u
  induction u with
  | zero =>
    intro j m1 hu hj hok hM
    refine F_m_marks_75 (br_t (nI_le (by omega) (by omega)) ?_)
    rw [hp_f29_5, hp_w35]
    refine ⟨vp_in_nI (n := 10) (by omega) (by omega), ?_⟩
    rw [show j = n by omega] at hok hM
    rw [hp_v29]
    refine hQ1 _ hok hM.m5 ?_
    rw [ms_same]
    exact pk_us
  | succ u ih =>
    intro j m1 hu hj hok hM
    have hjn : j < n := by omega
    have e1 : 60 * nI k + nI i + nI j = nI (60 * k + i + j) := by rw [show (60 : Int32) = nI 60 from rfl, pk_mul, nI_add, nI_add]
    have em2 := hM.1.2.2 2 (by decide) (by decide) (by decide) (by decide) (by decide)
    have e2 : m1 2 (60 * k + i + j) = V j := by rw [hV j hjn, em2]
    refine F_m_marks_75 (br_f (nI_ge hjn (by omega)) ?_)
    rw [hp_f29_2, hp_a32, e1, nI_clamp (by omega), e2]
    refine ⟨vp_in_nI (by omega) (by omega), ?_⟩
    have e00 : (0 : Int64).toInt = 0 := rfl
    have e200 : (200 : Int64).toInt = 200 := rfl
    rw [S_m_in.iffi, i64_of]
    by_cases h1 : (0 : Int64).toInt ≤ (V j).toInt ∧ (V j).toInt ≤ (200 : Int64).toInt
    · refine br_f (bI_t h1) ?_
      obtain ⟨c, hc1, hc2, hc3⟩ := i32_nat (v := V j) (by omega)
      have hcj : cV V j = c := by
        unfold cV
        rw [hc1, nI_clamp (by omega)]
      have hM2 := hM.go
      rw [hcj, ← hc1] at hM2
      have ez : (nI j ≤ (0 : Int32)) ↔ j = 0 := by
        rw [i32_le, i32_nI (by omega), show (0 : Int32).toInt = 0 from rfl]
        omega
      rw [ez, nI_1]
      by_cases hj0 : j = 0
      · refine br_t hj0 ?_
        rw [hp_v29, (S_m_make (show j < 16 by omega)).iffv]
        exact ih (j + 1) _ (by omega) (by omega) (hok.go (by omega) (by omega)) hM2
      · refine br_f hj0 ?_
        rw [hp_f29_2, hp_a32, nI_sub1 (by omega) (by omega), nI_clamp (by omega), show 60 * k + i + j - 1 = 60 * k + i + (j - 1) by omega, em2, ← hV (j - 1) (by omega), i32_lt]
        refine ⟨vp_in_nI (by omega) (by omega), ?_⟩
        by_cases h2 : (V (j - 1)).toInt < (V j).toInt
        · refine br_t h2 ?_
          rw [hp_v29, (S_m_make (show j < 16 by omega)).iffv]
          exact ih (j + 1) _ (by omega) (by omega) (hok.go (by omega) (fun _ => h2)) hM2
        · exact br_f h2 (hQ0 m1 (fun w => h2 ((w j hjn).2 (by omega))) hM.1)
    · refine br_t (bI_f h1) (hQ0 m1 (fun w => ?_) hM.1)
      have := (w j hjn).1
      omega
theorem T_marks (h : Rel x S L m dyn) (a s i n : Int32) : TE X (d + 6) 71 130 [.int a, .int s, .int i, .int n] x S L m dyn := by
  have e0 : (0 : Int32).toInt = 0 := rfl
  have e1 : (1 : Int32).toInt = 1 := rfl
  have e12 : (12 : Int32).toInt = 12 := rfl
  by_cases ha : 0 ≤ a.toInt ∧ a.toInt ≤ 9
  · by_cases hs : 0 ≤ s.toInt ∧ s.toInt ≤ 7
    · by_cases hn : 1 ≤ n.toInt ∧ n.toInt ≤ 12
      · obtain ⟨p, rfl, hp1, -⟩ := i32_nat ha.1
        obtain ⟨k, rfl, hk1, -⟩ := i32_nat hs.1
        obtain ⟨nn, rfl, hn1, -⟩ := i32_nat (v := n) (by omega)
        have hp10 : p < 10 := by omega
        have hk8 : k < 8 := by omega
        have e2t : (nI nn).toInt = (nn : Int) := i32_nI (by omega)
        rcases h.1 k hk8 with ⟨q1, q2⟩ | ⟨q1, la, sz, l1, l2, l3, l4, l5, l6, l7⟩
        · refine TE.mk0 (r := -1000010 - 1) (E_x_marks ?_) (E_m_marks ?_) (h.st 1)
          · rw [S_x_isPlace.iffi]
            refine br_f (bI_t ha) ?_
            rw [S_x_isSheet.iffi]
            refine br_f (bI_t hs) ?_
            refine br_f (by rw [i32_lt]; omega) (br_t (by rw [i32_le]; omega) ?_)
            rw [hp_v0, (S_x_items0 (d := d + 3) hk8 q1).iffi]
            refine br_f (by decide) ?_
            rw [hp_v0, S_x_found.iffi]
            exact ⟨rfl, rfl⟩
          · rw [S_m_isPlace.iffi]
            refine br_f (bI_t ha) ?_
            rw [S_m_isSheet.iffi]
            refine br_f (bI_t hs) ?_
            rw [S_m_in.iffi, i64_of]
            refine br_n1 (bI_t hn) ?_
            rw [hp_f29_0, hp_a30, nI_clamp (by omega), q2]
            refine ⟨vp_in_nI hk8 (by omega), br_n2 rfl ?_⟩
            rw [hp_v29, S_m_finds.iffi]
            exact ⟨rfl, rfl⟩
        · have hl0 : ¬ nI (la + 1) = 0 := fun w => by
            have := (nI_eq (a := la + 1) (b := 0) (by omega) (by omega)).mp w
            omega
          by_cases hi : 0 ≤ i.toInt ∧ i.toInt + (nn : Int) ≤ sz
          · obtain ⟨ii, rfl, hi1, -⟩ := i32_nat hi.1
            have hi60 : ii + nn ≤ 60 := by omega
            have hV : ∀ j, j < nn → va_cpy (x (10 + k)) (fun _ => 0) ii 0 nn j = m 2 (60 * k + ii + j) := by
              intro j hj
              unfold va_cpy
              rw [if_pos (by omega), Nat.sub_zero, l7 (ii + j) (by omega), Nat.add_assoc]
            generalize hVV : va_cpy (x (10 + k)) (fun _ => 0) ii 0 nn = V at hV
            have rd : lk_ev X (d + 1 + 4) 54 [.ref (13 + 2 * k), .int (nI ii), .int (nI nn)] (hp x S L m dyn) (some (.ref (44 + dyn.length))) (hp x S L m (dyn ++ [.inl (0, (nn, .inl V))])) := by
              have := S_s_read (X := X) (d := d + 1) (x := x) (S := S) (L := L) (m := m) (dyn := dyn) (k := k) (i := ii) (n := nn) hk8 hi60 (by omega)
              rw [hVV] at this
              exact this
            have hat : (hp x S L m (dyn ++ [.inl (0, (nn, .inl V))]))[44 + dyn.length]? = some (.inl (0, (nn, .inl V))) := by
              rw [hp_dyn, List.getElem?_append_right (Nat.le_refl _), Nat.sub_self]
              rfl
            by_cases hok : okm V nn
            · have hor : MK nn (cV V) := hok.mk (by omega) (by omega)
              refine TE.made (o := false) (p := p) (n := nn) (g := cV V) (f := V) h hp10 hor (fun i hi => (okm_eq hok hi).1) (E_x_marks ?_) (fun x' S' dyn' => ?_)
              · rw [S_x_isPlace.iffi]
                refine br_f (bI_t ha) ?_
                rw [S_x_isSheet.iffi]
                refine br_f (bI_t hs) ?_
                refine br_f (by rw [i32_lt]; omega) (br_t (by rw [i32_le]; omega) ?_)
                rw [hp_v0, (S_x_items (d := d + 3) hk8 l2 q1 l5).iffi, e2t, if_pos ⟨hi.1, by omega, hi.2⟩]
                refine br_t rfl ?_
                rw [hp_f0_0, hp_ra1, nI_clamp (by omega)]
                refine ⟨vp_in_nI hk8 (by omega), ?_⟩
                rw [hp_sv hk8, rd.iffr]
                rw [(S_k_rise (by omega) hat true ⟨fun _ => hok, fun _ => rfl⟩).iffi]
                refine br_f (by decide) ?_
                rw [(C_tell_k (d := d) hor (fun i hi => (okm_eq hok hi).1)).iffr, hp_v0, (C_shelve (d := d + 3) (o := false) hp10 hor (fun i hi => (okm_eq hok hi).1)).iffi]
                exact ⟨rfl, rfl⟩
              · have main : lk_wx X (d + 6) 130 [.ref 29, .int (nI p), .int (nI k), .int (nI ii), .int (nI nn)] (hp x' S' L m dyn') (fun v h' => ∃ m1 m', v = some (.int (nI (kd false nn (cV V)))) ∧ h' = hp x' S' L m' dyn' ∧ SC m m1 ∧ KP m1 m' p nn (kd false nn (cV V)) (cV V)) := by
                  refine E_m_marks ?_
                  rw [S_m_isPlace.iffi]
                  refine br_f (bI_t ha) ?_
                  rw [S_m_isSheet.iffi]
                  refine br_f (bI_t hs) ?_
                  rw [S_m_in.iffi, i64_of]
                  refine br_n1 (bI_t hn) ?_
                  rw [hp_f29_0, hp_a30, nI_clamp (by omega), l4]
                  refine ⟨vp_in_nI hk8 (by omega), br_n1 hl0 (br_f (by rw [i32_lt]; omega) ?_)⟩
                  rw [hp_f29_1, hp_a31, nI_clamp (by omega), l6]
                  refine ⟨vp_in_nI hk8 (by omega), br_t ?_ ?_⟩
                  · rw [lg_cmp_le, Int64.le_iff_toInt_le, i64_add, i64_of, i32_nI (n := sz) (by omega), i32_nI (n := nn) (by omega)]
                    omega
                  · refine m_marks_loop (d := d + 4) (j := 0) (V := V) hk8 hi60 (by omega) (by omega) hV (fun m2 hok2 hM h5 => ?_) (fun m2 hno _ => absurd hok hno) nn m rfl (Nat.zero_le _) (fun i hi => by omega) ⟨SC.rf, fun i hi => by omega⟩
                    obtain ⟨m', k1, k2⟩ := M_keep (X := X) (d := d + 1) (x := x') (S := S') (L := L) (dyn := dyn') (o := false) hp10 hM h5 hor
                    rw [show (Value.int 0) = Value.int (oI false) from rfl, k1.iffi]
                    exact ⟨m2, m', rfl, rfl, hM.1, k2⟩
                obtain ⟨v, h', ev, m1, m', rfl, rfl, h1, h2⟩ := main.ex
                exact ⟨m1, m', ev, h1, h2⟩
            · have main : ∃ m1, lk_ev X (d + 6) 130 [.ref 29, .int (nI p), .int (nI k), .int (nI ii), .int (nI nn)] (hp x S L m (dyn ++ [.inl (0, (nn, .inl V))])) (some (.int (-1000001))) (hp x S L m1 (dyn ++ [.inl (0, (nn, .inl V))])) ∧ SC m m1 := by
                have main : lk_wx X (d + 6) 130 [.ref 29, .int (nI p), .int (nI k), .int (nI ii), .int (nI nn)] (hp x S L m (dyn ++ [.inl (0, (nn, .inl V))])) (fun v h' => ∃ m1, v = some (.int (-1000001)) ∧ h' = hp x S L m1 (dyn ++ [.inl (0, (nn, .inl V))]) ∧ SC m m1) := by
                  refine E_m_marks ?_
                  rw [S_m_isPlace.iffi]
                  refine br_f (bI_t ha) ?_
                  rw [S_m_isSheet.iffi]
                  refine br_f (bI_t hs) ?_
                  rw [S_m_in.iffi, i64_of]
                  refine br_n1 (bI_t hn) ?_
                  rw [hp_f29_0, hp_a30, nI_clamp (by omega), l4]
                  refine ⟨vp_in_nI hk8 (by omega), br_n1 hl0 (br_f (by rw [i32_lt]; omega) ?_)⟩
                  rw [hp_f29_1, hp_a31, nI_clamp (by omega), l6]
                  refine ⟨vp_in_nI hk8 (by omega), br_t ?_ ?_⟩
                  · rw [lg_cmp_le, Int64.le_iff_toInt_le, i64_add, i64_of, i32_nI (n := sz) (by omega), i32_nI (n := nn) (by omega)]
                    omega
                  · exact m_marks_loop (d := d + 4) (j := 0) (V := V) hk8 hi60 (by omega) (by omega) hV (fun m2 hok2 hM h5 => absurd hok2 hok) (fun m2 hno hs2 => ⟨m2, rfl, rfl, hs2⟩) nn m rfl (Nat.zero_le _) (fun i hi => by omega) ⟨SC.rf, fun i hi => by omega⟩
                obtain ⟨v, h', ev, m1, rfl, rfl, h1⟩ := main.ex
                exact ⟨m1, ev, h1⟩
              obtain ⟨m1, ev, hs1⟩ := main
              refine ⟨-1000001, x, S, L, m1, [.inl (0, (nn, .inl V))], E_x_marks ?_, ev, SC.rel (h.app _) hs1, Nat.le_of_ble_eq_true rfl, ?_⟩
              · rw [S_x_isPlace.iffi]
                refine br_f (bI_t ha) ?_
                rw [S_x_isSheet.iffi]
                refine br_f (bI_t hs) ?_
                refine br_f (by rw [i32_lt]; omega) (br_t (by rw [i32_le]; omega) ?_)
                rw [hp_v0, (S_x_items (d := d + 3) hk8 l2 q1 l5).iffi, e2t, if_pos ⟨hi.1, by omega, hi.2⟩]
                refine br_t rfl ?_
                rw [hp_f0_0, hp_ra1, nI_clamp (by omega)]
                refine ⟨vp_in_nI hk8 (by omega), ?_⟩
                rw [hp_sv hk8, rd.iffr]
                rw [(S_k_rise (by omega) hat false ⟨fun w => absurd w (by decide), fun w => absurd w hok⟩).iffi]
                exact br_t rfl ⟨rfl, rfl⟩
              · rw [sz_cons]
                show nn + 0 ≤ 400
                omega
          · refine TE.mk0 (r := -1000010 - 2) (E_x_marks ?_) (E_m_marks ?_) (h.st 2)
            · rw [S_x_isPlace.iffi]
              refine br_f (bI_t ha) ?_
              rw [S_x_isSheet.iffi]
              refine br_f (bI_t hs) ?_
              refine br_f (by rw [i32_lt]; omega) (br_t (by rw [i32_le]; omega) ?_)
              rw [hp_v0, (S_x_items (d := d + 3) hk8 l2 q1 l5).iffi, e2t, if_neg (fun w => hi ⟨w.1, w.2.2⟩)]
              refine br_f (by decide) ?_
              rw [hp_v0, S_x_found.iffi]
              exact ⟨rfl, rfl⟩
            · rw [S_m_isPlace.iffi]
              refine br_f (bI_t ha) ?_
              rw [S_m_isSheet.iffi]
              refine br_f (bI_t hs) ?_
              rw [S_m_in.iffi, i64_of]
              refine br_n1 (bI_t hn) ?_
              rw [hp_f29_0, hp_a30, nI_clamp (by omega), l4]
              refine ⟨vp_in_nI hk8 (by omega), br_n1 hl0 ?_⟩
              by_cases hi0 : i.toInt < 0
              · refine br_t (by rw [i32_lt]; omega) ?_
                rw [hp_v29, S_m_finds.iffi]
                exact ⟨rfl, rfl⟩
              · refine br_f (by rw [i32_lt]; omega) ?_
                rw [hp_f29_1, hp_a31, nI_clamp (by omega), l6]
                refine ⟨vp_in_nI hk8 (by omega), br_f ?_ ?_⟩
                · rw [lg_cmp_le, Int64.le_iff_toInt_le, i64_add, i64_of, i32_nI (n := sz) (by omega), i32_nI (n := nn) (by omega)]
                  omega
                · rw [hp_v29, S_m_finds.iffi]
                  exact ⟨rfl, rfl⟩
      · refine TE.mk0 (r := -1000001) (E_x_marks ?_) (E_m_marks ?_) h
        · rw [S_x_isPlace.iffi]
          refine br_f (bI_t ha) ?_
          rw [S_x_isSheet.iffi]
          refine br_f (bI_t hs) ?_
          by_cases hlo : n.toInt < 1
          · exact br_t (by rw [i32_lt]; omega) ⟨rfl, rfl⟩
          · exact br_f (by rw [i32_lt]; omega) (br_f (by rw [i32_le]; omega) ⟨rfl, rfl⟩)
        · rw [S_m_isPlace.iffi]
          refine br_f (bI_t ha) ?_
          rw [S_m_isSheet.iffi]
          refine br_f (bI_t hs) ?_
          rw [S_m_in.iffi, i64_of]
          exact br_n2 (bI_f hn) ⟨rfl, rfl⟩
    · refine TE.mk0 (r := -1000001) (E_x_marks ?_) (E_m_marks ?_) h
      · rw [S_x_isPlace.iffi]
        refine br_f (bI_t ha) ?_
        rw [S_x_isSheet.iffi]
        exact br_t (bI_f hs) ⟨rfl, rfl⟩
      · rw [S_m_isPlace.iffi]
        refine br_f (bI_t ha) ?_
        rw [S_m_isSheet.iffi]
        exact br_t (bI_f hs) ⟨rfl, rfl⟩
  · refine TE.mk0 (r := -1000001) (E_x_marks ?_) (E_m_marks ?_) h
    · rw [S_x_isPlace.iffi]
      exact br_t (bI_f ha) ⟨rfl, rfl⟩
    · rw [S_m_isPlace.iffi]
      exact br_t (bI_f ha) ⟨rfl, rfl⟩
end MARKS
