/-! copy -/
section COPY
variable {X : lk_X} {d : Nat} {x : Nat → Nat → Int32} {S L : Nat → Option Nat} {m : Nat → Nat → Int32} {dyn : lk_H}
theorem hp_ac {a b i j n : Nat} (ha : a < 8) (hb : b < 8) (hi : i + n ≤ 60) (hj : j + n ≤ 60) {K : lk_H → Prop} : lk_ac (hp x S L m dyn) (14 + 2 * a) (nI i) (14 + 2 * b) (nI j) (nI n) K ↔ K (hp (mr x (10 + b) (va_cpy (x (10 + a)) (x (10 + b)) i j n)) S L m dyn) := by
  have c1 : (nI i).toNatClampNeg = i := nI_clamp (by omega)
  have c2 : (nI j).toNatClampNeg = j := nI_clamp (by omega)
  have c3 : (nI n).toNatClampNeg = n := nI_clamp (by omega)
  have z : ∀ k : Nat, k ≤ 60 → ¬ nI k < 0 := fun k hk => by
    rw [i32_lt, i32_nI (by omega), show (0 : Int32).toInt = 0 from rfl]
    omega
  constructor
  · rintro ⟨n0, f, n1, g, h1, h2, h3, h4⟩
    rw [hp_si ha] at h1
    rw [hp_si hb] at h2
    cases h1
    cases h2
    rw [c1, c2, c3, hp_smr hb] at h4
    exact h4
  · intro h
    refine ⟨_, _, _, _, hp_si ha, hp_si hb, ?_, ?_⟩
    · rw [c1, c2, c3]
      rintro (q | q | q | q | q)
      · exact z i (by omega) q
      · exact z j (by omega) q
      · exact z n (by omega) q
      · omega
      · omega
    · rw [c1, c2, c3, hp_smr hb]
      exact h
theorem m_copy_loop2 {b j n : Nat} (hb : b < 8) (hj : j + n ≤ 60) {Q : Option Value → lk_H → Prop} : ∀ (t i : Nat), n - i = t → i ≤ n → ∀ (m : Nat → Nat → Int32), Q (some (.int (nI n))) (hp x S L (ms (mr m 2 (fun q => if 60 * b + j + i ≤ q ∧ q < 60 * b + j + n then m 3 (q - (60 * b + j)) else m 2 q)) 14 0 0) dyn) → lk_wp X (d + 2) 118 157 [.ref 29, .retAddr 0, .retAddr 0, .int (nI b), .int (nI j), .int (nI n), .int (nI i)] [] (hp x S L m dyn) Q := by
  intro t
  induction t with
  | zero =>
    intro i ht hi m hQ
    refine F_m_copy_157 (br_t (by rw [show i = n by omega]; exact nI_le (Nat.le_refl _) (by omega)) ?_)
    rw [hp_v29, S_m_well.iffi]
    have e : mr m 2 (fun q => if 60 * b + j + i ≤ q ∧ q < 60 * b + j + n then m 3 (q - (60 * b + j)) else m 2 q) = m := by
      funext c
      by_cases hc : c = 2
      · subst hc
        rw [mr_same]
        funext q
        rw [if_neg (by omega)]
      · rw [mr_ne hc]
    rw [e] at hQ
    exact hQ
  | succ t ih =>
    intro i ht hi m hQ
    refine F_m_copy_157 (br_f (nI_ge (by omega) (by omega)) ?_)
    have e : 60 * nI b + nI j + nI i = nI (60 * b + j + i) := by rw [show (60 : Int32) = nI 60 from rfl, pk_mul, nI_add, nI_add]
    rw [hp_f29_2, hp_f29_3, hp_a33, nI_clamp (by omega)]
    refine ⟨vp_in_nI (by omega) (by omega), ?_⟩
    rw [hp_w32, e, nI_clamp (by omega), nI_1]
    refine ⟨vp_in_nI (by omega) (by omega), ih (i + 1) (by omega) (by omega) _ ?_⟩
    have e2 : mr (ms m 2 (60 * b + j + i) (m 3 i)) 2 (fun q => if 60 * b + j + (i + 1) ≤ q ∧ q < 60 * b + j + n then ms m 2 (60 * b + j + i) (m 3 i) 3 (q - (60 * b + j)) else ms m 2 (60 * b + j + i) (m 3 i) 2 q) = mr m 2 (fun q => if 60 * b + j + i ≤ q ∧ q < 60 * b + j + n then m 3 (q - (60 * b + j)) else m 2 q) := by
      funext c
      by_cases hc : c = 2
      · subst hc
        rw [mr_same, mr_same, ms_same, ms_ne (by decide)]
        funext q
        by_cases hq : q = 60 * b + j + i
        · subst hq
          rw [if_neg (by omega), pk_us, if_pos (by omega), show 60 * b + j + i - (60 * b + j) = i by omega]
        · rw [pk_un hq]
          by_cases h2 : 60 * b + j + i ≤ q ∧ q < 60 * b + j + n
          · rw [if_pos h2, if_pos (by omega)]
          · rw [if_neg h2, if_neg (by omega)]
      · rw [mr_ne hc, mr_ne hc, ms_ne hc]
    rw [e2]
    exact hQ
theorem m_copy_loop1 {a i b j n : Nat} (ha : a < 8) (hi : i + n ≤ 60) (hb : b < 8) (hj : j + n ≤ 60) {Q : Option Value → lk_H → Prop} : ∀ (t k : Nat), n - k = t → k ≤ n → ∀ (m mv : Nat → Nat → Int32), mv = mr m 3 (fun q => if k ≤ q ∧ q < n then m 2 (60 * a + i + q) else m 3 q) → Q (some (.int (nI n))) (hp x S L (ms (mr mv 2 (fun q => if 60 * b + j + 0 ≤ q ∧ q < 60 * b + j + n then mv 3 (q - (60 * b + j)) else mv 2 q)) 14 0 0) dyn) → lk_wp X (d + 2) 118 120 [.ref 29, .int (nI a), .int (nI i), .int (nI b), .int (nI j), .int (nI n), .int (nI k)] [] (hp x S L m dyn) Q := by
  intro t
  induction t with
  | zero =>
    intro k ht hk m mv hm hQ
    refine F_m_copy_120 (br_t (by rw [show k = n by omega]; exact nI_le (Nat.le_refl _) (by omega)) ?_)
    have e : mv = m := by
      rw [hm]
      funext c
      by_cases hc : c = 3
      · subst hc
        rw [mr_same]
        funext q
        rw [if_neg (by omega)]
      · rw [mr_ne hc]
    rw [e] at hQ
    exact m_copy_loop2 hb hj n 0 rfl (Nat.zero_le _) m hQ
  | succ t ih =>
    intro k ht hk m mv hm hQ
    refine F_m_copy_120 (br_f (nI_ge (by omega) (by omega)) ?_)
    have e : 60 * nI a + nI i + nI k = nI (60 * a + i + k) := by rw [show (60 : Int32) = nI 60 from rfl, pk_mul, nI_add, nI_add]
    rw [hp_f29_3, hp_f29_2, hp_a32, e, nI_clamp (by omega)]
    refine ⟨vp_in_nI (by omega) (by omega), ?_⟩
    rw [hp_w33, nI_clamp (by omega), nI_1]
    refine ⟨vp_in_nI (by omega) (by omega), ih (k + 1) (by omega) (by omega) _ mv ?_ hQ⟩
    rw [hm]
    funext c
    by_cases hc : c = 3
    · subst hc
      rw [mr_same, mr_same, ms_same, ms_ne (by decide)]
      funext q
      by_cases hqk : q = k
      · subst hqk
        rw [if_neg (c := q + 1 ≤ q ∧ q < n) (by omega), pk_us, if_pos (by omega)]
      · rw [pk_un hqk]
        by_cases h3 : k ≤ q ∧ q < n
        · rw [if_pos h3, if_pos (by omega)]
        · rw [if_neg h3, if_neg (by omega)]
    · rw [mr_ne hc, mr_ne hc, ms_ne hc]
theorem T_copy (hR : RS x m) (hT : x 0 0 = m 14 0) (a i b j n : Int32) : ∃ r x' m', TI X (d + 4) 68 118 [.int a, .int i, .int b, .int j, .int n] x S L m dyn r x' m' ∧ RS x' m' ∧ KS x x' m m' := by
  have e0 : (0 : Int32).toInt = 0 := rfl
  by_cases ha : 0 ≤ a.toInt ∧ a.toInt ≤ 7
  · by_cases hb : 0 ≤ b.toInt ∧ b.toInt ≤ 7
    · obtain ⟨a', rfl, ha1, -⟩ := i32_nat ha.1
      obtain ⟨b', rfl, hb1, -⟩ := i32_nat hb.1
      have ha8 : a' < 8 := by omega
      have hb8 : b' < 8 := by omega
      rcases hR a' ha8 with ⟨p1, p2⟩ | ⟨p1, la, na, hla, hna, p3, p4, p5, p6, p7⟩
      · refine ⟨-1000010 - 1, ms x 0 0 1, ms m 14 0 1, ⟨E_x_copy ?_, E_m_copy ?_⟩, hR.st 1, KS.st 1⟩
        · rw [S_x_isSheet.iffi]
          refine br_f (bI_t ha) ?_
          rw [S_x_isSheet.iffi]
          refine br_n1 (bI_t hb) ?_
          rw [hp_f0_0, hp_ra1, nI_clamp (by omega), hp_f0_0, hp_ra1, nI_clamp (by omega)]
          refine ⟨vp_in_nI ha8 (by omega), vp_in_nI hb8 (by omega), ?_⟩
          rw [hp_sfI1 ha8, p1]
          refine br_n1 (by decide) ?_
          rw [hp_v0, S_x_found.iffi]
          exact ⟨rfl, rfl⟩
        · rw [S_m_isSheet.iffi]
          refine br_f (bI_t ha) ?_
          rw [S_m_isSheet.iffi]
          refine br_n1 (bI_t hb) ?_
          rw [hp_f29_0, hp_a30, nI_clamp (by omega), p2]
          refine ⟨vp_in_nI ha8 (by omega), br_t rfl ?_⟩
          rw [hp_v29, S_m_finds.iffi]
          exact ⟨rfl, rfl⟩
      · rcases hR b' hb8 with ⟨q1, q2⟩ | ⟨q1, lb, nb, hlb, hnb, q3, q4, q5, q6, q7⟩
        · refine ⟨-1000010 - 1, ms x 0 0 1, ms m 14 0 1, ⟨E_x_copy ?_, E_m_copy ?_⟩, hR.st 1, KS.st 1⟩
          · rw [S_x_isSheet.iffi]
            refine br_f (bI_t ha) ?_
            rw [S_x_isSheet.iffi]
            refine br_n1 (bI_t hb) ?_
            rw [hp_f0_0, hp_ra1, nI_clamp (by omega), hp_f0_0, hp_ra1, nI_clamp (by omega)]
            refine ⟨vp_in_nI ha8 (by omega), vp_in_nI hb8 (by omega), ?_⟩
            rw [hp_sfI1 ha8, p1]
            refine br_n2 rfl ?_
            rw [hp_sfI1 hb8, q1]
            refine br_f (by decide) ?_
            rw [hp_v0, S_x_found.iffi]
            exact ⟨rfl, rfl⟩
          · rw [S_m_isSheet.iffi]
            refine br_f (bI_t ha) ?_
            rw [S_m_isSheet.iffi]
            refine br_n1 (bI_t hb) ?_
            rw [hp_f29_0, hp_a30, nI_clamp (by omega), p4]
            refine ⟨vp_in_nI ha8 (by omega), br_f (nI_ne0 (by omega) (by omega)) ?_⟩
            rw [hp_f29_0, hp_a30, nI_clamp (by omega), q2]
            refine ⟨vp_in_nI hb8 (by omega), br_n2 rfl ?_⟩
            rw [hp_v29, S_m_finds.iffi]
            exact ⟨rfl, rfl⟩
        · have elm : nI (la + 1) = nI (lb + 1) ↔ la = lb := by
            rw [nI_eq (by omega) (by omega)]
            omega
          have elx : nI la = nI lb ↔ la = lb := nI_eq (by omega) (by omega)
          by_cases hl : la = lb
          · by_cases hok : (0 ≤ i.toInt ∧ 0 ≤ n.toInt ∧ i.toInt + n.toInt ≤ na) ∧ (0 ≤ j.toInt ∧ 0 ≤ n.toInt ∧ j.toInt + n.toInt ≤ nb)
            · obtain ⟨i', rfl, hi1, -⟩ := i32_nat hok.1.1
              obtain ⟨j', rfl, hj1, -⟩ := i32_nat hok.2.1
              obtain ⟨n', rfl, hn1, -⟩ := i32_nat hok.1.2.1
              obtain ⟨mv, hmv⟩ : ∃ mv : Nat → Nat → Int32, mv = mr m 3 (fun q => if 0 ≤ q ∧ q < n' then m 2 (60 * a' + i' + q) else m 3 q) := ⟨_, rfl⟩
              have m0 : mv 0 = m 0 := by rw [hmv, mr_ne (by decide)]
              have m1 : mv 1 = m 1 := by rw [hmv, mr_ne (by decide)]
              have m2 : mv 2 = m 2 := by rw [hmv, mr_ne (by decide)]
              have m3 : ∀ q, q < n' → mv 3 q = m 2 (60 * a' + i' + q) := fun q hq => by rw [hmv, mr_same, if_pos (by omega)]
              refine ⟨nI n', ms (mr x (10 + b') (va_cpy (x (10 + a')) (x (10 + b')) i' j' n')) 0 0 0, ms (mr mv 2 (fun q => if 60 * b' + j' + 0 ≤ q ∧ q < 60 * b' + j' + n' then mv 3 (q - (60 * b' + j')) else mv 2 q)) 14 0 0, ⟨E_x_copy ?_, E_m_copy ?_⟩, ?_, ?_⟩
              · rw [S_x_isSheet.iffi]
                refine br_f (bI_t ha) ?_
                rw [S_x_isSheet.iffi]
                refine br_n1 (bI_t hb) ?_
                rw [hp_f0_0, hp_ra1, nI_clamp (by omega), hp_f0_0, hp_ra1, nI_clamp (by omega)]
                refine ⟨vp_in_nI ha8 (by omega), vp_in_nI hb8 (by omega), ?_⟩
                rw [hp_sfI1 ha8, p1]
                refine br_n2 rfl ?_
                rw [hp_sfI1 hb8, q1]
                refine br_t rfl ?_
                rw [hp_sfI2 ha8, hp_sfI2 hb8, p3, q3]
                refine br_t (elx.mpr hl) ?_
                rw [hp_sv ha8, (S_s_holds ha8 hna p5).iffi]
                refine br_f (bI_t hok.1) ?_
                rw [hp_sv hb8, (S_s_holds hb8 hnb q5).iffi]
                refine br_n1 (bI_t hok.2) ?_
                rw [hp_sfR ha8, hp_sfR hb8, hp_ac ha8 hb8 (by omega) (by omega), hp_v0, S_x_settled.iffi]
                exact ⟨rfl, rfl⟩
              · rw [S_m_isSheet.iffi]
                refine br_f (bI_t ha) ?_
                rw [S_m_isSheet.iffi]
                refine br_n1 (bI_t hb) ?_
                rw [hp_f29_0, hp_a30, nI_clamp (by omega), p4]
                refine ⟨vp_in_nI ha8 (by omega), br_f (nI_ne0 (by omega) (by omega)) ?_⟩
                rw [hp_f29_0, hp_a30, nI_clamp (by omega), q4]
                refine ⟨vp_in_nI hb8 (by omega), br_n1 (nI_ne0 (by omega) (by omega)) ?_⟩
                rw [hp_f29_0, hp_a30, nI_clamp (by omega), p4, hp_f29_0, hp_a30, nI_clamp (by omega), q4]
                refine ⟨vp_in_nI ha8 (by omega), vp_in_nI hb8 (by omega), ?_⟩
                refine br_t (elm.mpr hl) (br_f (by rw [i32_lt]; omega) (br_f (by rw [i32_lt]; omega) (br_f (by rw [i32_lt]; omega) ?_)))
                rw [hp_f29_1, hp_a31, nI_clamp (by omega), p6]
                refine ⟨vp_in_nI ha8 (by omega), br_f ?_ ?_⟩
                · rw [lg_cmp_gt, Int64.lt_iff_toInt_lt, i64_add, i64_of, i32_nI (n := na) (by omega)]
                  omega
                rw [hp_f29_1, hp_a31, nI_clamp (by omega), q6]
                refine ⟨vp_in_nI hb8 (by omega), br_t ?_ ?_⟩
                · rw [lg_cmp_le, Int64.le_iff_toInt_le, i64_add, i64_of, i32_nI (n := nb) (by omega)]
                  omega
                exact m_copy_loop1 (d := d + 2) (k := 0) ha8 (by omega) hb8 (by omega) n' rfl (Nat.zero_le _) m mv hmv ⟨rfl, rfl⟩
              · intro q hq
                have h0 := hR q hq
                rw [ms_ne (c := 0) (c' := 20 + q) (by omega), ms_ne (c := 0) (c' := 30 + q) (by omega), ms_ne (c := 0) (c' := 40 + q) (by omega), ms_ne (c := 0) (c' := 10 + q) (by omega), mr_ne (c' := 20 + q) (by omega), mr_ne (c' := 30 + q) (by omega), mr_ne (c' := 40 + q) (by omega), ms_ne (c := 14) (c' := 0) (by omega), ms_ne (c := 14) (c' := 1) (by omega), ms_ne (c := 14) (c' := 2) (by omega), mr_same, mr_ne (c' := 0) (by omega), mr_ne (c' := 1) (by omega), m0, m1, m2]
                rcases h0 with h0 | ⟨a1, la2, n2, a2, a3, a4, a5, a6, a7, a8⟩
                · exact Or.inl h0
                · refine Or.inr ⟨a1, la2, n2, a2, a3, a4, a5, a6, a7, fun t ht => ?_⟩
                  by_cases hqk : q = b'
                  · subst hqk
                    rw [mr_same]
                    unfold va_cpy
                    by_cases hti : j' ≤ t ∧ t < j' + n'
                    · rw [if_pos hti, if_pos (by omega), m3 _ (by omega), p7 _ (by omega)]
                      congr 1
                      omega
                    · rw [if_neg hti, if_neg (by omega)]
                      exact a8 t ht
                  · rw [mr_ne (by omega), if_neg (by omega)]
                    exact a8 t ht
              · refine ⟨fun c h1 h2 => by rw [ms_ne h2, mr_ne (by omega)], fun c h1 h2 => ?_, by rw [ms_same, ms_same, pk_us, pk_us]⟩
                rw [ms_ne h2, mr_ne (by omega), hmv, mr_ne (by omega)]
            · refine ⟨-1000010 - 2, ms x 0 0 2, ms m 14 0 2, ⟨E_x_copy ?_, E_m_copy ?_⟩, hR.st 2, KS.st 2⟩
              · rw [S_x_isSheet.iffi]
                refine br_f (bI_t ha) ?_
                rw [S_x_isSheet.iffi]
                refine br_n1 (bI_t hb) ?_
                rw [hp_f0_0, hp_ra1, nI_clamp (by omega), hp_f0_0, hp_ra1, nI_clamp (by omega)]
                refine ⟨vp_in_nI ha8 (by omega), vp_in_nI hb8 (by omega), ?_⟩
                rw [hp_sfI1 ha8, p1]
                refine br_n2 rfl ?_
                rw [hp_sfI1 hb8, q1]
                refine br_t rfl ?_
                rw [hp_sfI2 ha8, hp_sfI2 hb8, p3, q3]
                refine br_t (elx.mpr hl) ?_
                rw [hp_sv ha8, (S_s_holds ha8 hna p5).iffi]
                by_cases h1 : 0 ≤ i.toInt ∧ 0 ≤ n.toInt ∧ i.toInt + n.toInt ≤ na
                · refine br_f (bI_t h1) ?_
                  rw [hp_sv hb8, (S_s_holds hb8 hnb q5).iffi]
                  refine br_n2 (bI_f fun q => hok ⟨h1, q⟩) ?_
                  rw [hp_v0, S_x_found.iffi]
                  exact ⟨rfl, rfl⟩
                · refine br_t (bI_f h1) ?_
                  rw [hp_v0, S_x_found.iffi]
                  exact ⟨rfl, rfl⟩
              · rw [S_m_isSheet.iffi]
                refine br_f (bI_t ha) ?_
                rw [S_m_isSheet.iffi]
                refine br_n1 (bI_t hb) ?_
                rw [hp_f29_0, hp_a30, nI_clamp (by omega), p4]
                refine ⟨vp_in_nI ha8 (by omega), br_f (nI_ne0 (by omega) (by omega)) ?_⟩
                rw [hp_f29_0, hp_a30, nI_clamp (by omega), q4]
                refine ⟨vp_in_nI hb8 (by omega), br_n1 (nI_ne0 (by omega) (by omega)) ?_⟩
                rw [hp_f29_0, hp_a30, nI_clamp (by omega), p4, hp_f29_0, hp_a30, nI_clamp (by omega), q4]
                refine ⟨vp_in_nI ha8 (by omega), vp_in_nI hb8 (by omega), ?_⟩
                refine br_t (elm.mpr hl) ?_
                by_cases h1 : i.toInt < 0
                · refine br_t (by rw [i32_lt]; omega) ?_
                  rw [hp_v29, S_m_finds.iffi]
                  exact ⟨rfl, rfl⟩
                refine br_f (by rw [i32_lt]; omega) ?_
                by_cases h2 : j.toInt < 0
                · refine br_t (by rw [i32_lt]; omega) ?_
                  rw [hp_v29, S_m_finds.iffi]
                  exact ⟨rfl, rfl⟩
                refine br_f (by rw [i32_lt]; omega) ?_
                by_cases h3 : n.toInt < 0
                · refine br_t (by rw [i32_lt]; omega) ?_
                  rw [hp_v29, S_m_finds.iffi]
                  exact ⟨rfl, rfl⟩
                refine br_f (by rw [i32_lt]; omega) ?_
                rw [hp_f29_1, hp_a31, nI_clamp (by omega), p6]
                refine ⟨vp_in_nI ha8 (by omega), ?_⟩
                rw [lg_cmp_gt, Int64.lt_iff_toInt_lt, i64_add, i64_of, i32_nI (n := na) (by omega)]
                by_cases h4 : (na : Int) < i.toInt + n.toInt
                · refine br_t h4 ?_
                  rw [hp_v29, S_m_finds.iffi]
                  exact ⟨rfl, rfl⟩
                refine br_f h4 ?_
                rw [hp_f29_1, hp_a31, nI_clamp (by omega), q6]
                refine ⟨vp_in_nI hb8 (by omega), br_f ?_ ?_⟩
                · rw [lg_cmp_le, Int64.le_iff_toInt_le, i64_add, i64_of, i32_nI (n := nb) (by omega)]
                  omega
                rw [hp_v29, S_m_finds.iffi]
                exact ⟨rfl, rfl⟩
          · refine ⟨-1000010 - 5, ms x 0 0 5, ms m 14 0 5, ⟨E_x_copy ?_, E_m_copy ?_⟩, hR.st 5, KS.st 5⟩
            · rw [S_x_isSheet.iffi]
              refine br_f (bI_t ha) ?_
              rw [S_x_isSheet.iffi]
              refine br_n1 (bI_t hb) ?_
              rw [hp_f0_0, hp_ra1, nI_clamp (by omega), hp_f0_0, hp_ra1, nI_clamp (by omega)]
              refine ⟨vp_in_nI ha8 (by omega), vp_in_nI hb8 (by omega), ?_⟩
              rw [hp_sfI1 ha8, p1]
              refine br_n2 rfl ?_
              rw [hp_sfI1 hb8, q1]
              refine br_t rfl ?_
              rw [hp_sfI2 ha8, hp_sfI2 hb8, p3, q3]
              refine br_f (fun q => hl (elx.mp q)) ?_
              rw [hp_v0, S_x_found.iffi]
              exact ⟨rfl, rfl⟩
            · rw [S_m_isSheet.iffi]
              refine br_f (bI_t ha) ?_
              rw [S_m_isSheet.iffi]
              refine br_n1 (bI_t hb) ?_
              rw [hp_f29_0, hp_a30, nI_clamp (by omega), p4]
              refine ⟨vp_in_nI ha8 (by omega), br_f (nI_ne0 (by omega) (by omega)) ?_⟩
              rw [hp_f29_0, hp_a30, nI_clamp (by omega), q4]
              refine ⟨vp_in_nI hb8 (by omega), br_n1 (nI_ne0 (by omega) (by omega)) ?_⟩
              rw [hp_f29_0, hp_a30, nI_clamp (by omega), p4, hp_f29_0, hp_a30, nI_clamp (by omega), q4]
              refine ⟨vp_in_nI ha8 (by omega), vp_in_nI hb8 (by omega), ?_⟩
              refine br_f (fun q => hl (elm.mp q)) ?_
              rw [hp_v29, S_m_finds.iffi]
              exact ⟨rfl, rfl⟩
    · refine ⟨-1000001, x, m, ⟨E_x_copy ?_, E_m_copy ?_⟩, hR, KS.rf hT⟩
      · rw [S_x_isSheet.iffi]
        refine br_f (bI_t ha) ?_
        rw [S_x_isSheet.iffi]
        exact br_n2 (bI_f hb) ⟨rfl, rfl⟩
      · rw [S_m_isSheet.iffi]
        refine br_f (bI_t ha) ?_
        rw [S_m_isSheet.iffi]
        exact br_n2 (bI_f hb) ⟨rfl, rfl⟩
  · refine ⟨-1000001, x, m, ⟨E_x_copy ?_, E_m_copy ?_⟩, hR, KS.rf hT⟩
    · rw [S_x_isSheet.iffi]
      exact br_t (bI_f ha) ⟨rfl, rfl⟩
    · rw [S_m_isSheet.iffi]
      exact br_t (bI_f ha) ⟨rfl, rfl⟩
end COPY
