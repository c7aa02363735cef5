/-! echo: the reference, and both tied -/
theorem i64_sub (a b : Int32) : (a.toInt64 - b.toInt64).toInt = a.toInt - b.toInt := by
  have h1 := Int32.le_toInt a
  have h2 := Int32.toInt_lt a
  have h3 := Int32.le_toInt b
  have h4 := Int32.toInt_lt b
  rw [Int64.toInt_sub, i64_of, i64_of]
  apply Int.bmod_eq_of_le <;> omega
theorem i64_sub1 (a : Int32) : (a.toInt64 - 1).toInt = a.toInt - 1 := i64_sub a 1
theorem i64_add2 (a b : Int32) : (a.toInt64 + 2 * b.toInt64).toInt = a.toInt + 2 * b.toInt := by
  have h1 := Int32.le_toInt a
  have h2 := Int32.toInt_lt a
  have h3 := Int32.le_toInt b
  have h4 := Int32.toInt_lt b
  have e : (2 * b.toInt64).toInt = 2 * b.toInt := by
    rw [Int64.toInt_mul, i64_of, show (2 : Int64).toInt = 2 from rfl]
    apply Int.bmod_eq_of_le <;> omega
  rw [Int64.toInt_add, i64_of, e]
  apply Int.bmod_eq_of_le <;> omega
theorem i64_nar {a : Int64} {k : Nat} (h : a.toInt = k) (hk : k ≤ 1000) : a.toInt32 = nI k := by
  rw [i32_eq, Int64.toInt_toInt32, h, i32_nI (by omega)]
  apply Int.bmod_eq_of_le <;> omega
section ECHO3
variable {X : lk_X} {d : Nat} {x : Nat → Nat → Int32} {S L : Nat → Option Nat} {m : Nat → Nat → Int32} {dyn : lk_H}
theorem m_echo_j {p N k i n r s : Nat} {g : Nat → Nat} {x5 x7 x8 x9 : Int32} (hm : mth m p N g) (hk : k < 8) (hi : i + 2 * n ≤ 60) (hn : n ≤ 30) (hr : r < 21) (hs : s < 21) {Q : Option Value → lk_H → Prop} : ∀ (u j c : Nat), n - j = u → j ≤ n → (lk_wp X (d + 2) 163 140 [.ref 29, .int (nI p), .int (nI k), .int (nI i), .int (nI n), .int x5, .retAddr 0, .int x7, .int x8, .int x9, .int (nI r), .int (nI s), .int (nI (c + cn (fun j => ef N g (m 2 (60 * k + (i + 2 * j))).toInt (m 2 (60 * k + (i + 2 * j + 1))).toInt r s) j u)), .int (nI n), .retAddr 0, .retAddr 0, .retAddr 0, .retAddr 0] [] (hp x S L m dyn) Q) → lk_wp X (d + 2) 163 140 [.ref 29, .int (nI p), .int (nI k), .int (nI i), .int (nI n), .int x5, .retAddr 0, .int x7, .int x8, .int x9, .int (nI r), .int (nI s), .int (nI c), .int (nI j), .retAddr 0, .retAddr 0, .retAddr 0, .retAddr 0] [] (hp x S L m dyn) Q := by
  have hN := hm.2.1
  have hp10 := hm.1
  have e00 : (0 : Int64).toInt = 0 := rfl
  intro u
  induction u with
  | zero =>
    intro j c hu hj h
    rw [show j = n by omega]
    rw [cn, Nat.add_zero] at h
    exact h
  | succ u ih =>
    intro j c hu hj h
    have hjn : j < n := by omega
    refine F_m_echo_140 (br_f (nI_ge hjn (by omega)) ?_)
    have e1 : 60 * nI k + nI i + 2 * nI j = nI (60 * k + (i + 2 * j)) := by rw [show (60 : Int32) = nI 60 from rfl, show (2 : Int32) = nI 2 from rfl, pk_mul, pk_mul, nI_add, nI_add, Nat.add_assoc]
    rw [e1, nI_1, hp_f29_2, hp_a32, nI_clamp (by omega), hp_f29_2, hp_a32, nI_clamp (by omega), hp_f29_5, hp_a35, nI_clamp (by omega), hm.2.2.1]
    refine ⟨vp_in_nI (by omega) (by omega), vp_in_nI (by omega) (by omega), vp_in_nI (by omega) (by omega), ?_⟩
    rw [S_m_in.iffi, i64_sub, i64_sub1, i32_nI (n := N) (by omega), i32_nI (n := r) (by omega), nI_1, nI_1, show nI c + 0 = nI c from nI_add c 0, show 60 * k + (i + 2 * j) + 1 = 60 * k + (i + 2 * j + 1) by omega]
    have step : ∀ b : Bool, ef N g (m 2 (60 * k + (i + 2 * j))).toInt (m 2 (60 * k + (i + 2 * j + 1))).toInt r s = b → lk_wp X (d + 2) 163 140 [.ref 29, .int (nI p), .int (nI k), .int (nI i), .int (nI n), .int x5, .retAddr 0, .int x7, .int x8, .int x9, .int (nI r), .int (nI s), .int (nI (c + if b = true then 1 else 0)), .int (nI (j + 1)), .retAddr 0, .retAddr 0, .retAddr 0, .retAddr 0] [] (hp x S L m dyn) Q := by
      intro b hb
      refine ih (j + 1) _ (by omega) (by omega) ?_
      rw [cn, hb, ← Nat.add_assoc] at h
      exact h
    by_cases h1 : (0 : Int64).toInt ≤ (m 2 (60 * k + (i + 2 * j))).toInt - r ∧ (m 2 (60 * k + (i + 2 * j))).toInt - r ≤ (N : Int) - 1
    · refine br_f (bI_t h1) ?_
      obtain ⟨q, hq⟩ : ∃ q : Nat, (m 2 (60 * k + (i + 2 * j))).toInt - r = q := ⟨((m 2 (60 * k + (i + 2 * j))).toInt - r).toNat, by omega⟩
      have hqN : q < N := by omega
      have hgq := (hm.2.2.2 q hqN).2
      rw [i64_nar (k := q) (by rw [i64_sub, i32_nI (by omega)]; exact hq) (by omega), hp_v29, (S_m_at1 hm hqN).iffi]
      have eq : lg_cmp (nI (g q)).toInt64 ((m 2 (60 * k + (i + 2 * j + 1))).toInt64 - (nI s).toInt64) = 0 ↔ ef N g (m 2 (60 * k + (i + 2 * j))).toInt (m 2 (60 * k + (i + 2 * j + 1))).toInt r s = true := by
        rw [lg_cmp_eq, ← Int64.toInt_inj, i64_of, i64_sub, i32_nI (by omega), i32_nI (by omega)]
        unfold ef
        rw [decide_eq_true_iff, hq, Int.toNat_natCast]
        omega
      rw [eq]
      refine ⟨fun w => ?_, fun w => ?_⟩
      · have := step false (Bool.not_eq_true _ ▸ w)
        exact this
      · have := step true w
        exact this
    · refine br_t (bI_f h1) ?_
      have := step false (by
        rw [← Bool.not_eq_true]
        unfold ef
        rw [decide_eq_true_iff]
        omega)
      exact this
/-- what the reference remembers after t moves -/
def ME (F : Nat → Nat) (t : Nat) (x7 x8 x9 : Int32) : Prop := (t = 0 ∧ x7 = -1 ∧ x8 = 0 ∧ x9 = 0) ∨ (1 ≤ t ∧ x7 = nI (F (fb F t)) ∧ x8 = nI (fb F t / 21) ∧ x9 = nI (fb F t % 21))
theorem m_echo_s {p N k i n r : Nat} {g : Nat → Nat} {x5 : Int32} {F : Nat → Nat} (hm : mth m p N g) (hk : k < 8) (hi : i + 2 * n ≤ 60) (hn : n ≤ 30) (hr : r < 21) (hF : F = fitF N g (fun j => m 2 (60 * k + (i + 2 * j))) (fun j => m 2 (60 * k + (i + 2 * j + 1))) n) {Q : Option Value → lk_H → Prop} : ∀ (u s : Nat) (x7 x8 x9 : Int32), 21 - s = u → s ≤ 21 → ME F (21 * r + s) x7 x8 x9 → (∀ x7 x8 x9, ME F (21 * (r + 1)) x7 x8 x9 → lk_wp X (d + 2) 163 117 [.ref 29, .int (nI p), .int (nI k), .int (nI i), .int (nI n), .int x5, .retAddr 0, .int x7, .int x8, .int x9, .int (nI (r + 1)), .retAddr 0, .retAddr 0, .retAddr 0, .retAddr 0, .retAddr 0, .retAddr 0, .retAddr 0] [] (hp x S L m dyn) Q) → lk_wp X (d + 2) 163 127 [.ref 29, .int (nI p), .int (nI k), .int (nI i), .int (nI n), .int x5, .retAddr 0, .int x7, .int x8, .int x9, .int (nI r), .int (nI s), .retAddr 0, .retAddr 0, .retAddr 0, .retAddr 0, .retAddr 0, .retAddr 0] [] (hp x S L m dyn) Q := by
  have hFle : ∀ t, F t ≤ 30 := fun t => by rw [hF]; exact Nat.le_trans fitF_le hn
  intro u
  induction u with
  | zero =>
    intro s x7 x8 x9 hu hs hM hQ
    refine F_m_echo_127 (br_t (nI_le (a := 21) (by omega) (by omega)) ?_)
    rw [nI_1]
    refine hQ _ _ _ ?_
    rw [show 21 * (r + 1) = 21 * r + s by omega]
    exact hM
  | succ u ih =>
    intro s x7 x8 x9 hu hs hM hQ
    refine F_m_echo_127 (br_f (nI_ge (b := 21) (by omega) (by omega)) ?_)
    refine m_echo_j (j := 0) (c := 0) hm hk hi hn hr (by omega) n rfl (Nat.zero_le _) ?_
    have ec : 0 + cn (fun j => ef N g (m 2 (60 * k + (i + 2 * j))).toInt (m 2 (60 * k + (i + 2 * j + 1))).toInt r s) 0 n = F (21 * r + s) := by
      rw [hF, Nat.zero_add]
      unfold fitF
      rw [d21 (by omega), m21 (by omega)]
    rw [ec]
    have f1 := hFle (21 * r + s)
    refine F_m_echo_140 (br_t (nI_le (Nat.le_refl _) (by omega)) ?_)
    rw [nI_1]
    have e5 : 21 * r + (s + 1) = 21 * r + s + 1 := by omega
    rcases hM with ⟨t0, rfl, rfl, rfl⟩ | ⟨t1, rfl, rfl, rfl⟩
    · have hr0 : r = 0 := by omega
      have hs0 : s = 0 := by omega
      subst hr0
      subst hs0
      refine br_f (by rw [i32_le, i32_nI (by omega), show (-1 : Int32).toInt = -1 from rfl]; omega) ?_
      refine ih 1 _ _ _ (by omega) (by omega) (Or.inr ⟨by omega, ?_, ?_, ?_⟩) hQ
      · rw [show fb F (21 * 0 + 1) = 0 from by show fb F (0 + 1) = 0; rw [fb_s, show fb F 0 = 0 from rfl, if_neg (Nat.lt_irrefl _)]]
      · rw [show fb F (21 * 0 + 1) = 0 from by show fb F (0 + 1) = 0; rw [fb_s, show fb F 0 = 0 from rfl, if_neg (Nat.lt_irrefl _)]]
      · rw [show fb F (21 * 0 + 1) = 0 from by show fb F (0 + 1) = 0; rw [fb_s, show fb F 0 = 0 from rfl, if_neg (Nat.lt_irrefl _)]]
    · have f2 := hFle (fb F (21 * r + s))
      rw [nI_leI (by omega) (by omega)]
      refine ⟨fun q => ih (s + 1) _ _ _ (by omega) (by omega) (Or.inr ⟨by omega, ?_, ?_, ?_⟩) hQ, fun q => ih (s + 1) _ _ _ (by omega) (by omega) (Or.inr ⟨by omega, ?_, ?_, ?_⟩) hQ⟩
      · rw [e5, fb_s, if_neg (by omega)]
      · rw [e5, fb_s, if_neg (by omega)]
      · rw [e5, fb_s, if_neg (by omega)]
      · rw [e5, fb_s, if_pos (by omega)]
      · rw [e5, fb_s, if_pos (by omega), d21 (by omega)]
      · rw [e5, fb_s, if_pos (by omega), m21 (by omega)]
theorem m_echo_r {p N k i n w : Nat} {g : Nat → Nat} {F : Nat → Nat} (hm : mth m p N g) (hk : k < 8) (hi : i + 2 * n ≤ 60) (hn : n ≤ 30) (hw : w < 3) (hF : F = fitF N g (fun j => m 2 (60 * k + (i + 2 * j))) (fun j => m 2 (60 * k + (i + 2 * j + 1))) n) {Q : Option Value → lk_H → Prop} : ∀ (u r : Nat) (x7 x8 x9 : Int32), 21 - r = u → r ≤ 21 → ME F (21 * r) x7 x8 x9 → Q (some (.int (nI (ep w F)))) (hp x S L (ms m 14 0 0) dyn) → lk_wp X (d + 2) 163 117 [.ref 29, .int (nI p), .int (nI k), .int (nI i), .int (nI n), .int (nI w), .retAddr 0, .int x7, .int x8, .int x9, .int (nI r), .retAddr 0, .retAddr 0, .retAddr 0, .retAddr 0, .retAddr 0, .retAddr 0, .retAddr 0] [] (hp x S L m dyn) Q := by
  intro u
  induction u with
  | zero =>
    intro r x7 x8 x9 hu hr hM hQ
    refine F_m_echo_117 (br_t (nI_le (a := 21) (by omega) (by omega)) ?_)
    rw [show 21 * r = 441 by omega] at hM
    rcases hM with ⟨t0, -⟩ | ⟨-, rfl, rfl, rfl⟩
    · omega
    · match w, hw, hQ with
      | 0, _, hQ =>
        refine br_n2 rfl ?_
        rw [hp_v29, S_m_well.iffi]
        exact hQ
      | 1, _, hQ =>
        refine br_n1 (by decide) (br_n2 rfl ?_)
        rw [hp_v29, S_m_well.iffi]
        exact hQ
      | 2, _, hQ =>
        refine br_n1 (by decide) (br_n1 (by decide) ?_)
        rw [hp_v29, S_m_well.iffi]
        exact hQ
  | succ u ih =>
    intro r x7 x8 x9 hu hr hM hQ
    refine F_m_echo_117 (br_f (nI_ge (b := 21) (by omega) (by omega)) ?_)
    exact m_echo_s (r := r) (s := 0) hm hk hi hn (by omega) hF 21 _ _ _ rfl (by omega) hM (fun x7 x8 x9 h => ih (r + 1) x7 x8 x9 (by omega) (by omega) h hQ)
theorem S_x_items0 {k : Nat} {i c : Int32} (hk : k < 8) (hx : x (20 + k) 0 = 1) : lk_ev X (d + 2) 99 [.ref 0, .int (nI k), .int i, .int c] (hp x S L m dyn) (some (.int 1)) (hp x S L m dyn) := by
  refine E_x_findingOfItems ?_
  rw [hp_f0_0, hp_ra1, nI_clamp (by omega), hp_sfI1 hk, hx]
  exact ⟨vp_in_nI hk (by omega), br_f (by decide) ⟨rfl, rfl⟩⟩
theorem S_x_items {k n : Nat} {i c : Int32} (hk : k < 8) (hn : n ≤ 60) (hx : x (20 + k) 0 = 0) (he : x (40 + k) 0 = nI n) : lk_ev X (d + 2) 99 [.ref 0, .int (nI k), .int i, .int c] (hp x S L m dyn) (some (.int (if 0 ≤ i.toInt ∧ 0 ≤ c.toInt ∧ i.toInt + c.toInt ≤ n then 0 else 2))) (hp x S L m dyn) := by
  refine E_x_findingOfItems ?_
  rw [hp_f0_0, hp_ra1, nI_clamp (by omega), hp_sfI1 hk, hx]
  refine ⟨vp_in_nI hk (by omega), br_t rfl ?_⟩
  rw [hp_f0_0, hp_ra1, nI_clamp (by omega), hp_sv hk, (S_s_holds hk hn he).iffi]
  refine ⟨vp_in_nI hk (by omega), ?_⟩
  by_cases h : 0 ≤ i.toInt ∧ 0 ≤ c.toInt ∧ i.toInt + c.toInt ≤ n
  · rw [if_pos h]
    exact br_f (bI_t h) ⟨rfl, rfl⟩
  · rw [if_neg h]
    exact br_t (bI_f h) ⟨rfl, rfl⟩
end ECHO3
