/-! the reference: the first order, the next one -/
theorem nI_m1 (k : Nat) : nI k + (-1) = nI k - 1 := (Int32.sub_eq_add_neg _ _).symm
theorem mth.up {m : Nat → Nat → Int32} {n i v : Nat} {g : Nat → Nat} (h : mth m 10 n g) (hi : i < n) (hv : v ≤ 200) : mth (ms m 6 (160 + i) (nI v)) 10 n (upN g i v) := by
  obtain ⟨h1, h2, h3, h4⟩ := h
  refine ⟨h1, h2, by rw [ms_ne (by decide)]; exact h3, fun k hk => ?_⟩
  rw [ms_same]
  unfold upN
  by_cases hki : k = i
  · rw [if_pos hki, hki]
    exact ⟨pk_us, hv⟩
  · rw [if_neg hki, pk_un (by omega)]
    exact h4 k hk
theorem mth.eqv {m : Nat → Nat → Int32} {t n : Nat} {g g' : Nat → Nat} (h : mth m t n g) (e : ∀ i, i < n → g' i = g i) : mth m t n g' :=
  ⟨h.1, h.2.1, h.2.2.1, fun i hi => by rw [e i hi]; exact h.2.2.2 i hi⟩
section MNEXT
variable {X : lk_X} {d : Nat} {x : Nat → Nat → Int32} {S L : Nat → Option Nat} {m : Nat → Nat → Int32} {dyn : lk_H}
theorem S_m_at2 {n k : Nat} {g : Nat → Nat} (hm : mth m 10 n g) (hk : k < n) : lk_ev X (d + 1) 122 [.ref 29, .int 10, .int (nI k)] (hp x S L m dyn) (some (.int (nI (g k)))) (hp x S L m dyn) := S_m_at1 hm hk
theorem m_next_i {n : Nat} {g : Nat → Nat} (hm : mth m 10 n g) {Q : Option Value → lk_H → Prop} : ∀ k : Nat, k ≤ n - 1 → (fi g k = none → Q (some (.int 0)) (hp x S L m dyn)) → (∀ i, fi g k = some i → lk_wp X (d + 2) 143 51 [.ref 29, .int (nI n), .int (nI i), .int (nI n - 1), .retAddr 0, .retAddr 0, .retAddr 0] [] (hp x S L m dyn) Q) → lk_wp X (d + 2) 143 12 [.ref 29, .int (nI n), .int (nI k - 1), .retAddr 0, .retAddr 0, .retAddr 0, .retAddr 0] [] (hp x S L m dyn) Q := by
  have h16 := hm.2.1
  intro k
  induction k with
  | zero =>
    intro hk h0 h1
    exact F_m_next_12 (br_t (by decide) (br_f (by decide) (h0 rfl)))
  | succ k ih =>
    intro hk h0 h1
    rw [nI_sub1 (by omega) (by omega), Nat.add_sub_cancel]
    have g1 := (hm.2.2.2 k (by omega)).2
    have g2 := (hm.2.2.2 (k + 1) (by omega)).2
    have hpos : ¬ nI k < 0 := by
      rw [i32_lt, i32_nI (by omega), show (0 : Int32).toInt = 0 from rfl]
      omega
    have hpos2 : 0 ≤ nI k := by
      rw [i32_le, i32_nI (by omega), show (0 : Int32).toInt = 0 from rfl]
      omega
    refine F_m_next_12 (br_f hpos ?_)
    rw [hp_v29, (S_m_at2 hm (show k < n by omega)).iffi, hp_v29, nI_1, (S_m_at2 hm (show k + 1 < n by omega)).iffi, nI_leI (by omega) (by omega), nI_m1]
    by_cases hq : g (k + 1) < g k
    · have e : fi g (k + 1) = fi g k := by rw [fi, if_pos hq]
      rw [e] at h0 h1
      exact br_f (by omega) (ih (by omega) h0 h1)
    · have e : fi g (k + 1) = some k := by rw [fi, if_neg hq]
      exact br_t (by omega) (br_t hpos2 (h1 k e))
theorem m_next_r {n : Nat} (h16 : n ≤ 16) {Q : Option Value → lk_H → Prop} : ∀ (f a b : Nat) (g : Nat → Nat) (m1 : Nat → Nat → Int32), b < n → a ≤ 16 → (a < b → b < a + 2 * f) → mth m1 10 n g → SC m m1 → (∀ m2, SC m m2 → mth m2 10 n (rv f g a b) → Q (some (.int 1)) (hp x S L m2 dyn)) → lk_wp X (d + 2) 143 112 [.ref 29, .retAddr 0, .retAddr 0, .retAddr 0, .retAddr 0, .int (nI a), .int (nI b)] [] (hp x S L m1 dyn) Q := by
  intro f
  induction f with
  | zero =>
    intro a b g m1 hb ha hf hm hs hQ
    exact F_m_next_112 (br_t (nI_le (by omega) (by omega)) (hQ m1 hs hm))
  | succ f ih =>
    intro a b g m1 hb ha hf hm hs hQ
    by_cases hab : a < b
    · have ga := (hm.2.2.2 a (by omega)).2
      have gb := (hm.2.2.2 b hb).2
      refine F_m_next_112 (br_f (nI_ge hab (by omega)) ?_)
      rw [hp_v29, (S_m_at2 hm (show a < n by omega)).iffi, hp_v29, (S_m_at2 hm hb).iffi, hp_v29, (S_m_make (show a < 16 by omega)).iffv, hp_v29, (S_m_make (show b < 16 by omega)).iffv, nI_1, nI_m1, nI_sub1 (by omega) (by omega)]
      rw [rv, if_pos hab] at hQ
      exact ih (a + 1) (b - 1) _ _ (by omega) (by omega) (by omega) ((hm.up (by omega) gb).up hb ga) ((hs.m6 (by omega)).m6 (by omega)) hQ
    · rw [rv, if_neg hab] at hQ
      exact F_m_next_112 (br_t (nI_le (by omega) (by omega)) (hQ m1 hs hm))
theorem m_next_j {n i : Nat} {g : Nat → Nat} {m1 : Nat → Nat → Int32} (hm : mth m1 10 n g) (hs : SC m m1) (hi : i + 1 < n) (hle : ¬ g (i + 1) < g i) {Q : Option Value → lk_H → Prop} : ∀ j : Nat, i < j → j < n → (∀ m2, SC m m2 → mth m2 10 n (rv 8 (upN (upN g i (g (fj g (g i) j))) (fj g (g i) j) (g i)) (i + 1) (n - 1)) → Q (some (.int 1)) (hp x S L m2 dyn)) → lk_wp X (d + 2) 143 51 [.ref 29, .int (nI n), .int (nI i), .int (nI j), .retAddr 0, .retAddr 0, .retAddr 0] [] (hp x S L m1 dyn) Q := by
  have h16 := hm.2.1
  have gi := (hm.2.2.2 i (by omega)).2
  intro j
  induction j with
  | zero => intro h; omega
  | succ j ih =>
    intro hij hjn hQ
    have gj := (hm.2.2.2 (j + 1) hjn).2
    refine F_m_next_51 ?_
    rw [hp_v29, (S_m_at2 hm hjn).iffi, hp_v29, (S_m_at2 hm (show i < n by omega)).iffi, nI_leI (by omega) (by omega)]
    by_cases hq : g (j + 1) < g i
    · rw [fj, if_pos hq] at hQ
      refine br_f (by omega) ?_
      rw [nI_m1, nI_sub1 (by omega) (by omega), Nat.add_sub_cancel]
      refine ih ?_ (by omega) hQ
      apply Classical.byContradiction
      intro w
      rw [show j = i by omega] at hq
      exact hle hq
    · rw [fj, if_neg hq] at hQ
      refine br_t (by omega) ?_
      rw [hp_v29, (S_m_at2 hm (show i < n by omega)).iffi, hp_v29, (S_m_at2 hm hjn).iffi, hp_v29, (S_m_make (show i < 16 by omega)).iffv, hp_v29, (S_m_make (show j + 1 < 16 by omega)).iffv, nI_1, nI_sub1 (by omega) (by omega)]
      exact m_next_r h16 8 (i + 1) (n - 1) _ _ (by omega) (by omega) (by omega) ((hm.up (by omega) gj).up hjn gi) ((hs.m6 (by omega)).m6 (by omega)) hQ
theorem S_m_next {n : Nat} {g : Nat → Nat} {m1 : Nat → Nat → Int32} (h1 : 1 ≤ n) (hm : mth m1 10 n g) (hs : SC m m1) : (fi g (n - 1) = none → lk_ev X (d + 2) 143 [.ref 29] (hp x S L m1 dyn) (some (.int 0)) (hp x S L m1 dyn)) ∧ ∀ i, fi g (n - 1) = some i → ∃ m2, lk_ev X (d + 2) 143 [.ref 29] (hp x S L m1 dyn) (some (.int 1)) (hp x S L m2 dyn) ∧ SC m m2 ∧ mth m2 10 n (nxG n g i) := by
  have h16 := hm.2.1
  have e2 : nI n - 2 = nI (n - 1) - 1 := by
    rw [i32_eq, show (2 : Int32) = nI 2 from rfl, show (1 : Int32) = nI 1 from rfl, pk_sub_toInt (by omega) (by omega), pk_sub_toInt (by omega) (by omega)]
    omega
  refine ⟨fun h => ?_, fun i h => ?_⟩
  · refine E_m_next ?_
    rw [hp_f29_5, hp_a35]
    refine ⟨vp_in_nI (n := 10) (by omega) (by omega), ?_⟩
    rw [show (10 : Int32).toNatClampNeg = 10 from rfl, hm.2.2.1, e2]
    exact m_next_i hm (n - 1) (Nat.le_refl _) (fun _ => ⟨rfl, rfl⟩) (fun i w => by rw [h] at w; cases w)
  · have hi := fi_lt h
    have main : lk_wx X (d + 2) 143 [.ref 29] (hp x S L m1 dyn) (fun v h' => ∃ m2, v = some (.int 1) ∧ h' = hp x S L m2 dyn ∧ SC m m2 ∧ mth m2 10 n (nxG n g i)) := by
      refine E_m_next ?_
      rw [hp_f29_5, hp_a35]
      refine ⟨vp_in_nI (n := 10) (by omega) (by omega), ?_⟩
      rw [show (10 : Int32).toNatClampNeg = 10 from rfl, hm.2.2.1, e2]
      refine m_next_i hm (n - 1) (Nat.le_refl _) (fun w => by rw [h] at w; cases w) (fun i' w => ?_)
      rw [h] at w
      cases w
      rw [nI_sub1 h1 (by omega)]
      exact m_next_j hm hs (by omega) hi.2 (n - 1) hi.1 (by omega) (fun m2 a1 a2 => ⟨m2, rfl, rfl, a1, a2⟩)
    obtain ⟨v, h', ev, m2, rfl, rfl, a1, a2⟩ := main.ex
    exact ⟨m2, ev, a1, a2⟩
theorem m_first_loop {n : Nat} (h16 : n ≤ 16) {Q : Option Value → lk_H → Prop} (hQ : ∀ m1, MD m m1 (fun k => k) n → m1 5 10 = nI n → Q none (hp x S L m1 dyn)) : ∀ (u j : Nat) (m1 : Nat → Nat → Int32), n - j = u → j ≤ n → MD m m1 (fun k => k) j → m1 5 10 = nI n → lk_wp X (d + 2) 142 10 [.ref 29, .int (nI n), .int (nI j)] [] (hp x S L m1 dyn) Q := by
  intro u
  induction u with
  | zero =>
    intro j m1 hu hj hM h5
    rw [show j = n by omega] at hM
    exact F_m_first_10 (br_t (nI_le (by omega) (by omega)) (hQ m1 hM h5))
  | succ u ih =>
    intro j m1 hu hj hM h5
    refine F_m_first_10 (br_f (nI_ge (by omega) (by omega)) ?_)
    rw [hp_v29, (S_m_make (show j < 16 by omega)).iffv, nI_1]
    exact ih (j + 1) _ (by omega) (by omega) hM.go (by rw [ms_ne (by decide)]; exact h5)
theorem S_m_first {n : Nat} (h1 : 1 ≤ n) (h7 : n ≤ 7) : ∃ m1, lk_ev X (d + 2) 142 [.ref 29, .int (nI n)] (hp x S L m dyn) none (hp x S L m1 dyn) ∧ SC m m1 ∧ mth m1 10 n (gl (unk n 0)) := by
  have main : lk_wx X (d + 2) 142 [.ref 29, .int (nI n)] (hp x S L m dyn) (fun v h' => ∃ m1, v = none ∧ h' = hp x S L m1 dyn ∧ SC m m1 ∧ mth m1 10 n (gl (unk n 0))) := by
    refine E_m_first ?_
    rw [hp_f29_5, hp_w35]
    refine ⟨vp_in_nI (n := 10) (by omega) (by omega), ?_⟩
    refine m_first_loop (j := 0) (by omega) (fun m1 hM h5 => ⟨m1, rfl, rfl, hM.1, ?_⟩) n _ rfl (Nat.zero_le _) ⟨SC.rf.m5, fun i hi => by omega⟩ (by rw [ms_same]; exact pk_us)
    refine ⟨by decide, by omega, h5, fun i hi => ?_⟩
    rw [unk_0 n (by omega) i hi]
    exact ⟨hM.2 i hi, by omega⟩
  obtain ⟨v, h', ev, m1, rfl, rfl, a1, a2⟩ := main.ex
  exact ⟨m1, ev, a1, a2⟩
theorem S_m_findAlike2 {n : Nat} {g : Nat → Nat} (hm : mth m 10 n g) : lk_ev X (d + 3) 124 [.ref 29, .int 10, .int 1] (hp x S L m dyn) (some (.int (bI ((alk true n g).isSome = true)))) (hp x S L (fA m (alk true n g)) dyn) := S_m_findAlike (o := true) hm
/-- both ways on from an order: the next one, or none -/
theorem m_on {n j : Nat} {m1 : Nat → Nat → Int32} (h1 : 1 ≤ n) (h7 : n ≤ 7) (hj : j < fct n) (hm : mth m1 10 n (gl (unk n j))) (hs : SC m m1) : (fct n = j + 1 ∧ lk_ev X (d + 2) 143 [.ref 29] (hp x S L m1 dyn) (some (.int 0)) (hp x S L m1 dyn)) ∨ (j + 1 < fct n ∧ ∃ m2, lk_ev X (d + 2) 143 [.ref 29] (hp x S L m1 dyn) (some (.int 1)) (hp x S L m2 dyn) ∧ SC m m2 ∧ mth m2 10 n (gl (unk n (j + 1)))) := by
  have hn := S_m_next (X := X) (d := d) (x := x) (S := S) (L := L) (dyn := dyn) h1 hm hs
  rcases nx_step h1 h7 hj with ⟨q1, q2⟩ | ⟨i, q1, q2, q3⟩
  · exact Or.inl ⟨q2, hn.1 q1⟩
  · obtain ⟨m2, a1, a2, a3⟩ := hn.2 i q1
    exact Or.inr ⟨q2, m2, a1, a2, a3.eqv (fun k hk => (q3 k hk).symm)⟩
theorem m_nth_loop {p n : Nat} (h1 : 1 ≤ n) (h7 : n ≤ 7) (hp10 : p < 10) {Q : Option Value → lk_H → Prop} (hN : ∀ m1, SC m m1 → Q (some (.int (-1000000))) (hp x S L (ms m1 14 0 0) dyn)) : ∀ (u j l : Nat) (m1 : Nat → Nat → Int32), fct n - j = u + 1 → l < 2 ^ 31 → SC m m1 → mth m1 10 n (gl (unk n j)) → (∀ w m2, (rem n j (u + 1))[l]? = some w → SC m m2 → mth m2 10 n (gl w) → lk_wxi X (d + 4) 127 [.ref 29, .int (nI p), .int 1] (hp x S L m2 dyn) (fun r h => Q (some (.int r)) h)) → ((rem n j (u + 1))[l]? = none ∨ ∃ w, (rem n j (u + 1))[l]? = some w) → lk_wp X (d + 5) 144 41 [.ref 29, .int (nI p), .retAddr 0, .retAddr 0, .int (nI l), .int 1] [] (hp x S L m1 dyn) Q := by
  intro u
  induction u with
  | zero =>
    intro j l m1 hu hl hs hm hK hW
    have hj : j < fct n := by omega
    have ho := unk_or h1 h7 j hj
    refine F_m_nth_41 (br_f (by decide) ?_)
    rw [hp_v29, (S_m_findAlike2 hm).iffi]
    have hm2 : mth (fA m1 (alk true n (gl (unk n j)))) 10 n (gl (unk n j)) := hm.congr (fA_ne (by decide)) (fA_ne (by decide))
    have fin : ∀ l', lk_vc (hp x S L (fA m1 (alk true n (gl (unk n j)))) dyn) 29 [(11, 143)] (fun k8 => lk_wxi X (d + 4) k8 [.ref 29] (hp x S L (fA m1 (alk true n (gl (unk n j)))) dyn) (fun r7 h6 => lk_wp X (d + 5) 144 41 [.ref 29, .int (nI p), .retAddr 0, .retAddr 0, .int l', .int r7] [] h6 Q)) := by
      intro l'
      rcases m_on (X := X) (d := d + 2) (x := x) (S := S) (L := L) (dyn := dyn) h1 h7 hj hm2 hs.fA with ⟨-, ev⟩ | ⟨q, -⟩
      · rw [hp_v29, ev.iffi]
        refine F_m_nth_41 (br_t rfl ?_)
        rw [hp_v29, S_m_well.iffi]
        exact hN _ hs.fA
      · omega
    by_cases ha : (alk true n (gl (unk n j))).isSome = true
    · exact br_n1 (bI_t ha) (fin _)
    · refine br_n2 (bI_f ha) ?_
      have hf : lonF n (unk n j) = true := (lonF_eq ho).mpr (by
        cases hq : alk true n (gl (unk n j)) with
        | none => rfl
        | some v => rw [hq] at ha; exact absurd rfl ha)
      by_cases h0 : l = 0
      · subst h0
        refine br_n2 rfl ?_
        rw [hp_v29]
        refine hK (unk n j) _ ?_ hs.fA hm2
        rw [rem_succ, if_pos hf]
        rfl
      · refine br_n1 (fun w => h0 ((nI_eq (b := 0) hl (by omega)).mp w)) (fin _)
  | succ u ih =>
    intro j l m1 hu hl hs hm hK hW
    have hj : j < fct n := by omega
    have ho := unk_or h1 h7 j hj
    refine F_m_nth_41 (br_f (by decide) ?_)
    rw [hp_v29, (S_m_findAlike2 hm).iffi]
    have hm2 : mth (fA m1 (alk true n (gl (unk n j)))) 10 n (gl (unk n j)) := hm.congr (fA_ne (by decide)) (fA_ne (by decide))
    have fin : ∀ l', l' < 2 ^ 31 → (∀ w m2, (rem n (j + 1) (u + 1))[l']? = some w → SC m m2 → mth m2 10 n (gl w) → lk_wxi X (d + 4) 127 [.ref 29, .int (nI p), .int 1] (hp x S L m2 dyn) (fun r h => Q (some (.int r)) h)) → lk_vc (hp x S L (fA m1 (alk true n (gl (unk n j)))) dyn) 29 [(11, 143)] (fun k8 => lk_wxi X (d + 4) k8 [.ref 29] (hp x S L (fA m1 (alk true n (gl (unk n j)))) dyn) (fun r7 h6 => lk_wp X (d + 5) 144 41 [.ref 29, .int (nI p), .retAddr 0, .retAddr 0, .int (nI l'), .int r7] [] h6 Q)) := by
      intro l' hl' hK'
      rcases m_on (X := X) (d := d + 2) (x := x) (S := S) (L := L) (dyn := dyn) h1 h7 hj hm2 hs.fA with ⟨q, -⟩ | ⟨q, m3, ev, a1, a2⟩
      · omega
      · rw [hp_v29, ev.iffi]
        refine ih (j + 1) l' m3 (by omega) hl' a1 a2 hK' ?_
        cases (rem n (j + 1) (u + 1))[l']? with
        | none => exact Or.inl rfl
        | some w => exact Or.inr ⟨w, rfl⟩
    by_cases ha : (alk true n (gl (unk n j))).isSome = true
    · refine br_n1 (bI_t ha) (fin l hl ?_)
      have hf : ¬ lonF n (unk n j) = true := fun w => by
        rw [(lonF_eq ho).mp w] at ha
        cases ha
      rw [rem_succ, if_neg hf] at hK
      exact hK
    · refine br_n2 (bI_f ha) ?_
      have hf : lonF n (unk n j) = true := (lonF_eq ho).mpr (by
        cases hq : alk true n (gl (unk n j)) with
        | none => rfl
        | some v => rw [hq] at ha; exact absurd rfl ha)
      rw [rem_succ, if_pos hf] at hK
      by_cases h0 : l = 0
      · subst h0
        refine br_n2 rfl ?_
        rw [hp_v29]
        exact hK (unk n j) _ rfl hs.fA hm2
      · refine br_n1 (fun w => h0 ((nI_eq (b := 0) hl (by omega)).mp w)) ?_
        obtain ⟨l', rfl⟩ : ∃ l', l = l' + 1 := ⟨l - 1, by omega⟩
        have e : nI (l' + 1) + (-1) = nI l' := by
          rw [nI_m1, ← nI_1, Int32.add_sub_cancel]
        rw [e]
        exact fin l' (by omega) hK
end MNEXT
