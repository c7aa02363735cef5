/-! sums -/
def gS (p g h : Nat) : Nat → Nat := fun k => xpo h (p + 1 - pw p g (k + 1)) p - 1
def al (f : Nat → Bool) (n : Nat) : Bool := !(an (fun i => !(f i)) 0 n)
theorem al_get {f : Nat → Bool} {n i : Nat} (h : al f n = true) (hi : i < n) : f i = true := by
  unfold al at h
  cases hf : f i with
  | true => rfl
  | false =>
    exfalso
    have : an (fun i => !(f i)) 0 n = true := an_iff.mpr ⟨i, Nat.zero_le _, by omega, by rw [hf]; rfl⟩
    rw [this] at h
    cases h
def smB (p g h : Nat) : Bool := al (fun i => (decide (1 ≤ xpo h (p + 1 - pw p g (i + 1)) p) && decide (xpo h (p + 1 - pw p g (i + 1)) p ≤ p - 2)) && al (fun j => decide ((pw p g (i + 1) + pw p h (j + 1)) % p = 1) == decide (j + 1 = xpo h (p + 1 - pw p g (i + 1)) p)) (p - 2)) (p - 2)
def smC (p g h : Nat) : Bool := !(rtB p g) || !(rtB p h) || (smB p g h && orB (p - 2) (gS p g h))
theorem sm_key : ∀ p : Nat, p < 18 → pr3 p = true → 5 ≤ p → al (fun g => al (smC p g) p) p = true := by decide +kernel
theorem sm_get {p g h : Nat} (h1 : p < 18) (h2 : pr3 p = true) (h3 : 5 ≤ p) (h4 : g < p) (h5 : rtB p g = true) (h6 : h < p) (h7 : rtB p h = true) : smB p g h = true ∧ orB (p - 2) (gS p g h) = true := by
  have h8 : smC p g h = true := al_get (f := smC p g) (n := p) (al_get (f := fun g => al (smC p g) p) (n := p) (sm_key p h1 h2 h3) h4) h6
  unfold smC at h8
  rw [h5, h7] at h8
  simp only [Bool.not_true, Bool.false_or, Bool.and_eq_true] at h8
  exact h8
theorem sum_ok (p : Nat) (h1 : p < 18) (h2 : pr3 p = true) (h3 : 5 ≤ p) (g : Nat) (h4 : g < p) (h5 : rtB p g = true) (h : Nat) (h6 : h < p) (h7 : rtB p h = true) (i : Nat) (hi : i < p - 2) : (1 ≤ xpo h (p + 1 - pw p g (i + 1)) p ∧ xpo h (p + 1 - pw p g (i + 1)) p ≤ p - 2) ∧ ∀ j, j < p - 1 → 1 ≤ j → ((pw p g (i + 1) + pw p h j) % p = 1 ↔ j = xpo h (p + 1 - pw p g (i + 1)) p) := by
  have h8 : ((decide (1 ≤ xpo h (p + 1 - pw p g (i + 1)) p) && decide (xpo h (p + 1 - pw p g (i + 1)) p ≤ p - 2)) && al (fun j => decide ((pw p g (i + 1) + pw p h (j + 1)) % p = 1) == decide (j + 1 = xpo h (p + 1 - pw p g (i + 1)) p)) (p - 2)) = true := al_get (sm_get h1 h2 h3 h4 h5 h6 h7).1 hi
  rw [Bool.and_eq_true, Bool.and_eq_true, decide_eq_true_iff, decide_eq_true_iff] at h8
  refine ⟨h8.1, fun j hj hj1 => ?_⟩
  obtain ⟨k, rfl⟩ : ∃ k, j = k + 1 := ⟨j - 1, by omega⟩
  have h9 : (decide ((pw p g (i + 1) + pw p h (k + 1)) % p = 1) == decide (k + 1 = xpo h (p + 1 - pw p g (i + 1)) p)) = true := al_get h8.2 (show k < p - 2 by omega)
  rw [beq_iff_eq, Bool.eq_iff_iff, decide_eq_true_iff, decide_eq_true_iff] at h9
  exact h9
theorem gS_orB (p : Nat) (h1 : p < 18) (h2 : pr3 p = true) (h3 : 5 ≤ p) (g : Nat) (h4 : g < p) (h5 : rtB p g = true) (h : Nat) (h6 : h < p) (h7 : rtB p h = true) : orB (p - 2) (gS p g h) = true := (sm_get h1 h2 h3 h4 h5 h6 h7).2
section SUMS
variable {X : lk_X} {d : Nat} {x : Nat → Nat → Int32} {S L : Nat → Option Nat} {m : Nat → Nat → Int32} {dyn : lk_H}
theorem x_sum_loop {p g q : Nat} (hpr : pr3 p = true) (h5 : 5 ≤ p) (hg : rtB p g = true) (hq : rtB p q = true) {Q : Option Value → lk_H → Prop} (hQ : ∀ f, (∀ i, i < p - 2 → f i = nI (gS p g q i)) → Q (some (.ref (44 + dyn.length))) (hp x S L m (dyn ++ [.inl (0, (p - 2, .inl f))]))) : ∀ (k j : Nat) (f : Nat → Int32), p - 2 - j = k → j ≤ p - 2 → (∀ i, i < j → f i = nI (gS p g q i)) → lk_wp X (d + 2) 110 12 [.int (nI p), .int (nI g), .int (nI q), .ref (44 + dyn.length), .int (nI (pw p g (j + 1))), .int (nI j)] [] (hp x S L m (dyn ++ [.inl (0, (p - 2, .inl f))])) Q := by
  have h17 := pr3_17 hpr
  have hg2 := rtB_lt hg
  have hq2 := rtB_lt hq
  intro k
  induction k with
  | zero =>
    intro j f hk hj hf
    exact F_x_columnsBySums_12 (al_new (br_t (nI_le (by omega) (by omega)) (hQ f (fun i hi => hf i (by omega)))))
  | succ k ih =>
    intro j f hk hj hf
    have hl := pw_lt (p := p) (g := g) (by omega) (j + 1)
    have hok := (sum_ok p (by omega) hpr h5 g hg2.2 hg q hq2.2 hq j (by omega)).1
    have hwb : pw p g (j + 1) * g < 2 ^ 31 := by
      have : pw p g (j + 1) * g ≤ 17 * 17 := Nat.mul_le_mul (by omega) (by omega)
      omega
    refine F_x_columnsBySums_12 (al_new (br_f (nI_ge (by omega) (by omega)) ?_))
    rw [nI_1, nI_sub (by omega) (by omega), (S_x_exponent h17.1 h17.2 hq2.2 (by omega)).iffi, nI_sub1 hok.1 (by omega)]
    refine as_new (by omega) (by omega) ⟨fun e => ?_, ?_⟩
    · have := (nI_eq (a := p) (b := 0) (by omega) (by omega)).mp e
      omega
    · rw [pk_mul, pk_rem hwb (by omega) (by omega), nI_1]
      exact ih (j + 1) _ (by omega) (by omega) (fun i hi => by
        by_cases hij : i = j
        · rw [hij, pk_us]
          rfl
        · rw [pk_un hij]
          exact hf i (by omega))
theorem S_x_sums {p g q : Nat} (hpr : pr3 p = true) (h5 : 5 ≤ p) (hg : rtB p g = true) (hq : rtB p q = true) : ∃ f, lk_ev X (d + 2) 110 [.int (nI p), .int (nI g), .int (nI q)] (hp x S L m dyn) (some (.ref (44 + dyn.length))) (hp x S L m (dyn ++ [.inl (0, (p - 2, .inl f))])) ∧ ∀ i, i < p - 2 → f i = nI (gS p g q i) := by
  have h17 := pr3_17 hpr
  have hg2 := rtB_lt hg
  have main : lk_wx X (d + 2) 110 [.int (nI p), .int (nI g), .int (nI q)] (hp x S L m dyn) (fun v h' => ∃ f, v = some (.ref (44 + dyn.length)) ∧ h' = hp x S L m (dyn ++ [.inl (0, (p - 2, .inl f))]) ∧ ∀ i, i < p - 2 → f i = nI (gS p g q i)) := by
    refine E_x_columnsBySums ?_
    rw [show (2 : Int32) = nI 2 from rfl, nI_sub (by omega) (by omega), nw_nI (by omega), hp_app, nI_clamp (by omega), hp_length]
    have := x_sum_loop (X := X) (d := d) (x := x) (S := S) (L := L) (m := m) (dyn := dyn) (Q := fun v h' => ∃ f, v = some (.ref (44 + dyn.length)) ∧ h' = hp x S L m (dyn ++ [.inl (0, (p - 2, .inl f))]) ∧ ∀ i, i < p - 2 → f i = nI (gS p g q i)) hpr h5 hg hq (fun f hf => ⟨f, rfl, rfl, hf⟩) (p - 2) 0 (fun _ => 0) rfl (Nat.zero_le _) (fun i hi => by omega)
    have e1 : pw p g (0 + 1) = g := by
      show 1 * g % p = g
      rw [Nat.one_mul, Nat.mod_eq_of_lt hg2.2]
    rw [e1] at this
    exact this
  obtain ⟨v, h', ev, f, rfl, rfl, h2⟩ := main.ex
  exact ⟨f, ev, h2⟩
theorem m_sum_j {t p g q i : Nat} (hpr : pr3 p = true) (h5 : 5 ≤ p) (hg : rtB p g = true) (hq : rtB p q = true) (hi : i < p - 2) {Q : Option Value → lk_H → Prop} (hQ : ∀ m1, MD m m1 (gS p g q) (i + 1) → m1 5 10 = nI (p - 2) → lk_wp X (d + 2) 135 52 [.ref 29, .int (nI t), .int (nI p), .int (nI g), .int (nI q), .int (nI (i + 2)), .retAddr 0] [] (hp x S L m1 dyn) Q) : ∀ (u j : Nat) (m1 : Nat → Nat → Int32), p - 1 - j = u → 1 ≤ j → j ≤ p - 1 → MD m m1 (gS p g q) i → (gS p g q i + 1 < j → m1 6 (160 + i) = nI (gS p g q i)) → m1 5 10 = nI (p - 2) → lk_wp X (d + 2) 135 63 [.ref 29, .int (nI t), .int (nI p), .int (nI g), .int (nI q), .int (nI (i + 1)), .int (nI j)] [] (hp x S L m1 dyn) Q := by
  have h17 := pr3_17 hpr
  have hg2 := rtB_lt hg
  have hq2 := rtB_lt hq
  have hok := sum_ok p (by omega) hpr h5 g hg2.2 hg q hq2.2 hq i hi
  have egs : gS p g q i + 1 = xpo q (p + 1 - pw p g (i + 1)) p := by
    unfold gS
    have := hok.1.1
    omega
  intro u
  induction u with
  | zero =>
    intro j m1 hu h1 hj hM hw h5
    refine F_m_sums_63 (br_t (by rw [nI_sub1 (by omega) (by omega)]; exact nI_le (by omega) (by omega)) ?_)
    rw [nI_1]
    refine hQ m1 ⟨hM.1, fun k hk => ?_⟩ h5
    by_cases hki : k = i
    · rw [hki]
      exact hw (by have := hok.1.2; omega)
    · exact hM.2 k (by omega)
  | succ u ih =>
    intro j m1 hu h1 hj hM hw h5
    have hl1 := pw_lt (p := p) (g := g) (by omega) (i + 1)
    have hl2 := pw_lt (p := p) (g := q) (by omega) j
    have hm := Nat.mod_lt (pw p g (i + 1) + pw p q j) (show 0 < p by omega)
    refine F_m_sums_63 (br_f (by rw [nI_sub1 (by omega) (by omega)]; exact nI_ge (by omega) (by omega)) ?_)
    rw [(S_m_power h17.1 h17.2 hg2.2 (by omega)).iffi, (S_m_power h17.1 h17.2 hq2.2 (by omega)).iffi, nI_add, pk_rem (by omega) (by omega) (by omega), nI_1]
    have e1 : (nI ((pw p g (i + 1) + pw p q j) % p) = 1) ↔ j = xpo q (p + 1 - pw p g (i + 1)) p := by
      rw [show (1 : Int32) = nI 1 from rfl, nI_eq (by omega) (by omega)]
      exact hok.2 j (by omega) h1
    rw [e1, ← egs]
    refine ⟨fun w => ?_, fun w => ?_, fun w => ?_⟩
    · have := (nI_eq (a := p) (b := 0) (by omega) (by omega)).mp w
      omega
    · exact ih (j + 1) m1 (by omega) (by omega) (by omega) hM (fun w2 => hw (by omega)) h5
    · rw [nI_sub1 (by omega) (by omega), nI_sub1 (by omega) (by omega), hp_v29, Nat.add_sub_cancel, (S_m_make (show i < 16 by omega)).iffv]
      refine ih (j + 1) _ (by omega) (by omega) (by omega) ⟨hM.1.m6 (by omega), fun k hk => ?_⟩ (fun _ => ?_) (by rw [ms_ne (by decide)]; exact h5)
      · rw [ms_same, pk_un (by omega)]
        exact hM.2 k hk
      · rw [ms_same, pk_us, w, Nat.add_sub_cancel]
theorem m_sum_i {t p g q : Nat} (hpr : pr3 p = true) (h5 : 5 ≤ p) (hg : rtB p g = true) (hq : rtB p q = true) {Q : Option Value → lk_H → Prop} (hQ : ∀ m1, MD m m1 (gS p g q) (p - 2) → m1 5 10 = nI (p - 2) → lk_wxi X (d + 1) 127 [.ref 29, .int (nI t), .int 1] (hp x S L m1 dyn) (fun r h => Q (some (.int r)) h)) : ∀ (u i : Nat) (m1 : Nat → Nat → Int32), p - 2 - i = u → i ≤ p - 2 → MD m m1 (gS p g q) i → m1 5 10 = nI (p - 2) → lk_wp X (d + 2) 135 52 [.ref 29, .int (nI t), .int (nI p), .int (nI g), .int (nI q), .int (nI (i + 1)), .retAddr 0] [] (hp x S L m1 dyn) Q := by
  have h17 := pr3_17 hpr
  intro u
  induction u with
  | zero =>
    intro i m1 hu hi hM h5
    refine F_m_sums_52 (br_t (by rw [nI_sub1 (by omega) (by omega)]; exact nI_le (by omega) (by omega)) ?_)
    rw [show i = p - 2 by omega] at hM
    rw [hp_v29]
    exact hQ m1 hM h5
  | succ u ih =>
    intro i m1 hu hi hM h5'
    refine F_m_sums_52 (br_f (by rw [nI_sub1 (by omega) (by omega)]; exact nI_ge (by omega) (by omega)) ?_)
    exact m_sum_j (j := 1) hpr h5 hg hq (by omega) (fun m2 hM2 h52 => ih (i + 1) m2 (by omega) (by omega) hM2 h52) (p - 2) m1 (by omega) (by omega) (by omega) hM (fun w => by omega) h5'
theorem T_sums (h : Rel x S L m dyn) (a q g w : Int32) : TE X (d + 6) 73 135 [.int a, .int q, .int g, .int w] x S L m dyn := by
  have e0 : (0 : Int32).toInt = 0 := rfl
  have e5 : (5 : Int32).toInt = 5 := rfl
  by_cases ha : 0 ≤ a.toInt ∧ a.toInt ≤ 9
  · by_cases hq5 : ∃ p, q = nI p ∧ pr3 p = true ∧ 5 ≤ p
    · obtain ⟨p, rfl, hpr, h5p⟩ := hq5
      have hq : ∃ p', nI p = nI p' ∧ pr3 p' = true := ⟨p, rfl, hpr⟩
      have h17 := pr3_17 hpr
      have epp : (nI p).toInt = p := i32_nI (by omega)
      by_cases hg : ∃ q, g = nI q ∧ rtB p q = true
      · by_cases hh : ∃ q, w = nI q ∧ rtB p q = true
        · obtain ⟨t, rfl, ht1, -⟩ := i32_nat ha.1
          obtain ⟨gg, rfl, hroot⟩ := hg
          have hg : ∃ q, nI gg = nI q ∧ rtB p q = true := ⟨gg, rfl, hroot⟩
          obtain ⟨ww, rfl, hroot2⟩ := hh
          have hh : ∃ q, nI ww = nI q ∧ rtB p q = true := ⟨ww, rfl, hroot2⟩
          have ht10 : t < 10 := by omega
          have hg2 := rtB_lt hroot
          have hw2 := rtB_lt hroot2
          have hor : OR (p - 2) (gS p gg ww) := orB_or (gS_orB p (by omega) hpr h5p gg hg2.2 hroot ww hw2.2 hroot2) (by omega) (by omega)
          obtain ⟨f, ev, hf⟩ := S_x_sums (X := X) (d := d + 3) (x := x) (S := S) (L := L) (m := m) (dyn := dyn) hpr h5p hroot hroot2
          refine TE.made (o := true) (p := t) (n := p - 2) (g := gS p gg ww) (f := f) h ht10 hor hf (E_x_sums ?_) (fun x' S' dyn' => ?_)
          · rw [S_x_isPlace.iffi]
            refine br_f (bI_t ha) ?_
            refine br_f (by rw [i32_lt]; omega) ?_
            rw [(S_x_isPrime (by omega) true ⟨fun _ => hq, fun _ => rfl⟩).iffi]
            refine br_f (by decide) ?_
            rw [(S_x_isRoot (d := d + 3) hpr true ⟨fun _ => hg, fun _ => rfl⟩).iffi]
            refine br_f (by decide) ?_
            rw [(S_x_isRoot (d := d + 3) hpr true ⟨fun _ => hh, fun _ => rfl⟩).iffi]
            refine br_n1 (by decide) ?_
            rw [ev.iffr, (C_tell_o (d := d + 1) hor hf).iffr, hp_v0, (C_shelve (d := d + 3) (o := true) ht10 hor hf).iffi]
            exact ⟨rfl, rfl⟩
          · have main : lk_wx X (d + 6) 135 [.ref 29, .int (nI t), .int (nI p), .int (nI gg), .int (nI ww)] (hp x' S' L m dyn') (fun v h' => ∃ m1 m', v = some (.int (nI (kd true (p - 2) (gS p gg ww)))) ∧ h' = hp x' S' L m' dyn' ∧ SC m m1 ∧ KP m1 m' t (p - 2) (kd true (p - 2) (gS p gg ww)) (gS p gg ww)) := by
              refine E_m_sums ?_
              rw [S_m_isPlace.iffi]
              refine br_f (bI_t ha) ?_
              rw [(S_m_isPrime true ⟨fun _ => hq, fun _ => rfl⟩).iffi]
              refine br_f (by decide) ?_
              refine br_f (by rw [i32_lt]; omega) ?_
              rw [(S_m_isRoot (d := d + 3) hpr true ⟨fun _ => hg, fun _ => rfl⟩).iffi]
              refine br_f (by decide) ?_
              rw [(S_m_isRoot (d := d + 3) hpr true ⟨fun _ => hh, fun _ => rfl⟩).iffi]
              refine br_n1 (by decide) ?_
              rw [hp_f29_5, show (2 : Int32) = nI 2 from rfl, nI_sub (by omega) (by omega), hp_w35]
              refine ⟨vp_in_nI (n := 10) (by omega) (by omega), ?_⟩
              exact m_sum_i (d := d + 4) (i := 0) hpr h5p hroot hroot2 (fun m2 hM h5 => by
                obtain ⟨m', k1, k2⟩ := M_keep (X := X) (d := d + 1) (x := x') (S := S') (L := L) (dyn := dyn') (o := true) ht10 hM h5 hor
                rw [show (Value.int 1) = Value.int (oI true) from rfl, k1.iffi]
                exact ⟨m2, m', rfl, rfl, hM.1, k2⟩) (p - 2) _ rfl (Nat.zero_le _) ⟨SC.rf.m5, fun i hi => by omega⟩ (by rw [ms_same]; exact pk_us)
            obtain ⟨v, h', ev, m1, m', rfl, rfl, h1, h2⟩ := main.ex
            exact ⟨m1, m', ev, h1, h2⟩
        · refine TE.mk0 (r := -1000001) (E_x_sums ?_) (E_m_sums ?_) h
          · rw [S_x_isPlace.iffi]
            refine br_f (bI_t ha) ?_
            refine br_f (by rw [i32_lt]; omega) ?_
            rw [(S_x_isPrime (by omega) true ⟨fun _ => hq, fun _ => rfl⟩).iffi]
            refine br_f (by decide) ?_
            rw [(S_x_isRoot (d := d + 3) hpr true ⟨fun _ => hg, fun _ => rfl⟩).iffi]
            refine br_f (by decide) ?_
            rw [(S_x_isRoot (d := d + 3) hpr false ⟨fun w => absurd w (by decide), fun w => absurd w hh⟩).iffi]
            exact br_n2 rfl ⟨rfl, rfl⟩
          · rw [S_m_isPlace.iffi]
            refine br_f (bI_t ha) ?_
            rw [(S_m_isPrime true ⟨fun _ => hq, fun _ => rfl⟩).iffi]
            refine br_f (by decide) ?_
            refine br_f (by rw [i32_lt]; omega) ?_
            rw [(S_m_isRoot (d := d + 3) hpr true ⟨fun _ => hg, fun _ => rfl⟩).iffi]
            refine br_f (by decide) ?_
            rw [(S_m_isRoot (d := d + 3) hpr false ⟨fun w => absurd w (by decide), fun w => absurd w hh⟩).iffi]
            exact br_n2 rfl ⟨rfl, rfl⟩
      · refine TE.mk0 (r := -1000001) (E_x_sums ?_) (E_m_sums ?_) h
        · rw [S_x_isPlace.iffi]
          refine br_f (bI_t ha) ?_
          refine br_f (by rw [i32_lt]; omega) ?_
          rw [(S_x_isPrime (by omega) true ⟨fun _ => hq, fun _ => rfl⟩).iffi]
          refine br_f (by decide) ?_
          rw [(S_x_isRoot (d := d + 3) hpr false ⟨fun w => absurd w (by decide), fun w => absurd w hg⟩).iffi]
          exact br_t rfl ⟨rfl, rfl⟩
        · rw [S_m_isPlace.iffi]
          refine br_f (bI_t ha) ?_
          rw [(S_m_isPrime true ⟨fun _ => hq, fun _ => rfl⟩).iffi]
          refine br_f (by decide) ?_
          refine br_f (by rw [i32_lt]; omega) ?_
          rw [(S_m_isRoot (d := d + 3) hpr false ⟨fun w => absurd w (by decide), fun w => absurd w hg⟩).iffi]
          exact br_t rfl ⟨rfl, rfl⟩
    · refine TE.mk0 (r := -1000001) (E_x_sums ?_) (E_m_sums ?_) h
      · rw [S_x_isPlace.iffi]
        refine br_f (bI_t ha) ?_
        by_cases hlo : q.toInt < 5
        · exact br_t (by rw [i32_lt]; omega) ⟨rfl, rfl⟩
        · refine br_f (by rw [i32_lt]; omega) ?_
          rw [(S_x_isPrime (by omega) false ⟨fun w => absurd w (by decide), fun w => (by
            obtain ⟨p, rfl, hp⟩ := w
            have := pr3_17 hp
            rw [i32_nI (by omega)] at hlo
            exact absurd ⟨p, rfl, hp, by omega⟩ hq5)⟩).iffi]
          exact br_t rfl ⟨rfl, rfl⟩
      · rw [S_m_isPlace.iffi]
        refine br_f (bI_t ha) ?_
        by_cases hq : ∃ p, q = nI p ∧ pr3 p = true
        · rw [(S_m_isPrime true ⟨fun _ => hq, fun _ => rfl⟩).iffi]
          refine br_f (by decide) ?_
          obtain ⟨p, rfl, hp⟩ := hq
          have := pr3_17 hp
          refine br_t ?_ ⟨rfl, rfl⟩
          rw [i32_lt, i32_nI (by omega)]
          apply Classical.byContradiction
          intro w
          exact hq5 ⟨p, rfl, hp, by omega⟩
        · rw [(S_m_isPrime false ⟨fun w => absurd w (by decide), fun w => absurd w hq⟩).iffi]
          exact br_t rfl ⟨rfl, rfl⟩
  · refine TE.mk0 (r := -1000001) (E_x_sums ?_) (E_m_sums ?_) h
    · rw [S_x_isPlace.iffi]
      exact br_t (bI_f ha) ⟨rfl, rfl⟩
    · rw [S_m_isPlace.iffi]
      exact br_t (bI_f ha) ⟨rfl, rfl⟩
end SUMS
