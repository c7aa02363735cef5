/-! count -/
/-- how many of k numbers from i on -/
def cn (f : Nat → Bool) : Nat → Nat → Nat
  | _, 0 => 0
  | i, k + 1 => (if f i = true then 1 else 0) + cn f (i + 1) k
theorem cn_le {f : Nat → Bool} : ∀ {k i : Nat}, cn f i k ≤ k := by
  intro k
  induction k with
  | zero => intro i; exact Nat.le_refl _
  | succ k ih =>
    intro i
    rw [cn]
    have := ih (i := i + 1)
    split <;> omega
theorem cn_t {f : Nat → Bool} {i k c : Nat} (h : f i = true) : c + cn f i (k + 1) = c + 1 + cn f (i + 1) k := by rw [cn, if_pos h]; omega
theorem cn_f {f : Nat → Bool} {i k c : Nat} (h : ¬ f i = true) : c + cn f i (k + 1) = c + cn f (i + 1) k := by rw [cn, if_neg h]; omega
section COUNT
variable {X : lk_X} {d : Nat} {x : Nat → Nat → Int32} {S L : Nat → Option Nat} {m : Nat → Nat → Int32} {dyn : lk_H}
theorem x_sheets_loop {f : Nat → Bool} (hf : ∀ i, i < 8 → (x (20 + i) 0 = 0 ↔ f i = true)) {Q : Option Value → lk_H → Prop} : ∀ (k i c : Nat), 8 - i = k → i ≤ 8 → Q (some (.int (nI (c + cn f i k)))) (hp x S L m dyn) → lk_wp X (d + 1) 103 4 [.ref 0, .int (nI c), .int (nI i)] [] (hp x S L m dyn) Q := by
  intro k
  induction k with
  | zero =>
    intro i c hk hi hQ
    exact F_x_sheetsThere_4 (br_t (nI_le (a := 8) (by omega) (by omega)) hQ)
  | succ k ih =>
    intro i c hk hi hQ
    refine F_x_sheetsThere_4 (br_f (nI_ge (b := 8) (by omega) (by omega)) ?_)
    rw [hp_f0_0, hp_ra1, nI_clamp (by omega), hp_sfI1 (by omega), hf i (by omega), nI_1, nI_1]
    refine ⟨vp_in_nI (by omega) (by omega), fun q => ih (i + 1) c (by omega) (by omega) ?_, fun q => ih (i + 1) (c + 1) (by omega) (by omega) ?_⟩
    · rw [cn_f q] at hQ; exact hQ
    · rw [cn_t q] at hQ; exact hQ
theorem m_count_loop1 {f : Nat → Bool} (hf : ∀ i, i < 8 → (m 0 i ≤ 0 ↔ ¬ f i = true)) {Q : Option Value → lk_H → Prop} : ∀ (k i c : Nat), 8 - i = k → i ≤ 8 → Q (some (.int (nI (c + cn f i k)))) (hp x S L m dyn) → lk_wp X (d + 2) 168 19 [.ref 29, .int 0, .int (nI c), .int (nI i)] [] (hp x S L m dyn) Q := by
  intro k
  induction k with
  | zero =>
    intro i c hk hi hQ
    exact F_m_count_19 (br_t (nI_le (a := 8) (by omega) (by omega)) (F_m_count_54 (br_f (by decide) (br_t (by decide) hQ))))
  | succ k ih =>
    intro i c hk hi hQ
    refine F_m_count_19 (br_f (nI_ge (b := 8) (by omega) (by omega)) (br_n2 rfl ?_))
    rw [hp_f29_0, hp_a30, nI_clamp (by omega), hf i (by omega), nI_1, nI_1, show nI c + 0 = nI c from nI_add c 0]
    refine ⟨vp_in_nI (by omega) (by omega), fun q => ih (i + 1) c (by omega) (by omega) ?_, fun q => ih (i + 1) (c + 1) (by omega) (by omega) ?_⟩
    · rw [cn_f q] at hQ; exact hQ
    · rw [cn_t (Classical.not_not.mp q)] at hQ; exact hQ
theorem x_things_loop {f : Nat → Bool} {kd0 : Nat} (hk6 : kd0 < 6) (hf : ∀ i, i < 10 → (S i = none ∧ ¬ f i = true) ∨ ∃ a c b n g, S i = some a ∧ tr (hp x S L m dyn) a c b n g ∧ f i = ok5 c kd0) {Q : Option Value → lk_H → Prop} : ∀ (k i c : Nat), 10 - i = k → i ≤ 10 → Q (some (.int (nI (c + cn f i k)))) (hp x S L m dyn) → lk_wp X (d + 2) 104 4 [.ref 0, .int (nI kd0), .int (nI c), .int (nI i)] [] (hp x S L m dyn) Q := by
  intro k
  induction k with
  | zero =>
    intro i c hk hi hQ
    exact F_x_thingsOfKind_4 (br_t (nI_le (a := 10) (by omega) (by omega)) hQ)
  | succ k ih =>
    intro i c hk hi hQ
    refine F_x_thingsOfKind_4 (br_f (nI_ge (b := 10) (by omega) (by omega)) ?_)
    rw [hp_f0_1, nI_1, nI_1]
    rcases hf i (by omega) with ⟨h1, h2⟩ | ⟨a, c', b, n, g, h1, h2, h3⟩
    · refine ra_n rfl (by omega) h1 ?_
      rw [S_x_isOfKind_n.iffi]
      refine br_t rfl (ih (i + 1) c (by omega) (by omega) ?_)
      rw [cn_f h2] at hQ; exact hQ
    · refine ra_s (by omega) h1 ?_
      rw [(S_x_isOfKind h2 hk6).iffi]
      by_cases ho : ok5 c' kd0 = true
      · refine br_f (bI_t ho) (ih (i + 1) (c + 1) (by omega) (by omega) ?_)
        rw [cn_t (by rw [h3]; exact ho)] at hQ; exact hQ
      · refine br_t (bI_f ho) (ih (i + 1) c (by omega) (by omega) ?_)
        rw [cn_f (by rw [h3]; exact ho)] at hQ; exact hQ
theorem m_count_loop2 {f : Nat → Bool} {kd0 : Nat} (hk6 : kd0 < 5) (hf : ∀ i, i < 10 → (m 4 i = 0 ∧ ¬ f i = true) ∨ ∃ c, m 4 i = nI (kc c) ∧ isC c ∧ f i = ok5 c kd0) {Q : Option Value → lk_H → Prop} : ∀ (k i c : Nat), 10 - i = k → i ≤ 10 → Q (some (.int (nI (c + cn f i k)))) (hp x S L m dyn) → lk_wp X (d + 2) 168 54 [.ref 29, .int (nI (kd0 + 1)), .int (nI c), .int (nI i)] [] (hp x S L m dyn) Q := by
  have e1 : nI (kd0 + 1) - 1 = nI kd0 := by
    rw [i32_eq, show (1 : Int32) = nI 1 from rfl, pk_sub_toInt (by omega) (by omega), i32_nI (by omega)]
    omega
  intro k
  induction k with
  | zero =>
    intro i c hk hi hQ
    exact F_m_count_54 (br_t (nI_le (a := 10) (by omega) (by omega)) hQ)
  | succ k ih =>
    intro i c hk hi hQ
    refine F_m_count_54 (br_f (nI_ge (b := 10) (by omega) (by omega)) (br_f (nI_ge (a := 0) (by omega) (by omega)) ?_))
    rw [hp_f29_4, hp_a34, nI_clamp (by omega), nI_1, nI_1, show nI c + 0 = nI c from nI_add c 0, e1]
    refine ⟨vp_in_nI (by omega) (by omega), ?_⟩
    rcases hf i (by omega) with ⟨h1, h2⟩ | ⟨c', h1, h2, h3⟩
    · rw [h1]
      refine br_t (by decide) (ih (i + 1) c (by omega) (by omega) ?_)
      rw [cn_f h2] at hQ; exact hQ
    · have hkc := kc_pos (c := c')
      rw [h1]
      refine br_f (nI_ge (a := 0) (by omega) (by omega)) ?_
      rw [hp_f29_4, hp_a34, nI_clamp (by omega), h1]
      refine ⟨vp_in_nI (by omega) (by omega), ?_⟩
      rw [(S_m_isOf h2 (show kd0 < 6 by omega)).iffi]
      by_cases ho : ok5 c' kd0 = true
      · refine br_f (bI_t ho) (ih (i + 1) (c + 1) (by omega) (by omega) ?_)
        rw [cn_t (by rw [h3]; exact ho)] at hQ; exact hQ
      · refine br_t (bI_f ho) (ih (i + 1) c (by omega) (by omega) ?_)
        rw [cn_f (by rw [h3]; exact ho)] at hQ; exact hQ
def fTh (x : Nat → Nat → Int32) (S L : Nat → Option Nat) (m : Nat → Nat → Int32) (dyn : lk_H) (k i : Nat) : Bool := match S i with
  | none => false
  | some a => match (hp x S L m dyn)[a]? with
    | some (.inr (c, _)) => ok5 c k
    | _ => false
theorem T_count (h : Rel x S L m dyn) (v : Int32) : TE X (d + 4) 92 168 [.int v] x S L m dyn := by
  have e0 : (0 : Int32).toInt = 0 := rfl
  have e5 : (5 : Int32).toInt = 5 := rfl
  by_cases hv : 0 ≤ v.toInt ∧ v.toInt ≤ 5
  · obtain ⟨k, rfl, hk1, -⟩ := i32_nat hv.1
    have hk6 : k < 6 := by omega
    by_cases hk0 : k = 0
    · subst hk0
      refine TE.mk0 (r := nI (0 + cn (fun i => decide (x (20 + i) 0 = 0)) 0 8)) (E_x_count ?_) (E_m_count ?_) h
      · refine br_f (by decide) (br_t (by decide) (br_n2 rfl ?_))
        rw [hp_v0]
        refine lk_wx.mono (d := d + 3) (Q := fun w h' => w = some (.int (nI (0 + cn (fun i => decide (x (20 + i) 0 = 0)) 0 8))) ∧ h' = hp x S L m dyn) (E_x_sheetsThere (x_sheets_loop (f := fun i => decide (x (20 + i) 0 = 0)) (fun i _ => by rw [decide_eq_true_iff]) 8 0 0 rfl (by omega) ⟨rfl, rfl⟩)) (Nat.le_refl _) ?_
        rintro w h' ⟨rfl, rfl⟩
        exact ⟨_, rfl, rfl, rfl⟩
      · rw [S_m_in.iffi, i64_of]
        refine br_n1 (bI_t hv) ?_
        refine m_count_loop1 (f := fun i => decide (x (20 + i) 0 = 0)) (fun i hi => ?_) 8 0 0 rfl (by omega) ⟨rfl, rfl⟩
        rw [decide_eq_true_iff]
        rcases h.1 i hi with ⟨q1, q2⟩ | ⟨q1, la, n, q2, q3, q4, q5, -⟩
        · rw [q1, q2]
          decide
        · rw [q1, q5]
          exact ⟨fun q => absurd q (nI_ge (a := 0) (by omega) (by omega)), fun q => absurd rfl q⟩
    · obtain ⟨k', rfl⟩ : ∃ k', k = k' + 1 := ⟨k - 1, by omega⟩
      have e1 : nI (k' + 1) - 1 = nI k' := by
        rw [i32_eq, show (1 : Int32) = nI 1 from rfl, pk_sub_toInt (by omega) (by omega), i32_nI (by omega)]
        omega
      have hr : ∀ a c b n g, (∀ (x' : Nat → Nat → Int32) (S' L' : Nat → Option Nat) (m' : Nat → Nat → Int32) (l : lk_H), tr (hp x' S' L' m' (dyn ++ l)) a c b n g) → tr (hp x S L m dyn) a c b n g := fun a c b n g q => by
        have := q x S L m []
        rw [List.append_nil] at this
        exact this
      refine TE.mk0 (r := nI (0 + cn (fTh x S L m dyn k') 0 10)) (E_x_count ?_) (E_m_count ?_) h
      · refine br_f (by rw [i32_lt]; omega) (br_t (by rw [i32_le]; omega) (br_n1 (nI_ne0 (by omega) (by omega)) ?_))
        rw [hp_v0, e1]
        refine lk_wx.mono (d := d + 3) (Q := fun w h' => w = some (.int (nI (0 + cn (fTh x S L m dyn k') 0 10))) ∧ h' = hp x S L m dyn) (E_x_thingsOfKind (x_things_loop (f := fTh x S L m dyn k') (show k' < 6 by omega) (fun i hi => ?_) 10 0 0 rfl (by omega) ⟨rfl, rfl⟩)) (Nat.le_refl _) ?_
        · rcases h.2.2.1.get hi with ⟨q1, q2⟩ | ⟨a, c, b, n, g, q1, q2, q3, q4, q5⟩
          · refine Or.inl ⟨q1, ?_⟩
            unfold fTh
            rw [q1]
            exact Bool.noConfusion
          · refine Or.inr ⟨44 + a, c, 44 + b, n, g, q1, hr _ _ _ _ _ q2, ?_⟩
            unfold fTh
            rw [q1]
            dsimp only
            rw [(hr _ _ _ _ _ q2).1]
        · rintro w h' ⟨rfl, rfl⟩
          exact ⟨_, rfl, rfl, rfl⟩
      · rw [S_m_in.iffi, i64_of]
        refine br_n1 (bI_t hv) ?_
        refine F_m_count_19 (br_f (by decide) (br_n1 (nI_ne0 (by omega) (by omega)) ?_))
        refine m_count_loop2 (f := fTh x S L m dyn k') (show k' < 5 by omega) (fun i hi => ?_) 10 0 0 rfl (by omega) ⟨rfl, rfl⟩
        rcases h.2.2.1.get hi with ⟨q1, q2⟩ | ⟨a, c, b, n, g, q1, q2, q3, q4, q5⟩
        · refine Or.inl ⟨q2, ?_⟩
          unfold fTh
          rw [q1]
          exact Bool.noConfusion
        · refine Or.inr ⟨c, q4, q3.isC, ?_⟩
          unfold fTh
          rw [q1]
          dsimp only
          rw [(hr _ _ _ _ _ q2).1]
  · refine TE.mk0 (r := -1000001) (E_x_count ?_) (E_m_count ?_) h
    · by_cases hv0 : v.toInt < 0
      · exact br_t (by rw [i32_lt]; omega) ⟨rfl, rfl⟩
      · exact br_f (by rw [i32_lt]; omega) (br_f (by rw [i32_le]; omega) ⟨rfl, rfl⟩)
    · rw [S_m_in.iffi, i64_of]
      exact br_n2 (bI_f hv) ⟨rfl, rfl⟩
end COUNT
