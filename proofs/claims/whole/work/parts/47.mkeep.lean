/-! the reference: a thing is kept -/
theorem an_iff {f : Nat → Bool} : ∀ {k i : Nat}, an f i k = true ↔ ∃ j, i ≤ j ∧ j < i + k ∧ f j = true := by
  intro k
  induction k with
  | zero =>
    intro i
    rw [an]
    exact ⟨fun h => absurd h (by decide), fun ⟨j, h1, h2, _⟩ => by omega⟩
  | succ k ih =>
    intro i
    rw [an, Bool.or_eq_true, ih]
    constructor
    · rintro (h | ⟨j, h1, h2, h3⟩)
      · exact ⟨i, Nat.le_refl _, by omega, h⟩
      · exact ⟨j, by omega, by omega, h3⟩
    · rintro ⟨j, h1, h2, h3⟩
      by_cases hj : j = i
      · subst hj
        exact Or.inl h3
      · exact Or.inr ⟨j, by omega, by omega, h3⟩
/-- the kind of what is made -/
def kd (o : Bool) (n : Nat) (g : Nat → Nat) : Nat := if o = true then (if (alk o n g).isSome = true then 1 else 2) else if (alk o n g).isSome = true then 3 else if fulD n g = true then 5 else 4
def KP (m m' : Nat → Nat → Int32) (to n K : Nat) (g : Nat → Nat) : Prop := m' 4 to = nI K ∧ m' 5 to = nI n ∧ (∀ i, i < n → m' 6 (16 * to + i) = nI (g i)) ∧ (∀ p, p < 10 → ¬ p = to → m' 4 p = m 4 p ∧ m' 5 p = m 5 p ∧ ∀ i, i < 16 → m' 6 (16 * p + i) = m 6 (16 * p + i)) ∧ (∀ c, ¬ c = 4 → ¬ c = 5 → ¬ c = 6 → ¬ c = 8 → ¬ c = 14 → m' c = m c) ∧ m' 14 0 = 0
theorem fA_ne {m : Nat → Nat → Int32} {v : Option (Nat × Nat × Nat × Nat)} {c : Nat} (h : ¬ c = 8) : fA m v c = m c := by
  match v with
  | none => simp only [fA]; rw [ms_ne h, ms_ne h, ms_ne h, ms_ne h]
  | some (a, b, e, f) => simp only [fA]; rw [ms_ne h, ms_ne h, ms_ne h, ms_ne h]
theorem mth.congr {m m' : Nat → Nat → Int32} {t n : Nat} {g : Nat → Nat} (h : mth m t n g) (h5 : m' 5 = m 5) (h6 : m' 6 = m 6) : mth m' t n g := by
  unfold mth
  rw [h5, h6]
  exact h
section MKEEP
variable {X : lk_X} {d : Nat} {x : Nat → Nat → Int32} {S L : Nat → Option Nat} {m : Nat → Nat → Int32} {dyn : lk_H}
theorem m_all_b {t n a e : Nat} {g : Nat → Nat} (hm : mth m t n g) (ha : a < n) (he : e ≤ 300) {Q : Option Value → lk_H → Prop} : ∀ (k b : Nat), n - b = k → b ≤ 16 → ∀ u : Bool, lk_wp X (d + 2) 125 34 [.ref 29, .int (nI t), .int (nI n), .int (nI e), .int (oI (u || an (fun b => decide (g b = g a + e)) b k)), .int (nI (a + 1)), .retAddr 0] [] (hp x S L m dyn) Q → lk_wp X (d + 2) 125 46 [.ref 29, .int (nI t), .int (nI n), .int (nI e), .int (oI u), .int (nI a), .int (nI b)] [] (hp x S L m dyn) Q := by
  have h16 := hm.2.1
  intro k
  induction k with
  | zero =>
    intro b hk hb u h
    refine F_m_hasAll_46 (br_t (nI_le (by omega) (by omega)) ?_)
    rw [an, Bool.or_false] at h
    rw [nI_1]
    exact h
  | succ k ih =>
    intro b hk hb u h
    refine F_m_hasAll_46 (br_f (nI_ge (by omega) (by omega)) ?_)
    rw [nI_1]
    rw [an, ← Bool.or_assoc] at h
    cases u with
    | true => exact br_n1 (by decide) (ih (b + 1) (by omega) (by omega) true h)
    | false =>
      refine br_n2 rfl ?_
      have hbn : b < n := by omega
      rw [hp_v29, (S_m_at1 hm hbn).iffi, hp_v29, (S_m_at1 hm ha).iffi]
      have ga := (hm.2.2.2 a ha).2
      have gb := (hm.2.2.2 b hbn).2
      have e1 : (nI (g b) - nI (g a) = nI e) ↔ g b = g a + e := by
        rw [i32_eq, pk_sub_toInt (by omega) (by omega), i32_nI (by omega)]
        omega
      rw [e1]
      refine ⟨fun q => ih (b + 1) (by omega) (by omega) false ?_, fun q => ih (b + 1) (by omega) (by omega) true ?_⟩
      · rw [decide_eq_false q] at h
        exact h
      · rw [decide_eq_true q] at h
        exact h
theorem m_all_a {t n e : Nat} {g : Nat → Nat} (hm : mth m t n g) (he : e ≤ 300) {Q : Option Value → lk_H → Prop} : ∀ (k a : Nat), n - a = k → a ≤ 16 → ∀ u : Bool, ((u || an (fun a => an (fun b => decide (g b = g a + e)) (a + 1) (n - (a + 1))) a k) = true → lk_wp X (d + 2) 125 9 [.ref 29, .int (nI t), .int (nI n), .int (nI (e + 1)), .retAddr 0, .retAddr 0, .retAddr 0] [] (hp x S L m dyn) Q) → ((u || an (fun a => an (fun b => decide (g b = g a + e)) (a + 1) (n - (a + 1))) a k) = false → Q (some (.int 0)) (hp x S L m dyn)) → lk_wp X (d + 2) 125 34 [.ref 29, .int (nI t), .int (nI n), .int (nI e), .int (oI u), .int (nI a), .retAddr 0] [] (hp x S L m dyn) Q := by
  have h16 := hm.2.1
  intro k
  induction k with
  | zero =>
    intro a hk ha u h1 h2
    refine F_m_hasAll_34 (br_t (nI_le (by omega) (by omega)) ?_)
    rw [an, Bool.or_false] at h1 h2
    rw [nI_1]
    cases u with
    | true => exact br_n1 (by decide) (h1 rfl)
    | false => exact br_n2 rfl (h2 rfl)
  | succ k ih =>
    intro a hk ha u h1 h2
    refine F_m_hasAll_34 (br_f (nI_ge (by omega) (by omega)) ?_)
    rw [nI_1]
    rw [an, ← Bool.or_assoc] at h1 h2
    exact m_all_b (a := a) hm (by omega) he (n - (a + 1)) (a + 1) rfl (by omega) u (ih (a + 1) (by omega) (by omega) _ h1 h2)
theorem S_m_at10 {t n : Nat} {g : Nat → Nat} (hm : mth m t n g) (hk : 0 < n) : lk_ev X (d + 1) 122 [.ref 29, .int (nI t), .int 0] (hp x S L m dyn) (some (.int (nI (g 0)))) (hp x S L m dyn) := S_m_at1 hm hk
theorem m_all_e {t n G : Nat} {g : Nat → Nat} (hm : mth m t n g) (hn : 1 ≤ n) (hG : g 0 + G = g (n - 1)) {Q : Option Value → lk_H → Prop} : ∀ (k e : Nat), G + 1 - e = k → 1 ≤ e → e ≤ 300 → (an (fun e => !(an (fun a => an (fun b => decide (g b = g a + e)) (a + 1) (n - (a + 1))) 0 n)) e k = true → Q (some (.int 0)) (hp x S L m dyn)) → (an (fun e => !(an (fun a => an (fun b => decide (g b = g a + e)) (a + 1) (n - (a + 1))) 0 n)) e k = false → Q (some (.int 1)) (hp x S L m dyn)) → lk_wp X (d + 2) 125 9 [.ref 29, .int (nI t), .int (nI n), .int (nI e), .retAddr 0, .retAddr 0, .retAddr 0] [] (hp x S L m dyn) Q := by
  have h16 := hm.2.1
  have g0 := (hm.2.2.2 0 hn).2
  have g1 := (hm.2.2.2 (n - 1) (by omega)).2
  have en : nI n - 1 = nI (n - 1) := by
    rw [i32_eq, show (1 : Int32) = nI 1 from rfl, pk_sub_toInt (by omega) (by omega), i32_nI (by omega)]
    omega
  have eG : nI (g (n - 1)) - nI (g 0) = nI G := by
    rw [i32_eq, pk_sub_toInt (by omega) (by omega), i32_nI (by omega)]
    omega
  intro k
  induction k with
  | zero =>
    intro e hk he he3 h1 h2
    refine F_m_hasAll_9 ?_
    rw [hp_v29, en, (S_m_at1 hm (show n - 1 < n by omega)).iffi, hp_v29, (S_m_at10 hm hn).iffi, eG]
    exact br_t (by rw [i32_lt, i32_nI (by omega), i32_nI (by omega)]; omega) (h2 rfl)
  | succ k ih =>
    intro e hk he he3 h1 h2
    refine F_m_hasAll_9 ?_
    rw [hp_v29, en, (S_m_at1 hm (show n - 1 < n by omega)).iffi, hp_v29, (S_m_at10 hm hn).iffi, eG]
    refine br_f (by rw [i32_lt, i32_nI (by omega), i32_nI (by omega)]; omega) ?_
    rw [an] at h1 h2
    refine m_all_a (a := 0) hm (by omega) n rfl (by omega) false (fun hv => ?_) (fun hv => ?_)
    · rw [Bool.false_or] at hv
      rw [hv, Bool.not_true, Bool.false_or] at h1 h2
      exact ih (e + 1) (by omega) (by omega) (by omega) h1 h2
    · rw [Bool.false_or] at hv
      rw [hv, Bool.not_false, Bool.true_or] at h1
      exact h1 rfl
theorem S_m_hasAll {t n : Nat} {g : Nat → Nat} (hm : mth m t n g) (hn : 1 ≤ n) (hG : g 0 ≤ g (n - 1)) : lk_ev X (d + 2) 125 [.ref 29, .int (nI t)] (hp x S L m dyn) (some (.int (bI (fulD n g = true)))) (hp x S L m dyn) := by
  have h10 := hm.1
  have g1 := (hm.2.2.2 (n - 1) (by omega)).2
  refine E_m_hasAll ?_
  rw [hp_f29_5, hp_a35, nI_clamp (by omega), hm.2.2.1]
  refine ⟨vp_in_nI (by omega) (by omega), ?_⟩
  refine m_all_e (e := 1) (G := g (n - 1) - g 0) hm hn (by omega) (g (n - 1) - g 0) (by omega) (by omega) (by omega) (fun h => ?_) (fun h => ?_)
  · rw [bI_0 (by unfold fulD; rw [h]; decide)]
    exact ⟨rfl, rfl⟩
  · rw [bI_1 (by unfold fulD; rw [h]; decide)]
    exact ⟨rfl, rfl⟩
theorem m_copyThing_loop {to : Nat} (ht : to < 10) {Q : Option Value → lk_H → Prop} : ∀ (k i : Nat), 16 - i = k → i ≤ 16 → ∀ m : Nat → Nat → Int32, Q none (hp x S L (mr m 6 (fun q => if 16 * to + i ≤ q ∧ q < 16 * to + 16 then m 6 (q + 160 - 16 * to) else m 6 q)) dyn) → lk_wp X (d + 1) 126 26 [.ref 29, .int (nI to), .int 10, .int (nI i)] [] (hp x S L m dyn) Q := by
  intro k
  induction k with
  | zero =>
    intro i hk hi m hQ
    refine F_m_copyThing_26 (br_t (nI_le (a := 16) (b := i) (by omega) (by omega)) ?_)
    have e : mr m 6 (fun q => if 16 * to + i ≤ q ∧ q < 16 * to + 16 then m 6 (q + 160 - 16 * to) else m 6 q) = m := by
      funext c
      by_cases hc : c = 6
      · subst hc
        rw [mr_same]
        funext q
        rw [if_neg (by omega)]
      · rw [mr_ne hc]
    rw [e] at hQ
    exact hQ
  | succ k ih =>
    intro i hk hi m hQ
    refine F_m_copyThing_26 (br_f (nI_ge (a := i) (b := 16) (by omega) (by omega)) ?_)
    have e1 : 16 * 10 + nI i = nI (160 + i) := by rw [show (16 : Int32) * 10 = nI 160 from rfl, nI_add]
    have e2 : 16 * nI to + nI i = nI (16 * to + i) := by rw [show (16 : Int32) = nI 16 from rfl, pk_mul, nI_add]
    rw [hp_f29_6, hp_f29_6, hp_a36, e1, nI_clamp (by omega)]
    refine ⟨vp_in_nI (by omega) (by omega), ?_⟩
    rw [hp_w36, e2, nI_clamp (by omega), nI_1]
    refine ⟨vp_in_nI (by omega) (by omega), ih (i + 1) (by omega) (by omega) _ ?_⟩
    have e3 : mr (ms m 6 (16 * to + i) (m 6 (160 + i))) 6 (fun q => if 16 * to + (i + 1) ≤ q ∧ q < 16 * to + 16 then ms m 6 (16 * to + i) (m 6 (160 + i)) 6 (q + 160 - 16 * to) else ms m 6 (16 * to + i) (m 6 (160 + i)) 6 q) = mr m 6 (fun q => if 16 * to + i ≤ q ∧ q < 16 * to + 16 then m 6 (q + 160 - 16 * to) else m 6 q) := by
      funext c
      by_cases hc : c = 6
      · subst hc
        rw [mr_same, mr_same, ms_same]
        funext q
        by_cases hq : q = 16 * to + i
        · subst hq
          rw [if_neg (by omega), pk_us, if_pos (by omega), show 16 * to + i + 160 - 16 * to = 160 + i by omega]
        · by_cases h2 : 16 * to + i ≤ q ∧ q < 16 * to + 16
          · rw [if_pos h2, if_pos (by omega), pk_un (by omega)]
          · rw [if_neg h2, if_neg (by omega), pk_un hq]
      · rw [mr_ne hc, mr_ne hc, ms_ne hc]
    rw [e3]
    exact hQ
theorem S_m_copyThing {to : Nat} (ht : to < 10) : lk_ev X (d + 1) 126 [.ref 29, .int (nI to), .int 10] (hp x S L m dyn) none (hp x S L (mr (ms (ms m 4 to (m 4 10)) 5 to (m 5 10)) 6 (fun q => if 16 * to ≤ q ∧ q < 16 * to + 16 then m 6 (q + 160 - 16 * to) else m 6 q)) dyn) := by
  refine E_m_copyThing ?_
  rw [hp_f29_4, hp_f29_4, hp_a34]
  refine ⟨vp_in_nI (n := 10) (by omega) (by omega), ?_⟩
  rw [hp_w34, nI_clamp (by omega)]
  refine ⟨vp_in_nI (by omega) (by omega), ?_⟩
  rw [hp_f29_5, hp_f29_5, hp_a35]
  refine ⟨vp_in_nI (n := 10) (by omega) (by omega), ?_⟩
  rw [hp_w35, nI_clamp (by omega)]
  refine ⟨vp_in_nI (by omega) (by omega), ?_⟩
  refine m_copyThing_loop ht 16 0 rfl (by omega) _ ⟨rfl, ?_⟩
  rw [ms_ne (c := 5) (c' := 6) (by decide), ms_ne (c := 4) (c' := 6) (by decide)]
  rfl
theorem S_m_keep {o : Bool} {to n : Nat} {g : Nat → Nat} (ht : to < 10) (hm : mth m 10 n g) (hn : 1 ≤ n) (hG : o = false → g 0 ≤ g (n - 1)) : ∃ m', lk_ev X (d + 4) 127 [.ref 29, .int (nI to), .int (oI o)] (hp x S L m dyn) (some (.int (nI (kd o n g)))) (hp x S L m' dyn) ∧ KP m m' to n (kd o n g) g := by
  have main : ∀ K : Nat, K ≤ 5 → K = kd o n g → KP m (ms (mr (ms (ms (ms (fA m (alk o n g)) 4 10 (nI K)) 4 to (ms (fA m (alk o n g)) 4 10 (nI K) 4 10)) 5 to (ms (fA m (alk o n g)) 4 10 (nI K) 5 10)) 6 (fun q => if 16 * to ≤ q ∧ q < 16 * to + 16 then ms (fA m (alk o n g)) 4 10 (nI K) 6 (q + 160 - 16 * to) else ms (fA m (alk o n g)) 4 10 (nI K) 6 q)) 14 0 0) to n (kd o n g) g := by
    intro K hK hKe
    have hn16 := hm.2.1
    refine ⟨?_, ?_, ?_, ?_, ?_, ?_⟩
    · rw [ms_ne (by decide), mr_ne (by decide), ms_ne (by decide), ms_same, pk_us, ms_same, pk_us, hKe]
    · rw [ms_ne (by decide), mr_ne (by decide), ms_same, pk_us, ms_ne (by decide), fA_ne (by decide), hm.2.2.1]
    · intro i hi
      rw [ms_ne (by decide), mr_same, if_pos (by omega), ms_ne (by decide), fA_ne (by decide), show 16 * to + i + 160 - 16 * to = 16 * 10 + i by omega, (hm.2.2.2 i hi).1]
    · intro p hp hpt
      refine ⟨?_, ?_, fun i hi => ?_⟩
      · rw [ms_ne (by decide), mr_ne (by decide), ms_ne (by decide), ms_same, pk_un hpt, ms_same, pk_un (by omega), fA_ne (by decide)]
      · rw [ms_ne (by decide), mr_ne (by decide), ms_same, pk_un hpt, ms_ne (by decide), ms_ne (by decide), fA_ne (by decide)]
      · rw [ms_ne (by decide), mr_same, if_neg (by omega), ms_ne (by decide), fA_ne (by decide)]
    · intro c h4 h5 h6 h8 h14
      rw [ms_ne h14, mr_ne h6, ms_ne h5, ms_ne h4, ms_ne h4, fA_ne h8]
    · rw [ms_same, pk_us]
  have fin : ∀ K : Nat, K ≤ 5 → K = kd o n g → (lk_as (hp x S L (fA m (alk o n g)) dyn) 34 10 (nI K) (fun h39 => lk_vc h39 29 [(11, 126)] (fun k46 => lk_wxv X (d + 3) k46 [.ref 29, .int (nI to), .int 10] h39 (fun h40 => lk_fR h40 29 4 [(11, 0)] (fun r41 => lk_ai h40 r41 (nI to) (fun r42 => lk_vc h40 29 [(11, 114)] (fun k45 => lk_wxi X (d + 3) k45 [.ref 29, .int r42] h40 (fun r44 h43 => some (Value.int r44) = some (Value.int (nI (kd o n g))) ∧ h43 = hp x S L (ms (mr (ms (ms (ms (fA m (alk o n g)) 4 10 (nI K)) 4 to (ms (fA m (alk o n g)) 4 10 (nI K) 4 10)) 5 to (ms (fA m (alk o n g)) 4 10 (nI K) 5 10)) 6 (fun q => if 16 * to ≤ q ∧ q < 16 * to + 16 then ms (fA m (alk o n g)) 4 10 (nI K) 6 (q + 160 - 16 * to) else ms (fA m (alk o n g)) 4 10 (nI K) 6 q)) 14 0 0) dyn)))))))) := by
    intro K hK hKe
    rw [hp_w34]
    refine ⟨vp_in_nI (n := 10) (by omega) (by omega), ?_⟩
    rw [hp_v29, (S_m_copyThing ht).iffv, hp_f29_4, hp_a34, nI_clamp (by omega)]
    refine ⟨vp_in_nI (by omega) (by omega), ?_⟩
    rw [hp_v29, S_m_well.iffi]
    refine ⟨?_, rfl⟩
    rw [mr_ne (by decide), ms_ne (by decide), ms_same, pk_us, ms_same, ← hKe]
    show some (Value.int (upd _ 10 _ 10)) = _
    rw [pk_us]
  refine ⟨_, E_m_keep ?_, main (kd o n g) ?_ rfl⟩
  · have hm2 : mth (fA m (alk o n g)) 10 n g := hm.congr (fA_ne (by decide)) (fA_ne (by decide))
    have f2 := fin (kd o n g)
    rw [hp_v29, show (.int 10 : Value) = .int (nI 10) from rfl, (S_m_findAlike hm).iffi, hp_f29_4]
    cases o with
    | true =>
      refine br_f (by decide) ?_
      by_cases ha : (alk true n g).isSome = true
      · have hk : kd true n g = 1 := by unfold kd; rw [if_pos rfl, if_pos ha]
        refine br_f (bI_t ha) ?_
        rw [hk] at f2 ⊢
        exact f2 (by decide) rfl
      · have hk : kd true n g = 2 := by unfold kd; rw [if_pos rfl, if_neg ha]
        refine br_t (bI_f ha) ?_
        rw [hk] at f2 ⊢
        exact f2 (by decide) rfl
    | false =>
      refine br_t rfl ?_
      by_cases ha : (alk false n g).isSome = true
      · have hk : kd false n g = 3 := by unfold kd; rw [if_neg (by decide), if_pos ha]
        refine br_f (bI_t ha) ?_
        rw [hk] at f2 ⊢
        exact f2 (by decide) rfl
      · refine br_t (bI_f ha) ?_
        rw [hp_v29, (S_m_hasAll hm2 hn (hG rfl)).iffi]
        by_cases hf : fulD n g = true
        · have hk : kd false n g = 5 := by unfold kd; rw [if_neg (by decide), if_neg ha, if_pos hf]
          refine br_f (bI_t hf) ?_
          rw [hk] at f2 ⊢
          exact f2 (by decide) rfl
        · have hk : kd false n g = 4 := by unfold kd; rw [if_neg (by decide), if_neg ha, if_neg hf]
          refine br_t (bI_f hf) ?_
          rw [hk] at f2 ⊢
          exact f2 (by decide) rfl
  · unfold kd
    split
    · split <;> omega
    · split
      · omega
      · split <;> omega
end MKEEP
