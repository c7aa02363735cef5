/-! orders gone through one by one: what holds of them -/
theorem al_of {f : Nat → Bool} {n : Nat} (h : ∀ i, i < n → f i = true) : al f n = true := by
  unfold al
  cases hq : an (fun i => !(f i)) 0 n with
  | false => rfl
  | true =>
    obtain ⟨i, h1, h2, h3⟩ := an_iff.mp hq
    rw [h i (by omega)] at h3
    cases h3
theorem lup_iff {g : Nat → Nat} {row : Nat} : lupB g row = true ↔ ∀ e, 1 ≤ e → e ≤ row → ¬ g row = g (row - e) ∧ ∀ k, e ≤ k → k < row → ¬ g k + g (row - e) = g (k - e) + g row := by
  unfold lupB
  constructor
  · intro h e h1 h2
    have hn : ¬ an (fun e => decide (g row = g (row - e)) || an (fun k => decide (g k + g (row - e) = g (k - e) + g row)) e (row - e)) 1 row = true := by
      intro w
      rw [w] at h
      cases h
    rw [an_iff] at hn
    refine ⟨fun w => hn ⟨e, h1, by omega, ?_⟩, fun k h3 h4 w => hn ⟨e, h1, by omega, ?_⟩⟩
    · rw [decide_eq_true w]
      rfl
    · rw [Bool.or_eq_true]
      exact Or.inr (an_iff.mpr ⟨k, h3, by omega, decide_eq_true w⟩)
  · intro h
    cases hq : an (fun e => decide (g row = g (row - e)) || an (fun k => decide (g k + g (row - e) = g (k - e) + g row)) e (row - e)) 1 row with
    | false => rfl
    | true =>
      obtain ⟨e, h1, h2, h3⟩ := an_iff.mp hq
      have h4 := h e h1 (by omega)
      rw [Bool.or_eq_true, decide_eq_true_iff] at h3
      rcases h3 with h3 | h3
      · exact absurd h3 h4.1
      · obtain ⟨k, h5, h6, h7⟩ := an_iff.mp h3
        exact absurd (of_decide_eq_true h7) (h4.2 k h5 (by omega))
theorem alk_get {o : Bool} {n : Nat} {g : Nat → Nat} {a b c e : Nat} (h : alk o n g = some (a, b, c, e)) : a < b ∧ b < n ∧ e < n ∧ a ≤ c ∧ (if c = a then b + 1 else c + 1) ≤ e ∧ alD o g a b c e = true := by
  unfold alk at h
  obtain ⟨a', h1, h2, h3⟩ := sr_spec h
  obtain ⟨b', h4, h5, h6⟩ := sr_spec h3
  obtain ⟨c', h7, h8, h9⟩ := sr_spec h6
  obtain ⟨e', h10, h11, h12⟩ := sr_spec h9
  split at h12
  · rename_i hq
    cases h12
    exact ⟨by omega, by omega, by omega, by omega, h10, hq⟩
  · cases h12
theorem lon_iff {n : Nat} {g : Nat → Nat} (ho : OR n g) : alk true n g = none ↔ ∀ row, row < n → lupB g row = true := by
  constructor
  · intro h row hr
    rw [lup_iff]
    intro e h1 h2
    refine ⟨fun w => ?_, fun k h3 h4 w => ?_⟩
    · have := ho.2.2.2 row (row - e) hr (by omega) w
      omega
    · refine alk_none h (a := k - e) (b := k) (c := row - e) (e := row) (by omega) (by omega) (by omega) hr (by omega) (by omega) (alD_iff.mpr ⟨fun _ => by omega, by omega⟩)
  · intro h
    cases ha : alk true n g with
    | none => rfl
    | some v =>
      obtain ⟨a, b, c, e⟩ := v
      exfalso
      obtain ⟨h1, h2, h3, h4, h5, h6⟩ := alk_get ha
      obtain ⟨h7, h8⟩ := alD_iff.mp h6
      have h7 := h7 rfl
      have hca : ¬ c = a := by
        intro w
        rw [if_pos w] at h5
        omega
      rw [if_neg hca] at h5
      have := (lup_iff.mp (h e h3) (b - a) (by omega) (by omega)).2 b (by omega) (by omega)
      rw [show e - (b - a) = c by omega, show b - (b - a) = a by omega] at this
      omega
theorem lonF_eq {n : Nat} {l : List Nat} (ho : OR n (gl l)) : lonF n l = true ↔ alk true n (gl l) = none := by
  rw [lon_iff ho]
  exact ⟨fun h row hr => al_get h hr, fun h => al_of h⟩
theorem OR.congr {n : Nat} {g g' : Nat → Nat} (h : OR n g) (e : ∀ i, i < n → g' i = g i) : OR n g' :=
  ⟨h.1, h.2.1, fun i hi => by rw [e i hi]; exact h.2.2.1 i hi, fun i j hi hj w => h.2.2.2 i j hi hj (by rw [← e i hi, ← e j hj]; exact w)⟩
theorem swp_eq {g : Nat → Nat} {a b i : Nat} : upN (upN g a (g b)) b (g a) i = g (if i = b then a else if i = a then b else i) := by
  unfold upN
  split
  · rfl
  · split <;> rfl
theorem OR.swap {n : Nat} {g : Nat → Nat} (h : OR n g) {a b : Nat} (ha : a < n) (hb : b < n) : OR n (upN (upN g a (g b)) b (g a)) := by
  have lt : ∀ i, i < n → (if i = b then a else if i = a then b else i) < n := by
    intro i hi
    split
    · exact ha
    · split
      · exact hb
      · exact hi
  refine ⟨h.1, h.2.1, fun i hi => ?_, fun i j hi hj w => ?_⟩
  · rw [swp_eq]
    exact h.2.2.1 _ (lt i hi)
  · rw [swp_eq, swp_eq] at w
    have := h.2.2.2 _ _ (lt i hi) (lt j hj) w
    split at this
    · split at this
      · omega
      · split at this <;> omega
    · split at this
      · split at this
        · omega
        · split at this <;> omega
      · split at this
        · omega
        · split at this <;> omega
theorem OR_rv {n : Nat} : ∀ (f a b : Nat) (g : Nat → Nat), b < n → OR n g → OR n (rv f g a b) := by
  intro f
  induction f with
  | zero => intro a b g hb h; exact h
  | succ f ih =>
    intro a b g hb h
    rw [rv]
    split
    · exact ih _ _ _ (by omega) (h.swap (by omega) hb)
    · exact h
theorem fj_le {g : Nat → Nat} {v : Nat} : ∀ j, fj g v j ≤ j := by
  intro j
  induction j with
  | zero => rw [fj]; exact Nat.le_refl _
  | succ j ih =>
    rw [fj]
    split
    · omega
    · exact Nat.le_refl _
theorem fi_lt {g : Nat → Nat} : ∀ {k i : Nat}, fi g k = some i → i < k ∧ ¬ g (i + 1) < g i := by
  intro k
  induction k with
  | zero => intro i h; cases h
  | succ k ih =>
    intro i h
    rw [fi] at h
    split at h
    · have := ih h
      exact ⟨by omega, this.2⟩
    · rename_i hq
      cases h
      exact ⟨by omega, hq⟩
theorem OR_nxG {n : Nat} {g : Nat → Nat} (h : OR n g) {i : Nat} (hi : i < n) : OR n (nxG n g i) := by
  have h1 := h.1
  unfold nxG
  have := fj_le (g := g) (v := g i) (n - 1)
  exact OR_rv _ _ _ _ (by omega) (h.swap hi (by omega))
theorem nck_ok {n j : Nat} (h1 : 1 ≤ n) (h7 : n ≤ 7) (hj : j < fct n) : nck n j = true := by
  match n, h1, h7 with
  | 1, _, _ => exact ck_get nck_1 (Nat.zero_le _) (Nat.lt_of_lt_of_le hj (by decide))
  | 2, _, _ => exact ck_get nck_2 (Nat.zero_le _) (Nat.lt_of_lt_of_le hj (by decide))
  | 3, _, _ => exact ck_get nck_3 (Nat.zero_le _) (Nat.lt_of_lt_of_le hj (by decide))
  | 4, _, _ => exact ck_get nck_4 (Nat.zero_le _) (Nat.lt_of_lt_of_le hj (by decide))
  | 5, _, _ => exact ck_get nck_5 (Nat.zero_le _) (Nat.lt_of_lt_of_le hj (by decide))
  | 6, _, _ => exact ck_get nck_6 (Nat.zero_le _) (Nat.lt_of_lt_of_le hj (by decide))
  | 7, _, _ =>
    have hj : j < 5040 := hj
    by_cases q1 : j < 1024
    · exact ck_get nck_7_0 (Nat.zero_le _) q1
    · by_cases q2 : j < 2048
      · exact ck_get nck_7_1 (by omega) q2
      · by_cases q3 : j < 3072
        · exact ck_get nck_7_2 (by omega) q3
        · by_cases q4 : j < 4096
          · exact ck_get nck_7_3 (by omega) q4
          · exact ck_get nck_7_4 (by omega) (show j < 4096 + 1024 by omega)
theorem nx_step {n j : Nat} (h1 : 1 ≤ n) (h7 : n ≤ 7) (hj : j < fct n) : (fi (gl (unk n j)) (n - 1) = none ∧ fct n = j + 1) ∨ ∃ i, fi (gl (unk n j)) (n - 1) = some i ∧ j + 1 < fct n ∧ ∀ k, k < n → nxG n (gl (unk n j)) i k = gl (unk n (j + 1)) k := by
  have h := nck_ok h1 h7 hj
  unfold nck at h
  rw [decide_eq_false (by omega), Bool.false_or] at h
  cases hf : fi (gl (unk n j)) (n - 1) with
  | none =>
    rw [hf] at h
    exact Or.inl ⟨rfl, of_decide_eq_true h⟩
  | some i =>
    rw [hf] at h
    dsimp only at h
    rw [Bool.and_eq_true] at h
    exact Or.inr ⟨i, rfl, of_decide_eq_true h.1, fun k hk => Nat.eq_of_beq_eq_true (al_get (f := fun k => (nxG n (gl (unk n j)) i k).beq (gl (unk n (j + 1)) k)) h.2 hk)⟩
theorem unk_0 : ∀ n : Nat, n < 8 → ∀ k : Nat, k < n → gl (unk n 0) k = k := by decide +kernel
theorem unk_or {n : Nat} (h1 : 1 ≤ n) (h7 : n ≤ 7) : ∀ j, j < fct n → OR n (gl (unk n j)) := by
  intro j
  induction j with
  | zero =>
    intro hj
    have e := unk_0 n (by omega)
    exact ⟨h1, by omega, fun i hi => by rw [e i hi]; exact hi, fun i j hi hj w => by rw [e i hi, e j hj] at w; exact w⟩
  | succ j ih =>
    intro hj
    rcases nx_step h1 h7 (show j < fct n by omega) with ⟨-, q⟩ | ⟨i, q1, q2, q3⟩
    · omega
    · have := fi_lt q1
      exact (OR_nxG (ih (by omega)) (show i < n by omega)).congr (fun k hk => (q3 k hk).symm)
theorem rem_all {n : Nat} (h1 : 1 ≤ n) (h7 : n ≤ 7) : rem n 0 (fct n) = lns n := by
  match n, h1, h7 with
  | 1, _, _ => exact rem_1
  | 2, _, _ => exact rem_2
  | 3, _, _ => exact rem_3
  | 4, _, _ => exact rem_4
  | 5, _, _ => exact rem_5
  | 6, _, _ => exact rem_6.1
  | 7, _, _ => exact rem_7
theorem cnt_5 : ∀ n : Nat, n < 6 → cnt n ≤ 200 := by decide +kernel
theorem cnt_le {n : Nat} (h1 : 1 ≤ n) (h7 : n ≤ 7) : cnt n ≤ 200 := by
  match n, h1, h7 with
  | 1, _, _ => exact cnt_5 1 (by decide)
  | 2, _, _ => exact cnt_5 2 (by decide)
  | 3, _, _ => exact cnt_5 3 (by decide)
  | 4, _, _ => exact cnt_5 4 (by decide)
  | 5, _, _ => exact cnt_5 5 (by decide)
  | 6, _, _ =>
    unfold cnt
    rw [rem_6.2]
    decide
  | 7, _, _ =>
    rw [cnt_7]
    decide
theorem rem_succ {n j k : Nat} : rem n j (k + 1) = if lonF n (unk n j) = true then unk n j :: rem n (j + 1) k else rem n (j + 1) k := by
  unfold rem
  rw [List.range'_succ, List.map_cons, List.filter_cons]
theorem unr_len : ∀ (k : Nat) (r : List Nat) (i : Nat), (unr k r i).length = k := by
  intro k
  induction k with
  | zero => intro r i; rfl
  | succ k ih =>
    intro r i
    rw [unr, List.length_cons, ih]
theorem lns_mem {n : Nat} (h1 : 1 ≤ n) (h7 : n ≤ 7) {l : List Nat} (h : l ∈ lns n) : l.length = n ∧ OR n (gl l) ∧ alk true n (gl l) = none := by
  rw [← rem_all h1 h7] at h
  unfold rem at h
  rw [List.mem_filter] at h
  obtain ⟨h2, h3⟩ := h
  obtain ⟨j, hj, rfl⟩ := List.mem_map.mp h2
  rw [List.mem_range'_1] at hj
  have ho := unk_or h1 h7 j (by omega)
  exact ⟨unr_len _ _ _, ho, (lonF_eq ho).mp h3⟩
