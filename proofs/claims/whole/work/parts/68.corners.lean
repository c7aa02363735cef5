/-! corners taken and put -/
theorem as_new {x : Nat → Nat → Int32} {S L : Nat → Option Nat} {m : Nat → Nat → Int32} {dyn : lk_H} {n j : Nat} {f : Nat → Int32} {v : Int32} {K : lk_H → Prop} (hj : j < n) (hn : n ≤ 1000) (q : K (hp x S L m (dyn ++ [.inl (0, (n, .inl (upd f j v)))]))) : lk_as (hp x S L m (dyn ++ [.inl (0, (n, .inl f))])) (44 + dyn.length) (nI j) v K := by
  refine ⟨n, f, by rw [hp_dyn, List.getElem?_append_right (Nat.le_refl _), Nat.sub_self]; rfl, vp_in_nI hj (by omega), ?_⟩
  rw [nI_clamp (by omega), hp_dynset, List.set_append_right _ _ (Nat.le_refl _), Nat.sub_self]
  exact q
theorem al_new {x : Nat → Nat → Int32} {S L : Nat → Option Nat} {m : Nat → Nat → Int32} {dyn : lk_H} {n : Nat} {f : Nat → Int32} {K : Int32 → Prop} (q : K (nI n)) : lk_al2 (hp x S L m (dyn ++ [.inl (0, (n, .inl f))])) (44 + dyn.length) K :=
  ⟨0, (n, .inl f), by rw [hp_dyn, List.getElem?_append_right (Nat.le_refl _), Nat.sub_self]; rfl, by decide, q⟩
theorem SC.mth {m m1 : Nat → Nat → Int32} {p n : Nat} {g : Nat → Nat} (h : SC m m1) (hp10 : p < 10) (hm : mth m p n g) : mth m1 p n g := by
  obtain ⟨h1, h2, h3, h4⟩ := hm
  refine ⟨h1, h2, by rw [(h.1 p hp10).2]; exact h3, fun i hi => ?_⟩
  rw [h.2.1 _ (by omega)]
  exact h4 i hi
/-- rows and columns without a corner -/
def gT (c : Nat) (g : Nat → Nat) : Nat → Nat := fun k => g (k + (1 - c / 2)) - (1 - c % 2)
/-- has a corner its dot -/
def dC (n c : Nat) (g : Nat → Nat) : Prop := g (if c / 2 = 1 then n - 1 else 0) = (if c % 2 = 1 then n - 1 else 0)
theorem gT_lo {n c : Nat} {g : Nat → Nat} (h : OR n g) (hc : c < 4) (hd : dC n c g) {k : Nat} (hk : k < n - 1) : k + (1 - c / 2) < n ∧ 1 - c % 2 ≤ g (k + (1 - c / 2)) ∧ gT c g k < n - 1 := by
  obtain ⟨h1, h2, h3, h4⟩ := h
  unfold dC at hd
  have hlt : k + (1 - c / 2) < n := by omega
  have hne : ¬ g (k + (1 - c / 2)) = (if c % 2 = 1 then n - 1 else 0) := by
    rw [← hd]
    intro w
    have h0 : (if c / 2 = 1 then n - 1 else 0) < n := by split <;> omega
    have := h4 _ _ hlt h0 w
    split at this <;> omega
  have hg := h3 _ hlt
  refine ⟨hlt, ?_, ?_⟩
  · split at hne <;> omega
  · unfold gT
    split at hne <;> omega
theorem gT_or {n c : Nat} {g : Nat → Nat} (h : OR n g) (hc : c < 4) (hd : dC n c g) (hn : 2 ≤ n) : OR (n - 1) (gT c g) := by
  refine ⟨by omega, by have := h.2.1; omega, fun i hi => (gT_lo h hc hd hi).2.2, fun i j hi hj e => ?_⟩
  have a1 := gT_lo h hc hd hi
  have a2 := gT_lo h hc hd hj
  unfold gT at e
  have := h.2.2.2 _ _ a1.1 a2.1 (by omega)
  omega
/-- rows and columns with a corner -/
def gP (n c : Nat) (g : Nat → Nat) : Nat → Nat := fun i => if i = (if c / 2 = 1 then n else 0) then (if c % 2 = 1 then n else 0) else g (i - (1 - c / 2)) + (1 - c % 2)
theorem gP_in {n c k : Nat} {g : Nat → Nat} (hc : c < 4) (hk : k < n) : gP n c g (k + (1 - c / 2)) = g k + (1 - c % 2) := by
  unfold gP
  rw [if_neg (by split <;> omega), Nat.add_sub_cancel]
theorem gP_at {n c : Nat} {g : Nat → Nat} : gP n c g (if c / 2 = 1 then n else 0) = (if c % 2 = 1 then n else 0) := by
  unfold gP
  rw [if_pos rfl]
theorem gP_cases {n c i : Nat} (hc : c < 4) (hi : i < n + 1) : i = (if c / 2 = 1 then n else 0) ∨ ∃ k, k < n ∧ i = k + (1 - c / 2) := by
  by_cases h : i = (if c / 2 = 1 then n else 0)
  · exact Or.inl h
  · refine Or.inr ⟨i - (1 - c / 2), ?_, ?_⟩
    · split at h <;> omega
    · split at h <;> omega
theorem gP_or {n c : Nat} {g : Nat → Nat} (h : OR n g) (hc : c < 4) (hn : n ≤ 15) : OR (n + 1) (gP n c g) := by
  obtain ⟨h1, h2, h3, h4⟩ := h
  refine ⟨by omega, by omega, fun i hi => ?_, fun i j hi hj e => ?_⟩
  · rcases gP_cases hc hi with rfl | ⟨k, hk, rfl⟩
    · rw [gP_at]
      split <;> omega
    · rw [gP_in hc hk]
      have := h3 k hk
      omega
  · rcases gP_cases hc hi with rfl | ⟨k, hk, rfl⟩
    · rcases gP_cases hc hj with rfl | ⟨k2, hk2, rfl⟩
      · rfl
      · rw [gP_at, gP_in hc hk2] at e
        have := h3 k2 hk2
        split at e <;> omega
    · rcases gP_cases hc hj with rfl | ⟨k2, hk2, rfl⟩
      · rw [gP_at, gP_in hc hk] at e
        have := h3 k hk
        split at e <;> omega
      · rw [gP_in hc hk, gP_in hc hk2] at e
        have := h4 k k2 hk hk2 (by omega)
        omega
theorem nI_zero_add (a : Nat) : nI a + 0 = nI a := nI_add a 0
theorem nI_zero_sub {a : Nat} (h : a < 2 ^ 29) : nI a - 0 = nI a := nI_sub (b := 0) (Nat.zero_le _) h
section CORNERS
variable {X : lk_X} {d : Nat} {x : Nat → Nat → Int32} {S L : Nat → Option Nat} {m : Nat → Nat → Int32} {dyn : lk_H}
theorem oc_cases {c : Nat} (h : oc c = true) : c = 0 ∨ c = 4 := by
  unfold oc at h
  rw [Bool.or_eq_true, beq_iff_eq, beq_iff_eq] at h
  exact h
/-- what is found at a place that is to hold an order; of which class it is -/
theorem Rel.ord2 (h : Rel x S L m dyn) {p : Nat} (hp10 : p < 10) :
    (∃ f : Int32, (f = 1 ∨ f = 3) ∧ (∀ X d, lk_ev X (d + 1) 100 [.ref 0, .int (nI p)] (hp x S L m dyn) (some .null) (hp x S L m dyn)) ∧ (∀ X d, lk_ev X (d + 1) 101 [.ref 0, .int (nI p)] (hp x S L m dyn) (some (.int f)) (hp x S L m dyn)) ∧ ∀ X d x' S' L' dyn' m', m' 4 = m 4 → lk_ev X (d + 2) 136 [.ref 29, .int (nI p), .int 1] (hp x' S' L' m' dyn') (some (.int (-1000010 - f))) (hp x' S' L' (ms m' 14 0 f) dyn')) ∨
    ∃ a c b n g, oc c = true ∧ (∀ (x' : Nat → Nat → Int32) (S' L' : Nat → Option Nat) (m' : Nat → Nat → Int32) (l : lk_H), tr (hp x' S' L' m' (dyn ++ l)) (44 + a) c (44 + b) n g) ∧ OR n g ∧ mth m p n g ∧ (∀ X d, lk_ev X (d + 1) 100 [.ref 0, .int (nI p)] (hp x S L m dyn) (some (.ref (44 + a))) (hp x S L m dyn)) ∧ ∀ X d x' S' L' dyn' m', m' 4 = m 4 → lk_ev X (d + 2) 136 [.ref 29, .int (nI p), .int 1] (hp x' S' L' m' dyn') (some (.int 0)) (hp x' S' L' m' dyn') := by
  rcases h.2.2.1.get hp10 with ⟨q1, q2⟩ | ⟨a, c, b, n, g, q1, q2, q3, q4, q5⟩
  · exact Or.inl ⟨1, Or.inl rfl, fun X d => S_x_orderAt_n hp10 q1, fun X d => S_x_noOrder_n hp10 q1, fun X d x' S' L' dyn' m' hm => S_m_refusal0 hp10 (by rw [hm]; exact q2)⟩
  · have hr := q2 x S L m []
    rw [List.append_nil] at hr
    cases hc : oc c with
    | false => exact Or.inl ⟨3, Or.inr rfl, fun X d => S_x_orderAt_k hp10 q1 hr hc, fun X d => S_x_noOrder_k hp10 q1, fun X d x' S' L' dyn' m' hm => S_m_refusal3 (k := 1) hp10 q3.isC (by decide) (by rw [hm]; exact q4) (by rw [ok1, hc]; decide)⟩
    | true => exact Or.inr ⟨a, c, b, n, g, hc, q2, q3.ord hc, q5, fun X d => S_x_orderAt_s hp10 q1 hr hc, fun X d x' S' L' dyn' m' hm => S_m_refusal1 (k := 1) hp10 q3.isC (by decide) (by rw [hm]; exact q4) (by rw [ok1]; exact hc)⟩
theorem S_o_isBelow {h : lk_H} {c : Nat} (hc : c < 4) : lk_ev X (d + 1) 37 [.int (nI c)] h (some (.int (nI (c / 2)))) h := by
  refine E_o_isBelow ?_
  match c, hc with
  | 0, _ => exact br_t (by decide) ⟨rfl, rfl⟩
  | 1, _ => exact br_t (by decide) ⟨rfl, rfl⟩
  | 2, _ => exact br_f (by decide) ⟨rfl, rfl⟩
  | 3, _ => exact br_f (by decide) ⟨rfl, rfl⟩
theorem S_o_isRight {h : lk_H} {c : Nat} (hc : c < 4) : lk_ev X (d + 1) 38 [.int (nI c)] h (some (.int (nI (c % 2)))) h := by
  refine E_o_isRight ?_
  match c, hc with
  | 0, _ => exact br_t (by decide) ⟨rfl, rfl⟩
  | 1, _ => exact br_f (by decide) ⟨rfl, rfl⟩
  | 2, _ => exact br_t (by decide) ⟨rfl, rfl⟩
  | 3, _ => exact br_f (by decide) ⟨rfl, rfl⟩
theorem S_o_hasDot {h : lk_H} {a c0 b n c : Nat} {g : Nat → Nat} (ht : tr h a c0 b n g) (hn : 1 ≤ n) (hc : c < 4) (v : Bool) (hv : v = true ↔ dC n c g) : lk_ev X (d + 2) 34 [.ref a, .int (nI c)] h (some (.int (oI v))) h := by
  have h16 := ht.2.2.1
  refine E_o_hasDotInCorner ?_
  have l0 : ∀ {K : Int32 → Prop}, lk_ai h b 0 K ↔ K (nI (g 0)) := ht.2.2.ai (k := 0) hn
  have g0 := ht.2.2.le (k := 0) hn
  have g1 := ht.2.2.le (show n - 1 < n by omega)
  rw [ht.fR has5, ht.2.2.al, (S_o_isBelow hc).iffi, nI_sub1 hn (by omega)]
  have z : ∀ a : Nat, a ≤ 300 → ((nI a = 0) ↔ a = 0) := fun a ha => nI_eq (b := 0) (by omega) (by omega)
  unfold dC at hv
  have fin : ∀ q : Prop, (v = true ↔ q) → (¬ q → (some (Value.int 0) = some (.int (oI v)) ∧ h = h)) ∧ (q → (some (Value.int 1) = some (.int (oI v)) ∧ h = h)) := by
    intro q hq
    refine ⟨fun w => ?_, fun w => ?_⟩
    · have : v = false := by
        cases v with
        | false => rfl
        | true => exact absurd (hq.mp rfl) w
      rw [this]
      exact ⟨rfl, rfl⟩
    · rw [hq.mpr w]
      exact ⟨rfl, rfl⟩
  match c, hc, hv with
  | 0, _, hv =>
    refine br_t (by decide) ((S_o_isRight (c := 0) (by decide)).iffi.mpr (br_t (by decide) ?_))
    rw [ht.fR has5, l0, z _ (by omega)]
    exact fin _ hv
  | 1, _, hv =>
    refine br_t (by decide) ((S_o_isRight (c := 1) (by decide)).iffi.mpr (br_f (by decide) ?_))
    rw [ht.fR has5, l0, nI_eq (by omega) (by omega)]
    exact fin _ hv
  | 2, _, hv =>
    refine br_f (by decide) ((S_o_isRight (c := 2) (by decide)).iffi.mpr (br_t (by decide) ?_))
    rw [ht.fR has5, ht.2.2.ai (show n - 1 < n by omega), z _ (by omega)]
    exact fin _ hv
  | 3, _, hv =>
    refine br_f (by decide) ((S_o_isRight (c := 3) (by decide)).iffi.mpr (br_f (by decide) ?_))
    rw [ht.fR has5, ht.2.2.ai (show n - 1 < n by omega), nI_eq (by omega) (by omega)]
    exact fin _ hv
theorem x_wo_loop {a c0 b n N u l : Nat} {g g' : Nat → Nat} (ht : ∀ f, tr (hp x S L m (dyn ++ [.inl (0, (N, .inl f))])) a c0 b n g) (hN : N ≤ 16) (hg : ∀ j, j < N → j + u < n ∧ l ≤ g (j + u) ∧ g' j = g (j + u) - l) {Q : Option Value → lk_H → Prop} (hQ : ∀ f, (∀ i, i < N → f i = nI (g' i)) → Q (some (.ref (44 + dyn.length))) (hp x S L m (dyn ++ [.inl (0, (N, .inl f))]))) : ∀ (k j : Nat) (f : Nat → Int32), N - j = k → j ≤ N → (∀ i, i < j → f i = nI (g' i)) → lk_wp X (d + 1) 35 40 [.ref a, .retAddr 0, .ref (44 + dyn.length), .int (nI u), .int (nI l), .int (nI j)] [] (hp x S L m (dyn ++ [.inl (0, (N, .inl f))])) Q := by
  intro k
  induction k with
  | zero =>
    intro j f hk hj hf
    exact F_o_columnsWithoutCorner_40 (al_new (br_t (nI_le (by omega) (by omega)) (hQ f (fun i hi => hf i (by omega)))))
  | succ k ih =>
    intro j f hk hj hf
    have hjN : j < N := by omega
    obtain ⟨g1, g2, g3⟩ := hg j hjN
    have gl := (ht f).2.2.le g1
    refine F_o_columnsWithoutCorner_40 (al_new (br_f (nI_ge hjN (by omega)) ?_))
    rw [(ht f).fR has5, nI_add, (ht f).2.2.ai g1, nI_sub g2 (by omega), ← g3, nI_1]
    refine as_new hjN (by omega) (ih (j + 1) _ (by omega) (by omega) (fun i hi => ?_))
    by_cases hij : i = j
    · rw [hij, pk_us]
    · rw [pk_un hij]
      exact hf i (by omega)
theorem S_o_without {a c0 b n c : Nat} {g : Nat → Nat} (ht : ∀ l, tr (hp x S L m (dyn ++ l)) a c0 b n g) (ho : OR n g) (hc : c < 4) (hd : dC n c g) : ∃ f, lk_ev X (d + 2) 35 [.ref a, .int (nI c)] (hp x S L m dyn) (some (.ref (44 + dyn.length))) (hp x S L m (dyn ++ [.inl (0, (n - 1, .inl f))])) ∧ ∀ i, i < n - 1 → f i = nI (gT c g i) := by
  have h16 := ho.2.1
  have h1 := ho.1
  have ht0 := ht []
  rw [List.append_nil] at ht0
  have main : lk_wx X (d + 2) 35 [.ref a, .int (nI c)] (hp x S L m dyn) (fun v h' => ∃ f, v = some (.ref (44 + dyn.length)) ∧ h' = hp x S L m (dyn ++ [.inl (0, (n - 1, .inl f))]) ∧ ∀ i, i < n - 1 → f i = nI (gT c g i)) := by
    refine E_o_columnsWithoutCorner ?_
    rw [ht0.fR has5, ht0.2.2.al, nI_sub1 h1 (by omega), nw_nI (by omega), hp_app, nI_clamp (by omega), hp_length, (S_o_isBelow hc).iffi]
    have key : ∀ u l, u = 1 - c / 2 → l = 1 - c % 2 → lk_wp X (d + 2) 35 40 [.ref a, .retAddr 0, .ref (44 + dyn.length), .int (nI u), .int (nI l), .int 0] [] (hp x S L m (dyn ++ [.inl (0, (n - 1, .inl (fun _ => 0)))])) (fun v h' => ∃ f, v = some (.ref (44 + dyn.length)) ∧ h' = hp x S L m (dyn ++ [.inl (0, (n - 1, .inl f))]) ∧ ∀ i, i < n - 1 → f i = nI (gT c g i)) := by
      intro u l hu hl
      subst hu
      subst hl
      exact x_wo_loop (d := d + 1) (g' := gT c g) (fun f => ht _) (by omega) (fun j hj => ⟨(gT_lo ho hc hd hj).1, (gT_lo ho hc hd hj).2.1, rfl⟩) (fun f hf => ⟨f, rfl, rfl, hf⟩) (n - 1) 0 _ rfl (Nat.zero_le _) (fun i hi => by omega)
    match c, hc, key with
    | 0, _, key => exact br_t (by decide) ((S_o_isRight (c := 0) (by decide)).iffi.mpr (br_t (by decide) (key 1 1 rfl rfl)))
    | 1, _, key => exact br_t (by decide) ((S_o_isRight (c := 1) (by decide)).iffi.mpr (br_f (by decide) (key 1 0 rfl rfl)))
    | 2, _, key => exact br_f (by decide) ((S_o_isRight (c := 2) (by decide)).iffi.mpr (br_t (by decide) (key 0 1 rfl rfl)))
    | 3, _, key => exact br_f (by decide) ((S_o_isRight (c := 3) (by decide)).iffi.mpr (br_f (by decide) (key 0 0 rfl rfl)))
  obtain ⟨v, h', ev, f, rfl, rfl, h2⟩ := main.ex
  exact ⟨f, ev, h2⟩
theorem x_wi_loop {a c0 b n u l c : Nat} {g : Nat → Nat} (hu : u = 1 - c / 2) (hl : l = 1 - c % 2) (hc : c < 4) (ht : ∀ f, tr (hp x S L m (dyn ++ [.inl (0, (n + 1, .inl f))])) a c0 b n g) (hn : n ≤ 15) {Q : Option Value → lk_H → Prop} (hQ : ∀ f, (∀ i, i < n + 1 → f i = nI (gP n c g i)) → Q (some (.ref (44 + dyn.length))) (hp x S L m (dyn ++ [.inl (0, (n + 1, .inl f))]))) : ∀ (k j : Nat) (f : Nat → Int32), n - j = k → j ≤ n → (∀ i, i < j → f (i + u) = nI (g i + l)) → lk_wp X (d + 2) 36 43 [.ref a, .int (nI c), .int (nI n), .ref (44 + dyn.length), .int (nI u), .int (nI l), .int (nI j)] [] (hp x S L m (dyn ++ [.inl (0, (n + 1, .inl f))])) Q := by
  intro k
  induction k with
  | zero =>
    intro j f hk hj hf
    refine F_o_columnsWithCorner_43 (br_t (nI_le (by omega) (by omega)) ?_)
    rw [(S_o_isBelow hc).iffi]
    have key : ∀ r v, r = (if c / 2 = 1 then n else 0) → v = (if c % 2 = 1 then n else 0) → lk_as (hp x S L m (dyn ++ [.inl (0, (n + 1, .inl f))])) (44 + dyn.length) (nI r) (nI v) (fun h5 => Q (some (.ref (44 + dyn.length))) h5) := by
      intro r v hr hv
      refine as_new (by rw [hr]; split <;> omega) (by omega) (hQ _ (fun i hi => ?_))
      by_cases hir : i = r
      · rw [hir, pk_us, hr, gP_at, hv]
      · rw [pk_un hir]
        rcases gP_cases hc hi with q | ⟨k, hk2, rfl⟩
        · rw [hr] at hir
          exact absurd q hir
        · rw [gP_in hc hk2, ← hu, ← hl]
          exact hf k (by omega)
    match c, hc, key with
    | 0, _, key => exact br_t (by decide) ((S_o_isRight (c := 0) (by decide)).iffi.mpr (br_t (by decide) (key 0 0 rfl rfl)))
    | 1, _, key => exact br_t (by decide) ((S_o_isRight (c := 1) (by decide)).iffi.mpr (br_f (by decide) (key 0 n rfl rfl)))
    | 2, _, key => exact br_f (by decide) ((S_o_isRight (c := 2) (by decide)).iffi.mpr (br_t (by decide) (key n 0 rfl rfl)))
    | 3, _, key => exact br_f (by decide) ((S_o_isRight (c := 3) (by decide)).iffi.mpr (br_f (by decide) (key n n rfl rfl)))
  | succ k ih =>
    intro j f hk hj hf
    have hjn : j < n := by omega
    have gj := (ht f).2.2.le hjn
    refine F_o_columnsWithCorner_43 (br_f (nI_ge hjn (by omega)) ?_)
    rw [(ht f).fR has5, (ht f).2.2.ai hjn, nI_add, nI_add, nI_1]
    refine as_new (by omega) (by omega) (ih (j + 1) _ (by omega) (by omega) (fun i hi => ?_))
    by_cases hij : i = j
    · rw [hij, pk_us]
    · rw [pk_un (by omega)]
      exact hf i (by omega)
theorem S_o_with {a c0 b n c : Nat} {g : Nat → Nat} (ht : ∀ l, tr (hp x S L m (dyn ++ l)) a c0 b n g) (hc : c < 4) (hn : n ≤ 15) : ∃ f, lk_ev X (d + 2) 36 [.ref a, .int (nI c)] (hp x S L m dyn) (some (.ref (44 + dyn.length))) (hp x S L m (dyn ++ [.inl (0, (n + 1, .inl f))])) ∧ ∀ i, i < n + 1 → f i = nI (gP n c g i) := by
  have ht0 := ht []
  rw [List.append_nil] at ht0
  have main : lk_wx X (d + 2) 36 [.ref a, .int (nI c)] (hp x S L m dyn) (fun v h' => ∃ f, v = some (.ref (44 + dyn.length)) ∧ h' = hp x S L m (dyn ++ [.inl (0, (n + 1, .inl f))]) ∧ ∀ i, i < n + 1 → f i = nI (gP n c g i)) := by
    refine E_o_columnsWithCorner ?_
    rw [ht0.fR has5, ht0.2.2.al, nI_1, nw_nI (by omega), hp_app, nI_clamp (by omega), hp_length, (S_o_isBelow hc).iffi]
    have key : ∀ u l, u = 1 - c / 2 → l = 1 - c % 2 → lk_wp X (d + 2) 36 43 [.ref a, .int (nI c), .int (nI n), .ref (44 + dyn.length), .int (nI u), .int (nI l), .int 0] [] (hp x S L m (dyn ++ [.inl (0, (n + 1, .inl (fun _ => 0)))])) (fun v h' => ∃ f, v = some (.ref (44 + dyn.length)) ∧ h' = hp x S L m (dyn ++ [.inl (0, (n + 1, .inl f))]) ∧ ∀ i, i < n + 1 → f i = nI (gP n c g i)) := by
      intro u l hu hl
      exact x_wi_loop (d := d) hu hl hc (fun f => ht _) hn (fun f hf => ⟨f, rfl, rfl, hf⟩) n 0 _ rfl (Nat.zero_le _) (fun i hi => by omega)
    match c, hc, key with
    | 0, _, key => exact br_t (by decide) ((S_o_isRight (c := 0) (by decide)).iffi.mpr (br_t (by decide) (key 1 1 rfl rfl)))
    | 1, _, key => exact br_t (by decide) ((S_o_isRight (c := 1) (by decide)).iffi.mpr (br_f (by decide) (key 1 0 rfl rfl)))
    | 2, _, key => exact br_f (by decide) ((S_o_isRight (c := 2) (by decide)).iffi.mpr (br_t (by decide) (key 0 1 rfl rfl)))
    | 3, _, key => exact br_f (by decide) ((S_o_isRight (c := 3) (by decide)).iffi.mpr (br_f (by decide) (key 0 0 rfl rfl)))
  obtain ⟨v, h', ev, f, rfl, rfl, h2⟩ := main.ex
  exact ⟨f, ev, h2⟩
theorem m_take_loop {t p n c : Nat} {g : Nat → Nat} (hp10 : p < 10) (hm : mth m p n g) (ho : OR n g) (hc : c < 4) (hd : dC n c g) {Q : Option Value → lk_H → Prop} (hQ : ∀ m1, MD m m1 (gT c g) (n - 1) → m1 5 10 = nI (n - 1) → lk_wxi X (d + 1) 127 [.ref 29, .int (nI t), .int 1] (hp x S L m1 dyn) (fun r h => Q (some (.int r)) h)) : ∀ (u j : Nat) (m1 : Nat → Nat → Int32), n - 1 - j = u → j ≤ n - 1 → MD m m1 (gT c g) j → m1 5 10 = nI (n - 1) → lk_wp X (d + 2) 137 123 [.ref 29, .int (nI t), .int (nI p), .int (nI c), .retAddr 0, .int (nI n), .retAddr 0, .retAddr 0, .int (nI j)] [] (hp x S L m1 dyn) Q := by
  have h16 := ho.2.1
  have hn1 := ho.1
  intro u
  induction u with
  | zero =>
    intro j m1 hu hj hM h5
    refine F_m_take_123 (br_t (by rw [nI_sub1 hn1 (by omega)]; exact nI_le (by omega) (by omega)) ?_)
    rw [show j = n - 1 by omega] at hM
    rw [hp_v29]
    exact hQ m1 hM h5
  | succ u ih =>
    intro j m1 hu hj hM h5
    have hjn : j < n - 1 := by omega
    have hm1 := hM.1.mth hp10 hm
    obtain ⟨g1, g2, g3⟩ := gT_lo ho hc hd hjn
    have gl := ho.2.2.1 _ g1
    refine F_m_take_123 (br_f (by rw [nI_sub1 hn1 (by omega)]; exact nI_ge (by omega) (by omega)) ?_)
    match c, hc, g1, g2, g3, gl, hM, hQ, ih with
    | 0, _, g1, g2, g3, gl, hM, hQ, ih =>
      have g1 : j + 1 < n := g1
      have g2 : 1 ≤ g (j + 1) := g2
      have gl : g (j + 1) < n := gl
      refine br_f (by decide) ?_
      rw [hp_v29, nI_1, (S_m_at1 hm1 g1).iffi]
      refine ⟨by decide, br_n2 (by decide) ?_⟩
      rw [nI_sub1 g2 (by omega), hp_v29, (S_m_make (show j < 16 by omega)).iffv]
      exact ih (j + 1) _ (by omega) (by omega) hM.go (by rw [ms_ne (by decide)]; exact h5)
    | 1, _, g1, g2, g3, gl, hM, hQ, ih =>
      have g1 : j + 1 < n := g1
      have g2 : 0 ≤ g (j + 1) := g2
      have gl : g (j + 1) < n := gl
      refine br_f (by decide) ?_
      rw [hp_v29, nI_1, (S_m_at1 hm1 g1).iffi]
      refine ⟨by decide, br_n1 (by decide) ?_⟩
      rw [nI_zero_sub (by omega), hp_v29, (S_m_make (show j < 16 by omega)).iffv]
      exact ih (j + 1) _ (by omega) (by omega) hM.go (by rw [ms_ne (by decide)]; exact h5)
    | 2, _, g1, g2, g3, gl, hM, hQ, ih =>
      have g1 : j < n := g1
      have g2 : 1 ≤ g (j) := g2
      have gl : g (j) < n := gl
      refine br_t (by decide) ?_
      rw [hp_v29, nI_1, (S_m_at1 hm1 g1).iffi]
      refine ⟨by decide, br_n2 (by decide) ?_⟩
      rw [nI_sub1 g2 (by omega), hp_v29, (S_m_make (show j < 16 by omega)).iffv]
      exact ih (j + 1) _ (by omega) (by omega) hM.go (by rw [ms_ne (by decide)]; exact h5)
    | 3, _, g1, g2, g3, gl, hM, hQ, ih =>
      have g1 : j < n := g1
      have g2 : 0 ≤ g (j) := g2
      have gl : g (j) < n := gl
      refine br_t (by decide) ?_
      rw [hp_v29, nI_1, (S_m_at1 hm1 g1).iffi]
      refine ⟨by decide, br_n1 (by decide) ?_⟩
      rw [nI_zero_sub (by omega), hp_v29, (S_m_make (show j < 16 by omega)).iffv]
      exact ih (j + 1) _ (by omega) (by omega) hM.go (by rw [ms_ne (by decide)]; exact h5)
theorem m_put_loop {t p n c : Nat} {g : Nat → Nat} (hp10 : p < 10) (hm : mth m p n g) (hn : n ≤ 15) (hc : c < 4) {Q : Option Value → lk_H → Prop} (hQ : ∀ m1, MD m m1 (gP n c g) (n + 1) → m1 5 10 = nI (n + 1) → lk_wxi X (d + 1) 127 [.ref 29, .int (nI t), .int 1] (hp x S L m1 dyn) (fun r h => Q (some (.int r)) h)) : ∀ (u j : Nat) (m1 : Nat → Nat → Int32), n - j = u → j ≤ n → SC m m1 → (∀ i, i < j → m1 6 (160 + (i + (1 - c / 2))) = nI (g i + (1 - c % 2))) → m1 5 10 = nI (n + 1) → lk_wp X (d + 2) 138 77 [.ref 29, .int (nI t), .int (nI p), .int (nI c), .retAddr 0, .int (nI n), .int (nI j)] [] (hp x S L m1 dyn) Q := by
  intro u
  induction u with
  | zero =>
    intro j m1 hu hj hM hs h5
    refine F_m_put_77 (br_t (nI_le (by omega) (by omega)) ?_)
    have key : ∀ r v, r = (if c / 2 = 1 then n else 0) → v = (if c % 2 = 1 then n else 0) → MD m (ms m1 6 (160 + r) (nI v)) (gP n c g) (n + 1) := by
      intro r v hr hv
      refine ⟨hM.m6 (by omega), fun i hi => ?_⟩
      rw [ms_same]
      by_cases hir : i = r
      · rw [hir, pk_us, hr, gP_at, hv]
      · rw [pk_un (by omega)]
        rcases gP_cases hc hi with q | ⟨k, hk2, rfl⟩
        · rw [hr] at hir
          exact absurd q hir
        · rw [gP_in hc hk2]
          exact hs k (by omega)
    match c, hc, key, hQ with
    | 0, _, key, hQ =>
      refine br_f (by decide) ⟨by decide, br_n2 (by decide) ?_⟩
      rw [hp_v29]
      have mk := S_m_make (X := X) (d := d) (x := x) (S := S) (L := L) (m := m1) (dyn := dyn) (k := 0) (v := nI 0) (by omega)
      refine mk.iffv.mpr ?_
      rw [hp_v29]
      exact hQ _ (key 0 0 rfl rfl) (by rw [ms_ne (by decide)]; exact h5)
    | 1, _, key, hQ =>
      refine br_f (by decide) ⟨by decide, br_n1 (by decide) ?_⟩
      rw [hp_v29]
      have mk := S_m_make (X := X) (d := d) (x := x) (S := S) (L := L) (m := m1) (dyn := dyn) (k := 0) (v := nI n) (by omega)
      refine mk.iffv.mpr ?_
      rw [hp_v29]
      exact hQ _ (key 0 n rfl rfl) (by rw [ms_ne (by decide)]; exact h5)
    | 2, _, key, hQ =>
      refine br_t (by decide) ⟨by decide, br_n2 (by decide) ?_⟩
      rw [hp_v29]
      have mk := S_m_make (X := X) (d := d) (x := x) (S := S) (L := L) (m := m1) (dyn := dyn) (k := n) (v := nI 0) (by omega)
      refine mk.iffv.mpr ?_
      rw [hp_v29]
      exact hQ _ (key n 0 rfl rfl) (by rw [ms_ne (by decide)]; exact h5)
    | 3, _, key, hQ =>
      refine br_t (by decide) ⟨by decide, br_n1 (by decide) ?_⟩
      rw [hp_v29]
      have mk := S_m_make (X := X) (d := d) (x := x) (S := S) (L := L) (m := m1) (dyn := dyn) (k := n) (v := nI n) (by omega)
      refine mk.iffv.mpr ?_
      rw [hp_v29]
      exact hQ _ (key n n rfl rfl) (by rw [ms_ne (by decide)]; exact h5)
  | succ u ih =>
    intro j m1 hu hj hM hs h5
    have hjn : j < n := by omega
    have hm1 := hM.mth hp10 hm
    have gl := (hm.2.2.2 j hjn).2
    refine F_m_put_77 (br_f (nI_ge hjn (by omega)) ?_)
    match c, hc, hs, hQ, ih with
    | 0, _, hs, hQ, ih =>
      refine br_f (by decide) ?_
      rw [hp_v29, (S_m_at1 hm1 hjn).iffi]
      refine ⟨by decide, br_n2 (by decide) ?_⟩
      rw [nI_1, hp_v29, nI_1, (S_m_make (show j + 1 < 16 by omega)).iffv]
      refine ih (j + 1) _ (by omega) (by omega) (hM.m6 (by omega)) (fun i hi => ?_) (by rw [ms_ne (by decide)]; exact h5)
      rw [ms_same]
      by_cases hij : i = j
      · rw [hij]
        exact pk_us
      · rw [pk_un (by omega)]
        exact hs i (by omega)
    | 1, _, hs, hQ, ih =>
      refine br_f (by decide) ?_
      rw [hp_v29, (S_m_at1 hm1 hjn).iffi]
      refine ⟨by decide, br_n1 (by decide) ?_⟩
      rw [nI_zero_add, hp_v29, nI_1, (S_m_make (show j + 1 < 16 by omega)).iffv]
      refine ih (j + 1) _ (by omega) (by omega) (hM.m6 (by omega)) (fun i hi => ?_) (by rw [ms_ne (by decide)]; exact h5)
      rw [ms_same]
      by_cases hij : i = j
      · rw [hij]
        exact pk_us
      · rw [pk_un (by omega)]
        exact hs i (by omega)
    | 2, _, hs, hQ, ih =>
      refine br_t (by decide) ?_
      rw [hp_v29, (S_m_at1 hm1 hjn).iffi]
      refine ⟨by decide, br_n2 (by decide) ?_⟩
      rw [nI_1, hp_v29, nI_1, (S_m_make (show j < 16 by omega)).iffv]
      refine ih (j + 1) _ (by omega) (by omega) (hM.m6 (by omega)) (fun i hi => ?_) (by rw [ms_ne (by decide)]; exact h5)
      rw [ms_same]
      by_cases hij : i = j
      · rw [hij]
        exact pk_us
      · rw [pk_un (by omega)]
        exact hs i (by omega)
    | 3, _, hs, hQ, ih =>
      refine br_t (by decide) ?_
      rw [hp_v29, (S_m_at1 hm1 hjn).iffi]
      refine ⟨by decide, br_n1 (by decide) ?_⟩
      rw [nI_zero_add, hp_v29, nI_1, (S_m_make (show j < 16 by omega)).iffv]
      refine ih (j + 1) _ (by omega) (by omega) (hM.m6 (by omega)) (fun i hi => ?_) (by rw [ms_ne (by decide)]; exact h5)
      rw [ms_same]
      by_cases hij : i = j
      · rw [hij]
        exact pk_us
      · rw [pk_un (by omega)]
        exact hs i (by omega)
theorem T_take (h : Rel x S L m dyn) (a b c : Int32) : TE X (d + 6) 74 137 [.int a, .int b, .int c] x S L m dyn := by
  have e0 : (0 : Int32).toInt = 0 := rfl
  have e4 : (4 : Int32).toInt = 4 := rfl
  by_cases ha : 0 ≤ a.toInt ∧ a.toInt ≤ 9
  · by_cases hb : 0 ≤ b.toInt ∧ b.toInt ≤ 9
    · by_cases hc : 0 ≤ c.toInt ∧ c.toInt ≤ 3
      · obtain ⟨t, rfl, ht1, -⟩ := i32_nat ha.1
        obtain ⟨p, rfl, hp1, -⟩ := i32_nat hb.1
        obtain ⟨cc, rfl, hc1, -⟩ := i32_nat hc.1
        have ht10 : t < 10 := by omega
        have hp10 : p < 10 := by omega
        rcases h.ord2 hp10 with ⟨f, hf, o1, o2, o3⟩ | ⟨a1, c1, b1, n1, g1, hoc, t1, or1, m1, o1, o3⟩
        · refine TE.mk0 (r := -1000010 - f) (E_x_take ?_) (E_m_take ?_) (h.st f)
          · rw [S_x_isPlace.iffi]
            refine br_f (bI_t ha) ?_
            rw [S_x_isPlace.iffi]
            refine br_f (bI_t hb) ?_
            refine br_f (by rw [i32_lt]; omega) (br_t (by rw [i32_lt]; omega) ?_)
            rw [hp_v0, (o1 X (d + 4)).iffn, hp_v0, (o2 X (d + 4)).iffi, hp_v0, S_x_found.iffi]
            exact ⟨rfl, rfl⟩
          · rw [S_m_isPlace.iffi]
            refine br_f (bI_t ha) ?_
            rw [S_m_isPlace.iffi]
            refine br_f (bI_t hb) ?_
            rw [S_m_in.iffi, i64_of]
            refine br_n1 (bI_t hc) ?_
            rw [hp_v29, (o3 X (d + 3) _ _ _ _ m rfl).iffi]
            rcases hf with rfl | rfl
            · exact br_f (by decide) ⟨rfl, rfl⟩
            · exact br_f (by decide) ⟨rfl, rfl⟩
        · have t1' : tr (hp x S L m dyn) (44 + a1) c1 (44 + b1) n1 g1 := by
            have := t1 x S L m []
            rw [List.append_nil] at this
            exact this
          have hn16 := or1.2.1
          have hn1 := or1.1
          have hcc : cc < 4 := by omega
          have hc4 : c1 = 0 ∨ c1 = 4 := oc_cases hoc
          have vc : ∀ {j : Nat} {l : lk_H} {K : Nat → Prop}, lk_vc (hp x S L m (dyn ++ l)) (44 + a1) [(0, j), (4, j)] K ↔ K j := fun {j l K} => by
            refine vc_of (t1 x S L m l).1 ?_
            rcases hc4 with rfl | rfl <;> rfl
          have vc0 : ∀ {j : Nat} {K : Nat → Prop}, lk_vc (hp x S L m dyn) (44 + a1) [(0, j), (4, j)] K ↔ K j := fun {j K} => by
            have := vc (j := j) (l := []) (K := K)
            rw [List.append_nil] at this
            exact this
          by_cases hone : n1 = 1
          · refine TE.mk0 (r := -1000000) (E_x_take ?_) (E_m_take ?_) (h.st 0)
            · rw [S_x_isPlace.iffi]
              refine br_f (bI_t ha) ?_
              rw [S_x_isPlace.iffi]
              refine br_f (bI_t hb) ?_
              refine br_f (by rw [i32_lt]; omega) (br_t (by rw [i32_lt]; omega) ?_)
              rw [hp_v0, (o1 X (d + 4)).iffr]
              rw [t1'.fR has5, t1'.2.2.al, hone]
              refine br_t (by decide) ?_
              rw [hp_v0, S_x_settled.iffi]
              exact ⟨rfl, rfl⟩
            · rw [S_m_isPlace.iffi]
              refine br_f (bI_t ha) ?_
              rw [S_m_isPlace.iffi]
              refine br_f (bI_t hb) ?_
              rw [S_m_in.iffi, i64_of]
              refine br_n1 (bI_t hc) ?_
              rw [hp_v29, (o3 X (d + 3) _ _ _ _ m rfl).iffi]
              refine br_t rfl ?_
              rw [hp_f29_5, hp_a35, nI_clamp (by omega), m1.2.2.1]
              refine ⟨vp_in_nI (by omega) (by omega), ?_⟩
              match cc, hcc with
              | 0, _ =>
                refine br_f (by decide) ⟨by decide, br_n2 (by decide) ?_⟩
                refine br_t (by rw [hone]; rfl) ?_
                rw [hp_v29, S_m_well.iffi]
                exact ⟨rfl, rfl⟩
              | 1, _ =>
                refine br_f (by decide) ⟨by decide, br_n1 (by decide) ?_⟩
                refine br_t (by rw [hone]; rfl) ?_
                rw [hp_v29, S_m_well.iffi]
                exact ⟨rfl, rfl⟩
              | 2, _ =>
                refine br_t (by decide) ⟨by decide, br_n2 (by decide) ?_⟩
                refine br_t (by rw [hone]; rfl) ?_
                rw [hp_v29, S_m_well.iffi]
                exact ⟨rfl, rfl⟩
              | 3, _ =>
                refine br_t (by decide) ⟨by decide, br_n1 (by decide) ?_⟩
                refine br_t (by rw [hone]; rfl) ?_
                rw [hp_v29, S_m_well.iffi]
                exact ⟨rfl, rfl⟩
          · by_cases hd : dC n1 cc g1
            · have hor : OR (n1 - 1) (gT cc g1) := gT_or or1 hcc hd (by omega)
              obtain ⟨f, ev, hf⟩ := S_o_without (X := X) (d := d + 3) (x := x) (S := S) (L := L) (m := m) (dyn := dyn) (c := cc) (fun l => t1 x S L m l) or1 hcc hd
              refine TE.made (o := true) (p := t) (n := n1 - 1) (g := gT cc g1) (f := f) h ht10 hor hf (E_x_take ?_) (fun x' S' dyn' => ?_)
              · rw [S_x_isPlace.iffi]
                refine br_f (bI_t ha) ?_
                rw [S_x_isPlace.iffi]
                refine br_f (bI_t hb) ?_
                refine br_f (by rw [i32_lt]; omega) (br_t (by rw [i32_lt]; omega) ?_)
                rw [hp_v0, (o1 X (d + 4)).iffr]
                rw [t1'.fR has5, t1'.2.2.al]
                refine br_f (by rw [show (1 : Int32) = nI 1 from rfl, nI_leI (by omega) (by omega)]; omega) ?_
                rw [vc0, (S_o_hasDot (d := d + 3) t1' hn1 hcc true ⟨fun _ => hd, fun _ => rfl⟩).iffi]
                refine br_n1 (by decide) ?_
                rw [vc0, ev.iffr, (C_tell_o (d := d + 1) hor hf).iffr, hp_v0, (C_shelve (d := d + 3) (o := true) ht10 hor hf).iffi]
                exact ⟨rfl, rfl⟩
              · have main : lk_wx X (d + 6) 137 [.ref 29, .int (nI t), .int (nI p), .int (nI cc)] (hp x' S' L m dyn') (fun v h' => ∃ m1 m', v = some (.int (nI (kd true (n1 - 1) (gT cc g1)))) ∧ h' = hp x' S' L m' dyn' ∧ SC m m1 ∧ KP m1 m' t (n1 - 1) (kd true (n1 - 1) (gT cc g1)) (gT cc g1)) := by
                  refine E_m_take ?_
                  rw [S_m_isPlace.iffi]
                  refine br_f (bI_t ha) ?_
                  rw [S_m_isPlace.iffi]
                  refine br_f (bI_t hb) ?_
                  rw [S_m_in.iffi, i64_of]
                  refine br_n1 (bI_t hc) ?_
                  rw [hp_v29, (o3 X (d + 3) _ _ _ _ m rfl).iffi]
                  refine br_t rfl ?_
                  rw [hp_f29_5, hp_a35, nI_clamp (by omega), m1.2.2.1]
                  refine ⟨vp_in_nI (by omega) (by omega), ?_⟩
                  match cc, hcc, hd, hor with
                  | 0, _, hd, hor =>
                    refine br_f (by decide) ⟨by decide, br_n2 (by decide) ?_⟩
                    refine br_f (show ¬ nI n1 = 1 from fun w => hone ((nI_eq (a := n1) (b := 1) (by omega) (by omega)).mp w)) ?_
                    have gl := or1.2.2.1 0 hn1
                    rw [hp_v29, (S_m_at10 m1 hn1).iffi]
                    have eq : (nI (g1 0) = 0) ↔ g1 0 = 0 := nI_eq (b := 0) (by omega) (by omega)
                    refine br_t (eq.mpr hd) ?_
                    rw [hp_f29_5, nI_sub1 hn1 (by omega), hp_w35]
                    refine ⟨vp_in_nI (n := 10) (by omega) (by omega), ?_⟩
                    exact m_take_loop (d := d + 4) (j := 0) hp10 m1 or1 (by decide) hd (fun m2 hM h5 => by
                      obtain ⟨m', k1, k2⟩ := M_keep (X := X) (d := d + 1) (x := x') (S := S') (L := L) (dyn := dyn') (o := true) ht10 hM h5 hor
                      rw [show (Value.int 1) = Value.int (oI true) from rfl, k1.iffi]
                      exact ⟨m2, m', rfl, rfl, hM.1, k2⟩) (n1 - 1) _ rfl (Nat.zero_le _) ⟨SC.rf.m5, fun i hi => by omega⟩ (by rw [ms_same]; exact pk_us)
                  | 1, _, hd, hor =>
                    refine br_f (by decide) ⟨by decide, br_n1 (by decide) ?_⟩
                    refine br_f (show ¬ nI n1 = 1 from fun w => hone ((nI_eq (a := n1) (b := 1) (by omega) (by omega)).mp w)) ?_
                    have gl := or1.2.2.1 0 hn1
                    rw [hp_v29, nI_sub1 hn1 (by omega), (S_m_at10 m1 hn1).iffi]
                    have eq : (nI (g1 0) = nI (n1 - 1)) ↔ g1 0 = n1 - 1 := nI_eq (by omega) (by omega)
                    refine br_t (eq.mpr hd) ?_
                    rw [hp_f29_5, hp_w35]
                    refine ⟨vp_in_nI (n := 10) (by omega) (by omega), ?_⟩
                    exact m_take_loop (d := d + 4) (j := 0) hp10 m1 or1 (by decide) hd (fun m2 hM h5 => by
                      obtain ⟨m', k1, k2⟩ := M_keep (X := X) (d := d + 1) (x := x') (S := S') (L := L) (dyn := dyn') (o := true) ht10 hM h5 hor
                      rw [show (Value.int 1) = Value.int (oI true) from rfl, k1.iffi]
                      exact ⟨m2, m', rfl, rfl, hM.1, k2⟩) (n1 - 1) _ rfl (Nat.zero_le _) ⟨SC.rf.m5, fun i hi => by omega⟩ (by rw [ms_same]; exact pk_us)
                  | 2, _, hd, hor =>
                    refine br_t (by decide) ⟨by decide, br_n2 (by decide) ?_⟩
                    refine br_f (show ¬ nI n1 = 1 from fun w => hone ((nI_eq (a := n1) (b := 1) (by omega) (by omega)).mp w)) ?_
                    have gl := or1.2.2.1 (n1 - 1) (by omega)
                    rw [hp_v29, nI_sub1 hn1 (by omega), (S_m_at1 m1 (show n1 - 1 < n1 by omega)).iffi]
                    have eq : (nI (g1 (n1 - 1)) = 0) ↔ g1 (n1 - 1) = 0 := nI_eq (b := 0) (by omega) (by omega)
                    refine br_t (eq.mpr hd) ?_
                    rw [hp_f29_5, hp_w35]
                    refine ⟨vp_in_nI (n := 10) (by omega) (by omega), ?_⟩
                    exact m_take_loop (d := d + 4) (j := 0) hp10 m1 or1 (by decide) hd (fun m2 hM h5 => by
                      obtain ⟨m', k1, k2⟩ := M_keep (X := X) (d := d + 1) (x := x') (S := S') (L := L) (dyn := dyn') (o := true) ht10 hM h5 hor
                      rw [show (Value.int 1) = Value.int (oI true) from rfl, k1.iffi]
                      exact ⟨m2, m', rfl, rfl, hM.1, k2⟩) (n1 - 1) _ rfl (Nat.zero_le _) ⟨SC.rf.m5, fun i hi => by omega⟩ (by rw [ms_same]; exact pk_us)
                  | 3, _, hd, hor =>
                    refine br_t (by decide) ⟨by decide, br_n1 (by decide) ?_⟩
                    refine br_f (show ¬ nI n1 = 1 from fun w => hone ((nI_eq (a := n1) (b := 1) (by omega) (by omega)).mp w)) ?_
                    have gl := or1.2.2.1 (n1 - 1) (by omega)
                    rw [hp_v29, nI_sub1 hn1 (by omega), (S_m_at1 m1 (show n1 - 1 < n1 by omega)).iffi]
                    have eq : (nI (g1 (n1 - 1)) = nI (n1 - 1)) ↔ g1 (n1 - 1) = n1 - 1 := nI_eq (by omega) (by omega)
                    refine br_t (eq.mpr hd) ?_
                    rw [hp_f29_5, hp_w35]
                    refine ⟨vp_in_nI (n := 10) (by omega) (by omega), ?_⟩
                    exact m_take_loop (d := d + 4) (j := 0) hp10 m1 or1 (by decide) hd (fun m2 hM h5 => by
                      obtain ⟨m', k1, k2⟩ := M_keep (X := X) (d := d + 1) (x := x') (S := S') (L := L) (dyn := dyn') (o := true) ht10 hM h5 hor
                      rw [show (Value.int 1) = Value.int (oI true) from rfl, k1.iffi]
                      exact ⟨m2, m', rfl, rfl, hM.1, k2⟩) (n1 - 1) _ rfl (Nat.zero_le _) ⟨SC.rf.m5, fun i hi => by omega⟩ (by rw [ms_same]; exact pk_us)
                obtain ⟨v, h', ev, m1, m', rfl, rfl, h1, h2⟩ := main.ex
                exact ⟨m1, m', ev, h1, h2⟩
            · refine TE.mk0 (r := -1000000) (E_x_take ?_) (E_m_take ?_) (h.st 0)
              · rw [S_x_isPlace.iffi]
                refine br_f (bI_t ha) ?_
                rw [S_x_isPlace.iffi]
                refine br_f (bI_t hb) ?_
                refine br_f (by rw [i32_lt]; omega) (br_t (by rw [i32_lt]; omega) ?_)
                rw [hp_v0, (o1 X (d + 4)).iffr]
                rw [t1'.fR has5, t1'.2.2.al]
                refine br_f (by rw [show (1 : Int32) = nI 1 from rfl, nI_leI (by omega) (by omega)]; omega) ?_
                rw [vc0, (S_o_hasDot (d := d + 3) t1' hn1 hcc false ⟨fun w => absurd w (by decide), fun w => absurd w hd⟩).iffi]
                refine br_n2 rfl ?_
                rw [hp_v0, S_x_settled.iffi]
                exact ⟨rfl, rfl⟩
              · rw [S_m_isPlace.iffi]
                refine br_f (bI_t ha) ?_
                rw [S_m_isPlace.iffi]
                refine br_f (bI_t hb) ?_
                rw [S_m_in.iffi, i64_of]
                refine br_n1 (bI_t hc) ?_
                rw [hp_v29, (o3 X (d + 3) _ _ _ _ m rfl).iffi]
                refine br_t rfl ?_
                rw [hp_f29_5, hp_a35, nI_clamp (by omega), m1.2.2.1]
                refine ⟨vp_in_nI (by omega) (by omega), ?_⟩
                match cc, hcc, hd with
                | 0, _, hd =>
                  refine br_f (by decide) ⟨by decide, br_n2 (by decide) ?_⟩
                  refine br_f (show ¬ nI n1 = 1 from fun w => hone ((nI_eq (a := n1) (b := 1) (by omega) (by omega)).mp w)) ?_
                  have gl := or1.2.2.1 0 hn1
                  rw [hp_v29, (S_m_at10 m1 hn1).iffi]
                  have eq : (nI (g1 0) = 0) ↔ g1 0 = 0 := nI_eq (b := 0) (by omega) (by omega)
                  refine br_f (fun w => hd (eq.mp w)) ?_
                  rw [hp_v29, S_m_well.iffi]
                  exact ⟨rfl, rfl⟩
                | 1, _, hd =>
                  refine br_f (by decide) ⟨by decide, br_n1 (by decide) ?_⟩
                  refine br_f (show ¬ nI n1 = 1 from fun w => hone ((nI_eq (a := n1) (b := 1) (by omega) (by omega)).mp w)) ?_
                  have gl := or1.2.2.1 0 hn1
                  rw [hp_v29, nI_sub1 hn1 (by omega), (S_m_at10 m1 hn1).iffi]
                  have eq : (nI (g1 0) = nI (n1 - 1)) ↔ g1 0 = n1 - 1 := nI_eq (by omega) (by omega)
                  refine br_f (fun w => hd (eq.mp w)) ?_
                  rw [hp_v29, S_m_well.iffi]
                  exact ⟨rfl, rfl⟩
                | 2, _, hd =>
                  refine br_t (by decide) ⟨by decide, br_n2 (by decide) ?_⟩
                  refine br_f (show ¬ nI n1 = 1 from fun w => hone ((nI_eq (a := n1) (b := 1) (by omega) (by omega)).mp w)) ?_
                  have gl := or1.2.2.1 (n1 - 1) (by omega)
                  rw [hp_v29, nI_sub1 hn1 (by omega), (S_m_at1 m1 (show n1 - 1 < n1 by omega)).iffi]
                  have eq : (nI (g1 (n1 - 1)) = 0) ↔ g1 (n1 - 1) = 0 := nI_eq (b := 0) (by omega) (by omega)
                  refine br_f (fun w => hd (eq.mp w)) ?_
                  rw [hp_v29, S_m_well.iffi]
                  exact ⟨rfl, rfl⟩
                | 3, _, hd =>
                  refine br_t (by decide) ⟨by decide, br_n1 (by decide) ?_⟩
                  refine br_f (show ¬ nI n1 = 1 from fun w => hone ((nI_eq (a := n1) (b := 1) (by omega) (by omega)).mp w)) ?_
                  have gl := or1.2.2.1 (n1 - 1) (by omega)
                  rw [hp_v29, nI_sub1 hn1 (by omega), (S_m_at1 m1 (show n1 - 1 < n1 by omega)).iffi]
                  have eq : (nI (g1 (n1 - 1)) = nI (n1 - 1)) ↔ g1 (n1 - 1) = n1 - 1 := nI_eq (by omega) (by omega)
                  refine br_f (fun w => hd (eq.mp w)) ?_
                  rw [hp_v29, S_m_well.iffi]
                  exact ⟨rfl, rfl⟩
      · refine TE.mk0 (r := -1000001) (E_x_take ?_) (E_m_take ?_) h
        · rw [S_x_isPlace.iffi]
          refine br_f (bI_t ha) ?_
          rw [S_x_isPlace.iffi]
          refine br_f (bI_t hb) ?_
          by_cases hlo : c.toInt < 0
          · exact br_t (by rw [i32_lt]; omega) ⟨rfl, rfl⟩
          · exact br_f (by rw [i32_lt]; omega) (br_f (by rw [i32_lt]; omega) ⟨rfl, rfl⟩)
        · rw [S_m_isPlace.iffi]
          refine br_f (bI_t ha) ?_
          rw [S_m_isPlace.iffi]
          refine br_f (bI_t hb) ?_
          rw [S_m_in.iffi, i64_of]
          exact br_n2 (bI_f hc) ⟨rfl, rfl⟩
    · refine TE.mk0 (r := -1000001) (E_x_take ?_) (E_m_take ?_) h
      · rw [S_x_isPlace.iffi]
        refine br_f (bI_t ha) ?_
        rw [S_x_isPlace.iffi]
        exact br_t (bI_f hb) ⟨rfl, rfl⟩
      · rw [S_m_isPlace.iffi]
        refine br_f (bI_t ha) ?_
        rw [S_m_isPlace.iffi]
        exact br_t (bI_f hb) ⟨rfl, rfl⟩
  · refine TE.mk0 (r := -1000001) (E_x_take ?_) (E_m_take ?_) h
    · rw [S_x_isPlace.iffi]
      exact br_t (bI_f ha) ⟨rfl, rfl⟩
    · rw [S_m_isPlace.iffi]
      exact br_t (bI_f ha) ⟨rfl, rfl⟩
theorem T_put (h : Rel x S L m dyn) (a b c : Int32) : TE X (d + 6) 75 138 [.int a, .int b, .int c] x S L m dyn := by
  have e0 : (0 : Int32).toInt = 0 := rfl
  have e4 : (4 : Int32).toInt = 4 := rfl
  by_cases ha : 0 ≤ a.toInt ∧ a.toInt ≤ 9
  · by_cases hb : 0 ≤ b.toInt ∧ b.toInt ≤ 9
    · by_cases hc : 0 ≤ c.toInt ∧ c.toInt ≤ 3
      · obtain ⟨t, rfl, ht1, -⟩ := i32_nat ha.1
        obtain ⟨p, rfl, hp1, -⟩ := i32_nat hb.1
        obtain ⟨cc, rfl, hc1, -⟩ := i32_nat hc.1
        have ht10 : t < 10 := by omega
        have hp10 : p < 10 := by omega
        rcases h.ord2 hp10 with ⟨f, hf, o1, o2, o3⟩ | ⟨a1, c1, b1, n1, g1, hoc, t1, or1, m1, o1, o3⟩
        · refine TE.mk0 (r := -1000010 - f) (E_x_put ?_) (E_m_put ?_) (h.st f)
          · rw [S_x_isPlace.iffi]
            refine br_f (bI_t ha) ?_
            rw [S_x_isPlace.iffi]
            refine br_f (bI_t hb) ?_
            refine br_f (by rw [i32_lt]; omega) (br_t (by rw [i32_lt]; omega) ?_)
            rw [hp_v0, (o1 X (d + 4)).iffn, hp_v0, (o2 X (d + 4)).iffi, hp_v0, S_x_found.iffi]
            exact ⟨rfl, rfl⟩
          · rw [S_m_isPlace.iffi]
            refine br_f (bI_t ha) ?_
            rw [S_m_isPlace.iffi]
            refine br_f (bI_t hb) ?_
            rw [S_m_in.iffi, i64_of]
            refine br_n1 (bI_t hc) ?_
            rw [hp_v29, (o3 X (d + 3) _ _ _ _ m rfl).iffi]
            rcases hf with rfl | rfl
            · exact br_f (by decide) ⟨rfl, rfl⟩
            · exact br_f (by decide) ⟨rfl, rfl⟩
        · have t1' : tr (hp x S L m dyn) (44 + a1) c1 (44 + b1) n1 g1 := by
            have := t1 x S L m []
            rw [List.append_nil] at this
            exact this
          have hn16 := or1.2.1
          have hn1 := or1.1
          have hcc : cc < 4 := by omega
          have hc4 : c1 = 0 ∨ c1 = 4 := oc_cases hoc
          have vc0 : ∀ {j : Nat} {K : Nat → Prop}, lk_vc (hp x S L m dyn) (44 + a1) [(0, j), (4, j)] K ↔ K j := fun {j K} => by
            refine vc_of t1'.1 ?_
            rcases hc4 with rfl | rfl <;> rfl
          by_cases hfull : n1 = 16
          · refine TE.mk0 (r := -1000003) (E_x_put ?_) (E_m_put ?_) h
            · rw [S_x_isPlace.iffi]
              refine br_f (bI_t ha) ?_
              rw [S_x_isPlace.iffi]
              refine br_f (bI_t hb) ?_
              refine br_f (by rw [i32_lt]; omega) (br_t (by rw [i32_lt]; omega) ?_)
              rw [hp_v0, (o1 X (d + 4)).iffr]
              rw [t1'.fR has5, t1'.2.2.al, hfull]
              exact br_f (by decide) ⟨rfl, rfl⟩
            · rw [S_m_isPlace.iffi]
              refine br_f (bI_t ha) ?_
              rw [S_m_isPlace.iffi]
              refine br_f (bI_t hb) ?_
              rw [S_m_in.iffi, i64_of]
              refine br_n1 (bI_t hc) ?_
              rw [hp_v29, (o3 X (d + 3) _ _ _ _ m rfl).iffi]
              refine br_t rfl ?_
              rw [hp_f29_5, hp_a35, nI_clamp (by omega), m1.2.2.1, hfull]
              exact ⟨vp_in_nI (by omega) (by omega), br_n2 rfl ⟨rfl, rfl⟩⟩
          · have hor : OR (n1 + 1) (gP n1 cc g1) := gP_or or1 hcc (by omega)
            obtain ⟨f, ev, hf⟩ := S_o_with (X := X) (d := d + 3) (x := x) (S := S) (L := L) (m := m) (dyn := dyn) (c := cc) (fun l => t1 x S L m l) hcc (by omega)
            refine TE.made (o := true) (p := t) (n := n1 + 1) (g := gP n1 cc g1) (f := f) h ht10 hor hf (E_x_put ?_) (fun x' S' dyn' => ?_)
            · rw [S_x_isPlace.iffi]
              refine br_f (bI_t ha) ?_
              rw [S_x_isPlace.iffi]
              refine br_f (bI_t hb) ?_
              refine br_f (by rw [i32_lt]; omega) (br_t (by rw [i32_lt]; omega) ?_)
              rw [hp_v0, (o1 X (d + 4)).iffr]
              rw [t1'.fR has5, t1'.2.2.al]
              refine br_t (by rw [show (16 : Int32) = nI 16 from rfl, nI_ltI (by omega) (by omega)]; omega) ?_
              rw [vc0, ev.iffr, (C_tell_o (d := d + 1) hor hf).iffr, hp_v0, (C_shelve (d := d + 3) (o := true) ht10 hor hf).iffi]
              exact ⟨rfl, rfl⟩
            · have main : lk_wx X (d + 6) 138 [.ref 29, .int (nI t), .int (nI p), .int (nI cc)] (hp x' S' L m dyn') (fun v h' => ∃ m1 m', v = some (.int (nI (kd true (n1 + 1) (gP n1 cc g1)))) ∧ h' = hp x' S' L m' dyn' ∧ SC m m1 ∧ KP m1 m' t (n1 + 1) (kd true (n1 + 1) (gP n1 cc g1)) (gP n1 cc g1)) := by
                refine E_m_put ?_
                rw [S_m_isPlace.iffi]
                refine br_f (bI_t ha) ?_
                rw [S_m_isPlace.iffi]
                refine br_f (bI_t hb) ?_
                rw [S_m_in.iffi, i64_of]
                refine br_n1 (bI_t hc) ?_
                rw [hp_v29, (o3 X (d + 3) _ _ _ _ m rfl).iffi]
                refine br_t rfl ?_
                rw [hp_f29_5, hp_a35, nI_clamp (by omega), m1.2.2.1]
                refine ⟨vp_in_nI (by omega) (by omega), br_n1 (fun w => hfull ((nI_eq (b := 16) (by omega) (by omega)).mp w)) ?_⟩
                rw [hp_f29_5, nI_1, hp_w35]
                refine ⟨vp_in_nI (n := 10) (by omega) (by omega), ?_⟩
                exact m_put_loop (d := d + 4) (j := 0) hp10 m1 (by omega) hcc (fun m2 hM h5 => by
                  obtain ⟨m', k1, k2⟩ := M_keep (X := X) (d := d + 1) (x := x') (S := S') (L := L) (dyn := dyn') (o := true) ht10 hM h5 hor
                  rw [show (Value.int 1) = Value.int (oI true) from rfl, k1.iffi]
                  exact ⟨m2, m', rfl, rfl, hM.1, k2⟩) n1 _ rfl (Nat.zero_le _) SC.rf.m5 (fun i hi => by omega) (by rw [ms_same]; exact pk_us)
              obtain ⟨v, h', ev, m1, m', rfl, rfl, h1, h2⟩ := main.ex
              exact ⟨m1, m', ev, h1, h2⟩
      · refine TE.mk0 (r := -1000001) (E_x_put ?_) (E_m_put ?_) h
        · rw [S_x_isPlace.iffi]
          refine br_f (bI_t ha) ?_
          rw [S_x_isPlace.iffi]
          refine br_f (bI_t hb) ?_
          by_cases hlo : c.toInt < 0
          · exact br_t (by rw [i32_lt]; omega) ⟨rfl, rfl⟩
          · exact br_f (by rw [i32_lt]; omega) (br_f (by rw [i32_lt]; omega) ⟨rfl, rfl⟩)
        · rw [S_m_isPlace.iffi]
          refine br_f (bI_t ha) ?_
          rw [S_m_isPlace.iffi]
          refine br_f (bI_t hb) ?_
          rw [S_m_in.iffi, i64_of]
          exact br_n2 (bI_f hc) ⟨rfl, rfl⟩
    · refine TE.mk0 (r := -1000001) (E_x_put ?_) (E_m_put ?_) h
      · rw [S_x_isPlace.iffi]
        refine br_f (bI_t ha) ?_
        rw [S_x_isPlace.iffi]
        exact br_t (bI_f hb) ⟨rfl, rfl⟩
      · rw [S_m_isPlace.iffi]
        refine br_f (bI_t ha) ?_
        rw [S_m_isPlace.iffi]
        exact br_t (bI_f hb) ⟨rfl, rfl⟩
  · refine TE.mk0 (r := -1000001) (E_x_put ?_) (E_m_put ?_) h
    · rw [S_x_isPlace.iffi]
      exact br_t (bI_f ha) ⟨rfl, rfl⟩
    · rw [S_m_isPlace.iffi]
      exact br_t (bI_f ha) ⟨rfl, rfl⟩
end CORNERS
