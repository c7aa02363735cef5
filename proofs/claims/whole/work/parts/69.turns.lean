/-! turns -/
theorem OR.surj {n : Nat} {g : Nat → Nat} (h : OR n g) {c : Nat} (hc : c < n) : ∃ r, r < n ∧ g r = c := by
  obtain ⟨h1, h2, h3, h4⟩ := h
  have hn : ((List.range n).map (fun i => g i + 1)).Nodup := by
    rw [List.nodup_iff_pairwise_ne, List.pairwise_map]
    refine List.Pairwise.imp_of_mem (R := fun a b => a < b) ?_ List.pairwise_lt_range
    intro a b ha hb hab e
    have := h4 a b (List.mem_range.mp ha) (List.mem_range.mp hb) (by omega)
    omega
  have := pg2 (G := n) hn (fun y hy => by
    obtain ⟨i, hi, rfl⟩ := List.mem_map.mp hy
    have := h3 i (List.mem_range.mp hi)
    omega) (by rw [List.length_map, List.length_range]) (e := c + 1) (by omega) (by omega)
  obtain ⟨i, hi, e⟩ := List.mem_map.mp this
  exact ⟨i, List.mem_range.mp hi, by omega⟩
/-- a row the other way round -/
def tR (n t k : Nat) : Nat := if t % 2 = 1 then n - 1 - k else k
def tC (n t v : Nat) : Nat := if t / 2 % 2 = 1 then n - 1 - v else v
theorem tR_lt {n t k : Nat} (h : k < n) : tR n t k < n := by
  unfold tR
  split <;> omega
theorem tR_tR {n t k : Nat} (h : k < n) : tR n t (tR n t k) = k := by
  unfold tR
  split <;> omega
theorem tC_lt {n t k : Nat} (h : k < n) : tC n t k < n := by
  unfold tC
  split <;> omega
theorem tC_inj {n t a b : Nat} (ha : a < n) (hb : b < n) (e : tC n t a = tC n t b) : a = b := by
  unfold tC at e
  split at e <;> omega
theorem tn4_eq {n t k : Nat} {g : Nat → Nat} : tn4 n t g k = tC n t (g (tR n t k)) := rfl
theorem tn4_or {n t : Nat} {g : Nat → Nat} (h : OR n g) : OR n (tn4 n t g) := by
  obtain ⟨h1, h2, h3, h4⟩ := h
  refine ⟨h1, h2, fun i hi => ?_, fun i j hi hj e => ?_⟩
  · rw [tn4_eq]
    exact tC_lt (h3 _ (tR_lt hi))
  · rw [tn4_eq, tn4_eq] at e
    have e1 := h4 _ _ (tR_lt hi) (tR_lt hj) (tC_inj (h3 _ (tR_lt hi)) (h3 _ (tR_lt hj)) e)
    rw [← tR_tR (t := t) hi, ← tR_tR (t := t) hj, e1]
theorem sr_find {n : Nat} {g : Nat → Nat} (h : OR n g) {c : Nat} (hc : c < n) : ∃ r, r < n ∧ g r = c ∧ sr (fun r => if g r = c then some r else none) 0 n = some r := by
  cases hs : sr (fun r => if g r = c then some r else none) 0 n with
  | none =>
    exfalso
    obtain ⟨r, h1, h2⟩ := h.surj hc
    have := (sr_nones.mp hs) r (Nat.zero_le _) (by omega)
    rw [if_pos h2] at this
    cases this
  | some r =>
    obtain ⟨j, h1, h2, h3⟩ := sr_spec hs
    split at h3
    · rename_i hq
      cases h3
      exact ⟨r, by omega, hq, rfl⟩
    · cases h3
theorem tnd_lo {n t : Nat} {g : Nat → Nat} (ht : t < 4) {k : Nat} : tnd n t g k = tn4 n t g k := by
  unfold tnd
  rw [if_pos ht]
theorem tnd_hi {n t : Nat} {g : Nat → Nat} (h : OR n g) (ht : ¬ t < 4) {r : Nat} (hr : r < n) : tnd n t g (tn4 n t g r) = r := by
  unfold tnd
  rw [if_neg ht]
  obtain ⟨r', h1, h2, h3⟩ := sr_find (tn4_or (t := t) h) ((tn4_or (t := t) h).2.2.1 r hr)
  rw [h3]
  exact (tn4_or (t := t) h).2.2.2 r' r h1 hr h2
theorem tnd_or {n t : Nat} {g : Nat → Nat} (h : OR n g) : OR n (tnd n t g) := by
  by_cases ht : t < 4
  · have e : tnd n t g = tn4 n t g := by
      funext k
      exact tnd_lo ht
    rw [e]
    exact tn4_or h
  · refine ⟨h.1, h.2.1, fun i hi => ?_, fun i j hi hj e => ?_⟩
    · obtain ⟨r, h1, rfl⟩ := (tn4_or (t := t) h).surj hi
      rw [tnd_hi h ht h1]
      exact h1
    · obtain ⟨r, h1, rfl⟩ := (tn4_or (t := t) h).surj hi
      obtain ⟨r2, h2, rfl⟩ := (tn4_or (t := t) h).surj hj
      rw [tnd_hi h ht h1, tnd_hi h ht h2] at e
      rw [e]
theorem set_self {h : lk_H} {a : Nat} {e : va_E} (ha : h[a]? = some e) : h.set a e = h := by
  apply List.ext_getElem?
  intro q
  rw [List.getElem?_set]
  by_cases hq : a = q
  · subst hq
    rw [if_pos rfl, if_pos (List.getElem?_eq_some_iff.mp ha).1, ha]
  · rw [if_neg hq]
theorem set_at {h : lk_H} {a : Nat} {e e' : va_E} (ha : h[a]? = some e) : (h.set a e')[a]? = some e' := by
  rw [List.getElem?_set, if_pos rfl, if_pos (List.getElem?_eq_some_iff.mp ha).1]
theorem set_ne {h : lk_H} {a b : Nat} {e' : va_E} (hab : ¬ a = b) : (h.set a e')[b]? = h[b]? := by
  rw [List.getElem?_set, if_neg hab]
section TURNS
variable {X : lk_X} {d : Nat} {x : Nat → Nat → Int32} {S L : Nat → Option Nat} {m : Nat → Nat → Int32} {dyn : lk_H}
theorem as_set {h : lk_H} {a n i : Nat} {e : va_E} {f : Nat → Int32} {v : Int32} {K : lk_H → Prop} (ha : h[a]? = some e) (hi : i < n) (hn : n ≤ 1000) (q : K (h.set a (.inl (0, (n, .inl (upd f i v)))))) : lk_as (h.set a (.inl (0, (n, .inl f)))) a (nI i) v K := by
  refine ⟨n, f, set_at ha, vp_in_nI hi (by omega), ?_⟩
  rw [nI_clamp (by omega), List.set_set]
  exact q
theorem x_turn_lo {h : lk_H} {a b n t : Nat} {g : Nat → Nat} {e : va_E} {F : Nat → Int32} (hab : ¬ a = b) (ha : h[a]? = some e) (hb : h[b]? = some (.inl (0, (n, .inl F)))) (hF : ∀ i, i < n → F i = nI (g i)) (ho : OR n g) (ht : t < 4) {Q : Option Value → lk_H → Prop} (hQ : ∀ f, (∀ k, k < n → f (tR n t k) = nI (tn4 n t g (tR n t k))) → Q none (h.set a (.inl (0, (n, .inl f))))) : ∀ (u j : Nat) (f : Nat → Int32), n - j = u → j ≤ n → (∀ k, k < j → f (tR n t k) = nI (tn4 n t g (tR n t k))) → lk_wp X (d + 1) 30 8 [.ref a, .ref b, .int (nI t), .int (nI (n - 1)), .int (nI j), .retAddr 0, .retAddr 0] [] (h.set a (.inl (0, (n, .inl f)))) Q := by
  have h16 := ho.2.1
  intro u
  induction u with
  | zero =>
    intro j f hu hj hf
    exact F_o_turnInto_8 ⟨0, (n, .inl F), by rw [set_ne hab]; exact hb, by decide, br_t (nI_le (by omega) (by omega)) (hQ f (fun k hk => hf k (by omega)))⟩
  | succ u ih =>
    intro j f hu hj hf
    have hjn : j < n := by omega
    have hgj := ho.2.2.1 j hjn
    refine F_o_turnInto_8 ⟨0, (n, .inl F), by rw [set_ne hab]; exact hb, by decide, br_f (nI_ge hjn (by omega)) ?_⟩
    have hai : ∀ {K : Int32 → Prop}, lk_ai (h.set a (.inl (0, (n, .inl f)))) b (nI j) K ↔ K (nI (g j)) := fun {K} => by
      constructor
      · rintro ⟨n', f', q1, q2, q3⟩
        rw [set_ne hab, hb] at q1
        cases q1
        rw [nI_clamp (by omega), hF j hjn] at q3
        exact q3
      · intro q
        exact ⟨n, F, by rw [set_ne hab]; exact hb, vp_in_nI hjn (by omega), by rw [nI_clamp (by omega), hF j hjn]; exact q⟩
    have e4 : tn4 n t g (tR n t j) = tC n t (g j) := by rw [tn4_eq, tR_tR hjn]
    have key : ∀ r v, r = tR n t j → v = tC n t (g j) → ∀ k, k < j + 1 → upd f r (nI v) (tR n t k) = nI (tn4 n t g (tR n t k)) := by
      intro r v hr hv k hk
      by_cases hkj : k = j
      · rw [hkj, ← hr, pk_us, hr, e4, hv]
      · rw [pk_un (fun w => hkj (by rw [← tR_tR (t := t) (show k < n by omega), w, hr, tR_tR hjn]))]
        exact hf k (by omega)
    match t, ht, key, ih with
    | 0, _, key, ih =>
      refine br_t (by decide) (br_t (by decide) ?_)
      rw [hai]
      refine br_t (by decide) ?_
      rw [nI_1]
      exact as_set ha (show j < n by omega) (by omega) (ih (j + 1) _ (by omega) (by omega) (key (j) (g j) rfl rfl))
    | 1, _, key, ih =>
      refine br_f (by decide) (br_t (by decide) ?_)
      rw [hai]
      refine br_t (by decide) ?_
      rw [nI_sub (show j ≤ n - 1 by omega) (by omega), nI_1]
      exact as_set ha (show n - 1 - j < n by omega) (by omega) (ih (j + 1) _ (by omega) (by omega) (key (n - 1 - j) (g j) rfl rfl))
    | 2, _, key, ih =>
      refine br_t (by decide) (br_f (by decide) ?_)
      rw [hai]
      refine br_t (by decide) ?_
      rw [nI_sub (show g j ≤ n - 1 by omega) (by omega), nI_1]
      exact as_set ha (show j < n by omega) (by omega) (ih (j + 1) _ (by omega) (by omega) (key (j) (n - 1 - g j) rfl rfl))
    | 3, _, key, ih =>
      refine br_f (by decide) (br_f (by decide) ?_)
      rw [hai]
      refine br_t (by decide) ?_
      rw [nI_sub (show g j ≤ n - 1 by omega) (by omega), nI_sub (show j ≤ n - 1 by omega) (by omega), nI_1]
      exact as_set ha (show n - 1 - j < n by omega) (by omega) (ih (j + 1) _ (by omega) (by omega) (key (n - 1 - j) (n - 1 - g j) rfl rfl))
theorem x_turn_hi {h : lk_H} {a b n t : Nat} {g : Nat → Nat} {e : va_E} {F : Nat → Int32} (hab : ¬ a = b) (ha : h[a]? = some e) (hb : h[b]? = some (.inl (0, (n, .inl F)))) (hF : ∀ i, i < n → F i = nI (g i)) (ho : OR n g) (ht : 4 ≤ t ∧ t < 8) {Q : Option Value → lk_H → Prop} (hQ : ∀ f, (∀ k, k < n → f (tn4 n t g (tR n t k)) = nI (tR n t k)) → Q none (h.set a (.inl (0, (n, .inl f))))) : ∀ (u j : Nat) (f : Nat → Int32), n - j = u → j ≤ n → (∀ k, k < j → f (tn4 n t g (tR n t k)) = nI (tR n t k)) → lk_wp X (d + 1) 30 8 [.ref a, .ref b, .int (nI t), .int (nI (n - 1)), .int (nI j), .retAddr 0, .retAddr 0] [] (h.set a (.inl (0, (n, .inl f)))) Q := by
  have h16 := ho.2.1
  intro u
  induction u with
  | zero =>
    intro j f hu hj hf
    exact F_o_turnInto_8 ⟨0, (n, .inl F), by rw [set_ne hab]; exact hb, by decide, br_t (nI_le (by omega) (by omega)) (hQ f (fun k hk => hf k (by omega)))⟩
  | succ u ih =>
    intro j f hu hj hf
    have hjn : j < n := by omega
    have hgj := ho.2.2.1 j hjn
    refine F_o_turnInto_8 ⟨0, (n, .inl F), by rw [set_ne hab]; exact hb, by decide, br_f (nI_ge hjn (by omega)) ?_⟩
    have hai : ∀ {K : Int32 → Prop}, lk_ai (h.set a (.inl (0, (n, .inl f)))) b (nI j) K ↔ K (nI (g j)) := fun {K} => by
      constructor
      · rintro ⟨n', f', q1, q2, q3⟩
        rw [set_ne hab, hb] at q1
        cases q1
        rw [nI_clamp (by omega), hF j hjn] at q3
        exact q3
      · intro q
        exact ⟨n, F, by rw [set_ne hab]; exact hb, vp_in_nI hjn (by omega), by rw [nI_clamp (by omega), hF j hjn]; exact q⟩
    have e4 : tn4 n t g (tR n t j) = tC n t (g j) := by rw [tn4_eq, tR_tR hjn]
    have key : ∀ r v, r = tR n t j → v = tC n t (g j) → ∀ k, k < j + 1 → upd f v (nI r) (tn4 n t g (tR n t k)) = nI (tR n t k) := by
      intro r v hr hv k hk
      by_cases hkj : k = j
      · rw [hkj, e4, ← hv, pk_us, hr]
      · rw [pk_un (fun w => hkj (by
          rw [hv, ← e4] at w
          have := (tn4_or (t := t) ho).2.2.2 _ _ (tR_lt (show k < n by omega)) (tR_lt hjn) w
          rw [← tR_tR (t := t) (show k < n by omega), this, tR_tR hjn]))]
        exact hf k (by omega)
    match t, ht, key, ih with
    | 0, ht, key, ih => exact absurd ht.1 (by decide)
    | 1, ht, key, ih => exact absurd ht.1 (by decide)
    | 2, ht, key, ih => exact absurd ht.1 (by decide)
    | 3, ht, key, ih => exact absurd ht.1 (by decide)
    | 4, _, key, ih =>
      refine br_t (by decide) (br_t (by decide) ?_)
      rw [hai]
      refine br_f (by decide) ?_
      rw [nI_1]
      exact as_set ha (show g j < n by omega) (by omega) (ih (j + 1) _ (by omega) (by omega) (key (j) (g j) rfl rfl))
    | 5, _, key, ih =>
      refine br_f (by decide) (br_t (by decide) ?_)
      rw [hai]
      refine br_f (by decide) ?_
      rw [nI_sub (show j ≤ n - 1 by omega) (by omega), nI_1]
      exact as_set ha (show g j < n by omega) (by omega) (ih (j + 1) _ (by omega) (by omega) (key (n - 1 - j) (g j) rfl rfl))
    | 6, _, key, ih =>
      refine br_t (by decide) (br_f (by decide) ?_)
      rw [hai]
      refine br_f (by decide) ?_
      rw [nI_sub (show g j ≤ n - 1 by omega) (by omega), nI_1]
      exact as_set ha (show n - 1 - g j < n by omega) (by omega) (ih (j + 1) _ (by omega) (by omega) (key (j) (n - 1 - g j) rfl rfl))
    | 7, _, key, ih =>
      refine br_f (by decide) (br_f (by decide) ?_)
      rw [hai]
      refine br_f (by decide) ?_
      rw [nI_sub (show g j ≤ n - 1 by omega) (by omega), nI_sub (show j ≤ n - 1 by omega) (by omega), nI_1]
      exact as_set ha (show n - 1 - g j < n by omega) (by omega) (ih (j + 1) _ (by omega) (by omega) (key (n - 1 - j) (n - 1 - g j) rfl rfl))
    | t + 8, ht, key, ih => omega
theorem S_o_turnInto {h : lk_H} {a b n t : Nat} {g : Nat → Nat} {f0 F : Nat → Int32} (hab : ¬ a = b) (ha : h[a]? = some (.inl (0, (n, .inl f0)))) (hb : h[b]? = some (.inl (0, (n, .inl F)))) (hF : ∀ i, i < n → F i = nI (g i)) (ho : OR n g) (ht : t < 8) : ∃ f, lk_ev X (d + 1) 30 [.ref a, .ref b, .int (nI t)] h none (h.set a (.inl (0, (n, .inl f)))) ∧ ∀ i, i < n → f i = nI (tnd n t g i) := by
  have h1 := ho.1
  have h16 := ho.2.1
  have main : lk_wx X (d + 1) 30 [.ref a, .ref b, .int (nI t)] h (fun v h' => ∃ f, v = none ∧ h' = h.set a (.inl (0, (n, .inl f))) ∧ ∀ i, i < n → f i = nI (tnd n t g i)) := by
    refine E_o_turnInto ⟨0, (n, .inl F), hb, by decide, ?_⟩
    have e : (Int32.ofNat n) - 1 = nI (n - 1) := nI_sub1 h1 (by omega)
    show lk_wp X (d + 1) 30 8 [.ref a, .ref b, .int (nI t), .int (Int32.ofNat n - 1), .int (nI 0), .retAddr 0, .retAddr 0] [] h _
    rw [e]
    by_cases h4 : t < 4
    · have := x_turn_lo (X := X) (d := d) (Q := fun v h' => ∃ f, v = none ∧ h' = h.set a (.inl (0, (n, .inl f))) ∧ ∀ i, i < n → f i = nI (tnd n t g i)) hab ha hb hF ho h4 (fun f hf => ⟨f, rfl, rfl, fun i hi => by
        have := hf (tR n t i) (tR_lt hi)
        rw [tR_tR hi] at this
        rw [this, tnd_lo h4]⟩) n 0 f0 rfl (Nat.zero_le _) (fun k hk => by omega)
      rw [set_self ha] at this
      exact this
    · have := x_turn_hi (X := X) (d := d) (Q := fun v h' => ∃ f, v = none ∧ h' = h.set a (.inl (0, (n, .inl f))) ∧ ∀ i, i < n → f i = nI (tnd n t g i)) hab ha hb hF ho ⟨by omega, ht⟩ (fun f hf => ⟨f, rfl, rfl, fun i hi => by
        obtain ⟨r, hr, rfl⟩ := (tn4_or (t := t) ho).surj hi
        have := hf (tR n t r) (tR_lt hr)
        rw [tR_tR hr] at this
        rw [this, tnd_hi ho h4 hr]⟩) n 0 f0 rfl (Nat.zero_le _) (fun k hk => by omega)
      rw [set_self ha] at this
      exact this
  obtain ⟨v, h', ev, f, rfl, rfl, h2⟩ := main.ex
  exact ⟨f, ev, h2⟩
theorem S_m_turned4 {p n t k : Nat} {g : Nat → Nat} (hm : mth m p n g) (ho : OR n g) (ht : t < 8) (hk : k < n) : lk_ev X (d + 2) 140 [.ref 29, .int (nI p), .int (nI t), .int (nI k)] (hp x S L m dyn) (some (.int (nI (tn4 n t g k)))) (hp x S L m dyn) := by
  have h16 := ho.2.1
  have h1 := ho.1
  have hp10 := hm.1
  refine E_m_turned4 ?_
  rw [hp_f29_5, hp_a35, nI_clamp (by omega), hm.2.2.1, nI_sub1 h1 (by omega)]
  refine ⟨vp_in_nI (by omega) (by omega), ?_⟩
  match t, ht with
  | 0, _ =>
    refine br_n1 (by decide) ?_
    have hg := ho.2.2.1 (k) (by omega)
    rw [hp_v29, (S_m_at1 hm (show k < n by omega)).iffi]
    refine br_n1 (by decide) ?_
    exact ⟨rfl, rfl⟩
  | 1, _ =>
    refine br_n2 (by decide) ?_
    have hg := ho.2.2.1 (n - 1 - k) (by omega)
    rw [hp_v29, nI_sub (show k ≤ n - 1 by omega) (by omega), (S_m_at1 hm (show n - 1 - k < n by omega)).iffi]
    refine br_n1 (by decide) ?_
    exact ⟨rfl, rfl⟩
  | 2, _ =>
    refine br_n1 (by decide) ?_
    have hg := ho.2.2.1 (k) (by omega)
    rw [hp_v29, (S_m_at1 hm (show k < n by omega)).iffi]
    refine br_n2 (by decide) ?_
    rw [nI_sub (show g (k) ≤ n - 1 by omega) (by omega)]
    exact ⟨rfl, rfl⟩
  | 3, _ =>
    refine br_n2 (by decide) ?_
    have hg := ho.2.2.1 (n - 1 - k) (by omega)
    rw [hp_v29, nI_sub (show k ≤ n - 1 by omega) (by omega), (S_m_at1 hm (show n - 1 - k < n by omega)).iffi]
    refine br_n2 (by decide) ?_
    rw [nI_sub (show g (n - 1 - k) ≤ n - 1 by omega) (by omega)]
    exact ⟨rfl, rfl⟩
  | 4, _ =>
    refine br_n1 (by decide) ?_
    have hg := ho.2.2.1 (k) (by omega)
    rw [hp_v29, (S_m_at1 hm (show k < n by omega)).iffi]
    refine br_n1 (by decide) ?_
    exact ⟨rfl, rfl⟩
  | 5, _ =>
    refine br_n2 (by decide) ?_
    have hg := ho.2.2.1 (n - 1 - k) (by omega)
    rw [hp_v29, nI_sub (show k ≤ n - 1 by omega) (by omega), (S_m_at1 hm (show n - 1 - k < n by omega)).iffi]
    refine br_n1 (by decide) ?_
    exact ⟨rfl, rfl⟩
  | 6, _ =>
    refine br_n1 (by decide) ?_
    have hg := ho.2.2.1 (k) (by omega)
    rw [hp_v29, (S_m_at1 hm (show k < n by omega)).iffi]
    refine br_n2 (by decide) ?_
    rw [nI_sub (show g (k) ≤ n - 1 by omega) (by omega)]
    exact ⟨rfl, rfl⟩
  | 7, _ =>
    refine br_n2 (by decide) ?_
    have hg := ho.2.2.1 (n - 1 - k) (by omega)
    rw [hp_v29, nI_sub (show k ≤ n - 1 by omega) (by omega), (S_m_at1 hm (show n - 1 - k < n by omega)).iffi]
    refine br_n2 (by decide) ?_
    rw [nI_sub (show g (n - 1 - k) ≤ n - 1 by omega) (by omega)]
    exact ⟨rfl, rfl⟩
theorem m_turned_loop {p n t k : Nat} {g : Nat → Nat} (hm : mth m p n g) (ho : OR n g) (ht : t < 8) (hk : k < n) {Q : Option Value → lk_H → Prop} : ∀ (u r v : Nat), n - r = u → r ≤ n → sr (fun r => if tn4 n t g r = k then some r else none) r u = some v → Q (some (.int (nI v))) (hp x S L m dyn) → lk_wp X (d + 3) 139 60 [.ref 29, .int (nI p), .int (nI t), .int (nI k), .retAddr 0, .int (nI r)] [] (hp x S L m dyn) Q := by
  have h16 := ho.2.1
  intro u
  induction u with
  | zero =>
    intro r v hu hr hs hQ
    cases hs
  | succ u ih =>
    intro r v hu hr hs hQ
    have hrn : r < n := by omega
    refine F_m_turned_60 ?_
    have hl := (tn4_or (t := t) ho).2.2.1 r hrn
    rw [hp_v29, (S_m_turned4 hm ho ht hrn).iffi, nI_eq (by omega) (by omega), nI_1]
    by_cases he : tn4 n t g r = k
    · rw [sr_some (v := r) (if_pos he)] at hs
      cases hs
      exact br_t he hQ
    · rw [sr_none (if_neg he)] at hs
      exact br_f he (ih (r + 1) v (by omega) (by omega) hs hQ)
theorem S_m_turned {p n t k : Nat} {g : Nat → Nat} (hm : mth m p n g) (ho : OR n g) (ht : t < 8) (hk : k < n) : lk_ev X (d + 3) 139 [.ref 29, .int (nI p), .int (nI t), .int (nI k)] (hp x S L m dyn) (some (.int (nI (tnd n t g k)))) (hp x S L m dyn) := by
  have h16 := ho.2.1
  have h1 := ho.1
  have hp10 := hm.1
  refine E_m_turned ?_
  rw [hp_f29_5, hp_a35, nI_clamp (by omega), hm.2.2.1, nI_sub1 h1 (by omega), show (4 : Int32) = nI 4 from rfl, nI_leI (by omega) (by omega)]
  refine ⟨vp_in_nI (by omega) (by omega), ?_⟩
  by_cases h4 : t < 4
  · refine br_f (by omega) ?_
    rw [tnd_lo h4]
    match t, h4 with
    | 0, _ =>
      refine br_n1 (by decide) ?_
      have hg := ho.2.2.1 (k) (by omega)
      rw [hp_v29, (S_m_at1 hm (show k < n by omega)).iffi]
      refine br_n1 (by decide) ?_
      exact ⟨rfl, rfl⟩
    | 1, _ =>
      refine br_n2 (by decide) ?_
      have hg := ho.2.2.1 (n - 1 - k) (by omega)
      rw [hp_v29, nI_sub (show k ≤ n - 1 by omega) (by omega), (S_m_at1 hm (show n - 1 - k < n by omega)).iffi]
      refine br_n1 (by decide) ?_
      exact ⟨rfl, rfl⟩
    | 2, _ =>
      refine br_n1 (by decide) ?_
      have hg := ho.2.2.1 (k) (by omega)
      rw [hp_v29, (S_m_at1 hm (show k < n by omega)).iffi]
      refine br_n2 (by decide) ?_
      rw [nI_sub (show g (k) ≤ n - 1 by omega) (by omega)]
      exact ⟨rfl, rfl⟩
    | 3, _ =>
      refine br_n2 (by decide) ?_
      have hg := ho.2.2.1 (n - 1 - k) (by omega)
      rw [hp_v29, nI_sub (show k ≤ n - 1 by omega) (by omega), (S_m_at1 hm (show n - 1 - k < n by omega)).iffi]
      refine br_n2 (by decide) ?_
      rw [nI_sub (show g (n - 1 - k) ≤ n - 1 by omega) (by omega)]
      exact ⟨rfl, rfl⟩
  · refine br_t (by omega) ?_
    obtain ⟨r, q1, q2, q3⟩ := sr_find (tn4_or (t := t) ho) hk
    refine m_turned_loop (d := d) (r := 0) hm ho ht hk n r rfl (Nat.zero_le _) q3 ⟨?_, rfl⟩
    unfold tnd
    rw [if_neg h4, q3]
    rfl
theorem m_turn_loop {t p n c : Nat} {g : Nat → Nat} (hp10 : p < 10) (hm : mth m p n g) (ho : OR n g) (hc : c < 8) {Q : Option Value → lk_H → Prop} (hQ : ∀ m1, MD m m1 (tnd n c g) n → m1 5 10 = nI n → lk_wxi X (d + 3) 127 [.ref 29, .int (nI t), .int 1] (hp x S L m1 dyn) (fun r h => Q (some (.int r)) h)) : ∀ (u j : Nat) (m1 : Nat → Nat → Int32), n - j = u → j ≤ n → MD m m1 (tnd n c g) j → m1 5 10 = nI n → lk_wp X (d + 4) 141 61 [.ref 29, .int (nI t), .int (nI p), .int (nI c), .retAddr 0, .int (nI j)] [] (hp x S L m1 dyn) Q := by
  have h16 := ho.2.1
  intro u
  induction u with
  | zero =>
    intro j m1 hu hj hM h5
    have hm1 := hM.1.mth hp10 hm
    refine F_m_turn_61 ?_
    rw [hp_f29_5, hp_a35, nI_clamp (by omega), hm1.2.2.1]
    refine ⟨vp_in_nI (by omega) (by omega), br_t (nI_le (by omega) (by omega)) ?_⟩
    rw [show j = n by omega] at hM
    rw [hp_v29]
    exact hQ m1 hM h5
  | succ u ih =>
    intro j m1 hu hj hM h5
    have hm1 := hM.1.mth hp10 hm
    have hjn : j < n := by omega
    refine F_m_turn_61 ?_
    rw [hp_f29_5, hp_a35, nI_clamp (by omega), hm1.2.2.1]
    refine ⟨vp_in_nI (by omega) (by omega), br_f (nI_ge hjn (by omega)) ?_⟩
    rw [hp_v29, (S_m_turned hm1 ho hc hjn).iffi, hp_v29, (S_m_make (show j < 16 by omega)).iffv, nI_1]
    exact ih (j + 1) _ (by omega) (by omega) hM.go (by rw [ms_ne (by decide)]; exact h5)
theorem T_turn (h : Rel x S L m dyn) (a b c : Int32) : TE X (d + 6) 76 141 [.int a, .int b, .int c] x S L m dyn := by
  have e0 : (0 : Int32).toInt = 0 := rfl
  have e8 : (8 : Int32).toInt = 8 := rfl
  by_cases ha : 0 ≤ a.toInt ∧ a.toInt ≤ 9
  · by_cases hb : 0 ≤ b.toInt ∧ b.toInt ≤ 9
    · by_cases hc : 0 ≤ c.toInt ∧ c.toInt ≤ 7
      · obtain ⟨t, rfl, ht1, -⟩ := i32_nat ha.1
        obtain ⟨p, rfl, hp1, -⟩ := i32_nat hb.1
        obtain ⟨cc, rfl, hc1, -⟩ := i32_nat hc.1
        have ht10 : t < 10 := by omega
        have hp10 : p < 10 := by omega
        rcases h.ord2 hp10 with ⟨f, hf, o1, o2, o3⟩ | ⟨a1, c1, b1, n1, g1, hoc, t1, or1, m1, o1, o3⟩
        · refine TE.mk0 (r := -1000010 - f) (E_x_turn ?_) (E_m_turn ?_) (h.st f)
          · rw [S_x_isPlace.iffi]
            refine br_f (bI_t ha) ?_
            rw [S_x_isPlace.iffi]
            refine br_f (bI_t hb) ?_
            refine br_f (by rw [i32_lt]; omega) (br_t (by rw [i32_lt]; omega) ?_)
            rw [hp_v0, (o1 X (d + 4)).iffn, hp_v0, (o2 X (d + 4)).iffi, hp_v0, S_x_found.iffi]
            exact ⟨rfl, rfl⟩
          · rw [S_m_isPlace.iffi]
            refine br_f (bI_t ha) ?_
            rw [S_m_isPlace.iffi]
            refine br_f (bI_t hb) ?_
            rw [S_m_in.iffi, i64_of]
            refine br_n1 (bI_t hc) ?_
            rw [hp_v29, (o3 X (d + 3) _ _ _ _ m rfl).iffi]
            rcases hf with rfl | rfl
            · exact br_f (by decide) ⟨rfl, rfl⟩
            · exact br_f (by decide) ⟨rfl, rfl⟩
        · have t1' : tr (hp x S L m dyn) (44 + a1) c1 (44 + b1) n1 g1 := by
            have := t1 x S L m []
            rw [List.append_nil] at this
            exact this
          have hn16 := or1.2.1
          have hn1 := or1.1
          have hcc : cc < 8 := by omega
          have hor : OR n1 (tnd n1 cc g1) := tnd_or or1
          have hbl : (hp x S L m (dyn ++ [.inl (0, (n1, .inl (fun _ => 0)))]))[44 + dyn.length]? = some (.inl (0, (n1, .inl (fun _ => 0)))) := by
            rw [hp_dyn, List.getElem?_append_right (Nat.le_refl _), Nat.sub_self]
            rfl
          obtain ⟨hu1, F, hu2, hu3⟩ := (t1 x S L m [.inl (0, (n1, .inl (fun _ => 0)))]).2.2
          have hab : ¬ 44 + dyn.length = 44 + b1 := by
            intro w
            have w2 := t1'.2.2
            obtain ⟨-, F2, w3, -⟩ := w2
            rw [hp_dyn] at w3
            have := (List.getElem?_eq_some_iff.mp w3).1
            omega
          obtain ⟨f, ev, hf⟩ := S_o_turnInto (X := X) (d := d + 4) (t := cc) hab hbl hu2 (fun i hi => (hu3 i hi).1) or1 hcc
          rw [hp_dynset, List.set_append_right _ _ (Nat.le_refl _), Nat.sub_self] at ev
          refine TE.made (o := true) (p := t) (n := n1) (g := tnd n1 cc g1) (f := f) h ht10 hor hf (E_x_turn ?_) (fun x' S' dyn' => ?_)
          · rw [S_x_isPlace.iffi]
            refine br_f (bI_t ha) ?_
            rw [S_x_isPlace.iffi]
            refine br_f (bI_t hb) ?_
            refine br_f (by rw [i32_lt]; omega) (br_t (by rw [i32_lt]; omega) ?_)
            rw [hp_v0, (o1 X (d + 4)).iffr]
            rw [t1'.fR has5, t1'.2.2.al, nw_nI (by omega), hp_app, nI_clamp (by omega), (t1 x S L m _).fR has5, hp_length, ev.iffv]
            have e : ([Sum.inl (0, (n1, Sum.inl (fun _ => 0)))] : lk_H).set 0 (.inl (0, (n1, .inl f))) = [.inl (0, (n1, .inl f))] := rfl
            rw [e, (C_tell_o (d := d + 1) hor hf).iffr, hp_v0, (C_shelve (d := d + 3) (o := true) ht10 hor hf).iffi]
            exact ⟨rfl, rfl⟩
          · have main : lk_wx X (d + 6) 141 [.ref 29, .int (nI t), .int (nI p), .int (nI cc)] (hp x' S' L m dyn') (fun v h' => ∃ m1 m', v = some (.int (nI (kd true n1 (tnd n1 cc g1)))) ∧ h' = hp x' S' L m' dyn' ∧ SC m m1 ∧ KP m1 m' t n1 (kd true n1 (tnd n1 cc g1)) (tnd n1 cc g1)) := by
              refine E_m_turn ?_
              rw [S_m_isPlace.iffi]
              refine br_f (bI_t ha) ?_
              rw [S_m_isPlace.iffi]
              refine br_f (bI_t hb) ?_
              rw [S_m_in.iffi, i64_of]
              refine br_n1 (bI_t hc) ?_
              rw [hp_v29, (o3 X (d + 3) _ _ _ _ m rfl).iffi]
              refine br_t rfl ?_
              rw [hp_f29_5, hp_f29_5, hp_a35, nI_clamp (by omega), m1.2.2.1]
              refine ⟨vp_in_nI (by omega) (by omega), ?_⟩
              rw [hp_w35]
              refine ⟨vp_in_nI (n := 10) (by omega) (by omega), ?_⟩
              exact m_turn_loop (d := d + 2) (j := 0) hp10 m1 or1 hcc (fun m2 hM h5 => by
                obtain ⟨m', k1, k2⟩ := M_keep (X := X) (d := d + 1) (x := x') (S := S') (L := L) (dyn := dyn') (o := true) ht10 hM h5 hor
                rw [show (Value.int 1) = Value.int (oI true) from rfl, k1.iffi]
                exact ⟨m2, m', rfl, rfl, hM.1, k2⟩) n1 _ rfl (Nat.zero_le _) ⟨SC.rf.m5, fun i hi => by omega⟩ (by rw [ms_same]; exact pk_us)
            obtain ⟨v, h', ev, m1, m', rfl, rfl, h1, h2⟩ := main.ex
            exact ⟨m1, m', ev, h1, h2⟩
      · refine TE.mk0 (r := -1000001) (E_x_turn ?_) (E_m_turn ?_) h
        · rw [S_x_isPlace.iffi]
          refine br_f (bI_t ha) ?_
          rw [S_x_isPlace.iffi]
          refine br_f (bI_t hb) ?_
          by_cases hlo : c.toInt < 0
          · exact br_t (by rw [i32_lt]; omega) ⟨rfl, rfl⟩
          · exact br_f (by rw [i32_lt]; omega) (br_f (by rw [i32_lt]; omega) ⟨rfl, rfl⟩)
        · rw [S_m_isPlace.iffi]
          refine br_f (bI_t ha) ?_
          rw [S_m_isPlace.iffi]
          refine br_f (bI_t hb) ?_
          rw [S_m_in.iffi, i64_of]
          exact br_n2 (bI_f hc) ⟨rfl, rfl⟩
    · refine TE.mk0 (r := -1000001) (E_x_turn ?_) (E_m_turn ?_) h
      · rw [S_x_isPlace.iffi]
        refine br_f (bI_t ha) ?_
        rw [S_x_isPlace.iffi]
        exact br_t (bI_f hb) ⟨rfl, rfl⟩
      · rw [S_m_isPlace.iffi]
        refine br_f (bI_t ha) ?_
        rw [S_m_isPlace.iffi]
        exact br_t (bI_f hb) ⟨rfl, rfl⟩
  · refine TE.mk0 (r := -1000001) (E_x_turn ?_) (E_m_turn ?_) h
    · rw [S_x_isPlace.iffi]
      exact br_t (bI_f ha) ⟨rfl, rfl⟩
    · rw [S_m_isPlace.iffi]
      exact br_t (bI_f ha) ⟨rfl, rfl⟩
end TURNS
