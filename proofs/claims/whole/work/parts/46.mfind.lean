/-! the reference: pairs alike -/
def fA (m : Nat → Nat → Int32) : Option (Nat × Nat × Nat × Nat) → Nat → Nat → Int32
  | some (a, b, c, e) => ms (ms (ms (ms m 8 0 (nI a)) 8 1 (nI b)) 8 2 (nI c)) 8 3 (nI e)
  | none => ms (ms (ms (ms m 8 0 (-1000000)) 8 1 (-1000000)) 8 2 (-1000000)) 8 3 (-1000000)
def oI (o : Bool) : Int32 := if o = true then 1 else 0
theorem nI_sub_eq {a b c e : Nat} (ha : a < 2 ^ 29) (hb : b < 2 ^ 29) (hc : c < 2 ^ 29) (he : e < 2 ^ 29) : nI b - nI a = nI e - nI c ↔ b + c = e + a := by
  rw [i32_eq, pk_sub_toInt (by omega) (by omega), pk_sub_toInt (by omega) (by omega)]
  omega
theorem bI_1 {p : Prop} [Decidable p] (h : p) : bI p = 1 := if_pos h
theorem bI_0 {p : Prop} [Decidable p] (h : ¬ p) : bI p = 0 := if_neg h
theorem alD_iff {o : Bool} {g : Nat → Nat} {a b c e : Nat} : alD o g a b c e = true ↔ (o = true → b + c = e + a) ∧ g b + g c = g e + g a := by
  unfold alD
  cases o <;> simp
theorem vp4 (k : Nat) (h : k < 4) : vp_in (nI k) 4 := vp_in_nI h (by omega)
theorem sr_zero {α : Type} (f : Nat → Option α) (i : Nat) : sr f i 0 = none := rfl
theorem sr_some {α : Type} {f : Nat → Option α} {i k : Nat} {v : α} (h : f i = some v) : sr f i (k + 1) = some v := by rw [sr, h]
theorem sr_none {α : Type} {f : Nat → Option α} {i k : Nat} (h : f i = none) : sr f i (k + 1) = sr f (i + 1) k := by rw [sr, h]
/-- the numbers of a place of the reference -/
def mth (m : Nat → Nat → Int32) (t n : Nat) (g : Nat → Nat) : Prop := t ≤ 10 ∧ n ≤ 16 ∧ m 5 t = nI n ∧ ∀ i, i < n → m 6 (16 * t + i) = nI (g i) ∧ g i ≤ 200
section MFIND
variable {X : lk_X} {d : Nat} {x : Nat → Nat → Int32} {S L : Nat → Option Nat} {m : Nat → Nat → Int32} {dyn : lk_H}
theorem S_m_at1 {t n k : Nat} {g : Nat → Nat} (hm : mth m t n g) (hk : k < n) : lk_ev X (d + 1) 122 [.ref 29, .int (nI t), .int (nI k)] (hp x S L m dyn) (some (.int (nI (g k)))) (hp x S L m dyn) := by
  have := hm.1
  have := hm.2.1
  have h := S_m_at0 (X := X) (d := d) (x := x) (S := S) (L := L) (m := m) (dyn := dyn) (t := t) (k := k) (by omega)
  rw [(hm.2.2.2 k hk).1] at h
  exact h
theorem S_m_areAlike {o : Bool} {t n a b c e : Nat} {g : Nat → Nat} (hm : mth m t n g) (ha : a < n) (hb : b < n) (hc : c < n) (he : e < n) : lk_ev X (d + 2) 123 [.ref 29, .int (nI t), .int (oI o), .int (nI a), .int (nI b), .int (nI c), .int (nI e)] (hp x S L m dyn) (some (.int (bI (alD o g a b c e = true)))) (hp x S L m dyn) := by
  have h16 := hm.2.1
  have ga := (hm.2.2.2 a ha).2
  have gb := (hm.2.2.2 b hb).2
  have gc := (hm.2.2.2 c hc).2
  have ge := (hm.2.2.2 e he).2
  have e1 : (nI (g b) - nI (g a) = nI (g e) - nI (g c)) ↔ g b + g c = g e + g a := nI_sub_eq (by omega) (by omega) (by omega) (by omega)
  have e2 : (nI b - nI a = nI e - nI c) ↔ b + c = e + a := nI_sub_eq (by omega) (by omega) (by omega) (by omega)
  refine E_m_areAlike ?_
  cases o with
  | false =>
    refine br_t rfl ?_
    rw [hp_v29, (S_m_at1 hm hb).iffi, hp_v29, (S_m_at1 hm ha).iffi, hp_v29, (S_m_at1 hm he).iffi, hp_v29, (S_m_at1 hm hc).iffi, e1]
    refine ⟨fun q => ⟨?_, rfl⟩, fun q => ⟨?_, rfl⟩⟩
    · rw [bI_0 (fun w => q (alD_iff.mp w).2)]
    · rw [bI_1 (alD_iff.mpr ⟨fun w => absurd w (by decide), q⟩)]
  | true =>
    refine br_f (by decide) ?_
    rw [e2]
    refine ⟨fun q => ⟨?_, rfl⟩, fun q => ?_⟩
    · rw [bI_0 (fun w => q ((alD_iff.mp w).1 rfl))]
    · rw [hp_v29, (S_m_at1 hm hb).iffi, hp_v29, (S_m_at1 hm ha).iffi, hp_v29, (S_m_at1 hm he).iffi, hp_v29, (S_m_at1 hm hc).iffi, e1]
      refine ⟨fun q2 => ⟨?_, rfl⟩, fun q2 => ⟨?_, rfl⟩⟩
      · rw [bI_0 (fun w => q2 (alD_iff.mp w).2)]
      · rw [bI_1 (alD_iff.mpr ⟨fun _ => q, q2⟩)]
theorem m_find_d {o : Bool} {t n a b c : Nat} {g : Nat → Nat} (hm : mth m t n g) (ha : a < n) (hb : b < n) (hc : c < n) {Q : Option Value → lk_H → Prop} : ∀ (k e : Nat), n - e = k → (∀ v, sr (fun e => if alD o g a b c e = true then some (a, b, c, e) else none) e k = some v → Q (some (.int 1)) (hp x S L (fA m (some v)) dyn)) → (sr (fun e => if alD o g a b c e = true then some (a, b, c, e) else none) e k = none → lk_wp X (d + 3) 124 32 [.ref 29, .int (nI t), .int (oI o), .int (nI n), .int (nI a), .int (nI b), .int (nI (c + 1)), .retAddr 0] [] (hp x S L m dyn) Q) → e ≤ 16 → lk_wp X (d + 3) 124 58 [.ref 29, .int (nI t), .int (oI o), .int (nI n), .int (nI a), .int (nI b), .int (nI c), .int (nI e)] [] (hp x S L m dyn) Q := by
  have h16 := hm.2.1
  intro k
  induction k with
  | zero =>
    intro e hk h1 h2 he
    refine F_m_findAlike_58 (br_t (nI_le (by omega) (by omega)) ?_)
    rw [nI_1]
    exact h2 rfl
  | succ k ih =>
    intro e hk h1 h2 he
    refine F_m_findAlike_58 (br_f (nI_ge (by omega) (by omega)) ?_)
    rw [hp_v29, (S_m_areAlike hm ha hb hc (show e < n by omega)).iffi]
    by_cases hq : alD o g a b c e = true
    · refine br_f (bI_t hq) ?_
      have h3 := h1 (a, b, c, e) (sr_some (if_pos hq))
      rw [hp_f29_10, hp_w38, hp_f29_10, hp_w38, hp_f29_10, hp_w38, hp_f29_10, hp_w38]
      exact ⟨vp4 0 (by decide), vp4 1 (by decide), vp4 2 (by decide), vp4 3 (by decide), h3⟩
    · refine br_t (bI_f hq) ?_
      rw [sr_none (if_neg hq)] at h1 h2
      rw [nI_1]
      exact ih (e + 1) (by omega) h1 h2 (by omega)
theorem m_find_c {o : Bool} {t n a b : Nat} {g : Nat → Nat} (hm : mth m t n g) (ha : a < n) (hb : b < n) {Q : Option Value → lk_H → Prop} {f : Nat → Option (Nat × Nat × Nat × Nat)} (hf : f = fun c => sr (fun e => if alD o g a b c e = true then some (a, b, c, e) else none) (if c = a then b + 1 else c + 1) (n - (if c = a then b + 1 else c + 1))) : ∀ (k c : Nat), n - c = k → (∀ v, sr f c k = some v → Q (some (.int 1)) (hp x S L (fA m (some v)) dyn)) → (sr f c k = none → lk_wp X (d + 3) 124 22 [.ref 29, .int (nI t), .int (oI o), .int (nI n), .int (nI a), .int (nI (b + 1)), .retAddr 0, .retAddr 0] [] (hp x S L m dyn) Q) → c ≤ 16 → lk_wp X (d + 3) 124 32 [.ref 29, .int (nI t), .int (oI o), .int (nI n), .int (nI a), .int (nI b), .int (nI c), .retAddr 0] [] (hp x S L m dyn) Q := by
  have h16 := hm.2.1
  intro k
  induction k with
  | zero =>
    intro c hk h1 h2 hc
    refine F_m_findAlike_32 (br_t (nI_le (by omega) (by omega)) ?_)
    rw [nI_1]
    exact h2 rfl
  | succ k ih =>
    intro c hk h1 h2 hc
    refine F_m_findAlike_32 (br_f (nI_ge (by omega) (by omega)) ?_)
    have e : (nI c = nI a) ↔ c = a := nI_eq (by omega) (by omega)
    rw [e, nI_1, nI_1]
    have key : ∀ e0, e0 = (if c = a then b + 1 else c + 1) → lk_wp X (d + 3) 124 58 [.ref 29, .int (nI t), .int (oI o), .int (nI n), .int (nI a), .int (nI b), .int (nI c), .int (nI e0)] [] (hp x S L m dyn) Q := by
      intro e0 he0
      have hfc : f c = sr (fun e => if alD o g a b c e = true then some (a, b, c, e) else none) e0 (n - e0) := by rw [hf, he0]
      have he16 : e0 ≤ 16 := by
        rw [he0]
        split <;> omega
      refine m_find_d (c := c) hm ha hb (by omega) (n - e0) e0 rfl (fun v hv => h1 v (sr_some (by rw [hfc]; exact hv))) (fun hv => ?_) he16
      rw [sr_none (by rw [hfc]; exact hv)] at h1 h2
      exact ih (c + 1) (by omega) h1 h2 (by omega)
    exact ⟨fun q => key _ (if_neg q).symm, fun q => key _ (if_pos q).symm⟩
theorem m_find_b {o : Bool} {t n a : Nat} {g : Nat → Nat} (hm : mth m t n g) (ha : a < n) {Q : Option Value → lk_H → Prop} {f : Nat → Option (Nat × Nat × Nat × Nat)} (hf : f = fun b => sr (fun c => sr (fun e => if alD o g a b c e = true then some (a, b, c, e) else none) (if c = a then b + 1 else c + 1) (n - (if c = a then b + 1 else c + 1))) a (n - a)) : ∀ (k b : Nat), n - b = k → (∀ v, sr f b k = some v → Q (some (.int 1)) (hp x S L (fA m (some v)) dyn)) → (sr f b k = none → lk_wp X (d + 3) 124 10 [.ref 29, .int (nI t), .int (oI o), .int (nI n), .int (nI (a + 1)), .retAddr 0, .retAddr 0, .retAddr 0] [] (hp x S L m dyn) Q) → b ≤ 16 → lk_wp X (d + 3) 124 22 [.ref 29, .int (nI t), .int (oI o), .int (nI n), .int (nI a), .int (nI b), .retAddr 0, .retAddr 0] [] (hp x S L m dyn) Q := by
  have h16 := hm.2.1
  intro k
  induction k with
  | zero =>
    intro b hk h1 h2 hb
    refine F_m_findAlike_22 (br_t (nI_le (by omega) (by omega)) ?_)
    rw [nI_1]
    exact h2 rfl
  | succ k ih =>
    intro b hk h1 h2 hb
    refine F_m_findAlike_22 (br_f (nI_ge (by omega) (by omega)) ?_)
    have hfb : f b = sr (fun c => sr (fun e => if alD o g a b c e = true then some (a, b, c, e) else none) (if c = a then b + 1 else c + 1) (n - (if c = a then b + 1 else c + 1))) a (n - a) := by rw [hf]
    refine m_find_c (b := b) hm ha (by omega) rfl (n - a) a rfl (fun v hv => h1 v (sr_some (by rw [hfb]; exact hv))) (fun hv => ?_) (by omega)
    rw [sr_none (by rw [hfb]; exact hv)] at h1 h2
    exact ih (b + 1) (by omega) h1 h2 (by omega)
theorem m_find_a {o : Bool} {t n : Nat} {g : Nat → Nat} (hm : mth m t n g) {Q : Option Value → lk_H → Prop} {f : Nat → Option (Nat × Nat × Nat × Nat)} (hf : f = fun a => sr (fun b => sr (fun c => sr (fun e => if alD o g a b c e = true then some (a, b, c, e) else none) (if c = a then b + 1 else c + 1) (n - (if c = a then b + 1 else c + 1))) a (n - a)) (a + 1) (n - (a + 1))) : ∀ (k a : Nat), n - a = k → (∀ v, sr f a k = some v → Q (some (.int 1)) (hp x S L (fA m (some v)) dyn)) → (sr f a k = none → Q (some (.int 0)) (hp x S L (fA m none) dyn)) → a ≤ 16 → lk_wp X (d + 3) 124 10 [.ref 29, .int (nI t), .int (oI o), .int (nI n), .int (nI a), .retAddr 0, .retAddr 0, .retAddr 0] [] (hp x S L m dyn) Q := by
  have h16 := hm.2.1
  intro k
  induction k with
  | zero =>
    intro a hk h1 h2 ha
    refine F_m_findAlike_10 (br_t (nI_le (by omega) (by omega)) ?_)
    have h3 := h2 rfl
    refine F_m_findAlike_142 (br_f (by decide) ?_)
    rw [hp_f29_10, hp_w38]
    refine ⟨vp4 0 (by decide), F_m_findAlike_142 (br_f (by decide) ?_)⟩
    rw [hp_f29_10, hp_w38]
    refine ⟨vp4 1 (by decide), F_m_findAlike_142 (br_f (by decide) ?_)⟩
    rw [hp_f29_10, hp_w38]
    refine ⟨vp4 2 (by decide), F_m_findAlike_142 (br_f (by decide) ?_)⟩
    rw [hp_f29_10, hp_w38]
    exact ⟨vp4 3 (by decide), F_m_findAlike_142 (br_t (by decide) h3)⟩
  | succ k ih =>
    intro a hk h1 h2 ha
    refine F_m_findAlike_10 (br_f (nI_ge (by omega) (by omega)) ?_)
    have hfa : f a = sr (fun b => sr (fun c => sr (fun e => if alD o g a b c e = true then some (a, b, c, e) else none) (if c = a then b + 1 else c + 1) (n - (if c = a then b + 1 else c + 1))) a (n - a)) (a + 1) (n - (a + 1)) := by rw [hf]
    rw [nI_1]
    refine m_find_b (a := a) hm (by omega) rfl (n - (a + 1)) (a + 1) rfl (fun v hv => h1 v (sr_some (by rw [hfa]; exact hv))) (fun hv => ?_) (by omega)
    rw [sr_none (by rw [hfa]; exact hv)] at h1 h2
    exact ih (a + 1) (by omega) h1 h2 (by omega)
theorem S_m_findAlike {o : Bool} {t n : Nat} {g : Nat → Nat} (hm : mth m t n g) : lk_ev X (d + 3) 124 [.ref 29, .int (nI t), .int (oI o)] (hp x S L m dyn) (some (.int (bI ((alk o n g).isSome = true)))) (hp x S L (fA m (alk o n g)) dyn) := by
  have h10 := hm.1
  refine E_m_findAlike ?_
  rw [hp_f29_5, hp_a35, nI_clamp (by omega), hm.2.2.1]
  refine ⟨vp_in_nI (by omega) (by omega), ?_⟩
  refine m_find_a (a := 0) hm rfl n rfl (fun v hv => ?_) (fun hv => ?_) (by omega)
  · have e : alk o n g = some v := hv
    rw [e]
    exact ⟨rfl, rfl⟩
  · have e : alk o n g = none := hv
    rw [e]
    exact ⟨rfl, rfl⟩
end MFIND
