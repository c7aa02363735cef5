/-! what ties the class to the reference -/
/-- the first of k numbers from i on for which f says something -/
def sr {α : Type} (f : Nat → Option α) : Nat → Nat → Option α
  | _, 0 => none
  | i, k + 1 => match f i with
    | some v => some v
    | none => sr f (i + 1) k
def alD (o : Bool) (g : Nat → Nat) (a b c d : Nat) : Bool := (!o || decide (b + c = d + a)) && decide (g b + g c = g d + g a)
/-- the first two pairs that are alike: a < b, then c from a on, d behind b or c -/
def alk (o : Bool) (n : Nat) (g : Nat → Nat) : Option (Nat × Nat × Nat × Nat) :=
  sr (fun a => sr (fun b => sr (fun c => sr (fun d => if alD o g a b c d = true then some (a, b, c, d) else none) (if c = a then b + 1 else c + 1) (n - (if c = a then b + 1 else c + 1))) a (n - a)) (a + 1) (n - (a + 1))) 0 n
/-- is there one of k numbers from i on -/
def an (f : Nat → Bool) : Nat → Nat → Bool
  | _, 0 => false
  | i, k + 1 => f i || an f (i + 1) k
/-- are all numbers up to the greatest distance distances -/
def fulD (n : Nat) (g : Nat → Nat) : Bool := !(an (fun e => !(an (fun a => an (fun b => decide (g b = g a + e)) (a + 1) (n - (a + 1))) 0 n)) 1 (g (n - 1) - g 0))
def OR (n : Nat) (g : Nat → Nat) : Prop := 1 ≤ n ∧ n ≤ 16 ∧ (∀ i, i < n → g i < n) ∧ ∀ i j, i < n → j < n → g i = g j → i = j
def MK (n : Nat) (g : Nat → Nat) : Prop := 1 ≤ n ∧ n ≤ 12 ∧ (∀ i, i < n → g i ≤ 200) ∧ ∀ i j, i < j → j < n → g i < g j
/-- the kind of a class -/
def kc (c : Nat) : Nat := if c = 4 then 1 else if c = 0 then 2 else if c = 2 then 3 else if c = 6 then 4 else 5
/-- a thing's class is told by its numbers -/
def TH (c n : Nat) (g : Nat → Nat) : Prop :=
  (OR n g ∧ c = (if (alk true n g).isSome then 4 else 0)) ∨ (MK n g ∧ c = (if (alk false n g).isSome then 2 else if fulD n g = true then 5 else 6))
/-- a thing at a: its class, its numbers -/
def tat (h : lk_H) (a c n : Nat) (g : Nat → Nat) : Prop := ∃ b f, h[a]? = some (.inr (c, [.ref b])) ∧ h[b]? = some (.inl (0, (n, .inl f))) ∧ ∀ i, i < n → f i = nI (g i)
def RS (x m : Nat → Nat → Int32) : Prop := ∀ k, k < 8 → (x (20 + k) 0 = 1 ∧ m 0 k = 0) ∨ (x (20 + k) 0 = 0 ∧ ∃ la n : Nat, la < 3 ∧ n ≤ 60 ∧ x (30 + k) 0 = nI la ∧ m 0 k = nI (la + 1) ∧ x (40 + k) 0 = nI n ∧ m 1 k = nI n ∧ ∀ i, i < n → x (10 + k) i = m 2 (60 * k + i))
def RT (x m : Nat → Nat → Int32) : Prop := x 0 0 = m 14 0 ∧ ∃ t : Nat, t ≤ 16 ∧ x 1 0 = nI t ∧ m 15 0 = nI t ∧ ∀ i, i < t → x 2 i = m 7 i
def RG (S : Nat → Option Nat) (dyn : lk_H) (m : Nat → Nat → Int32) : Prop := ∀ p, p < 10 → (S p = none ∧ m 4 p = 0) ∨ ∃ a c n g, S p = some (44 + a) ∧ (∃ b f, dyn[a]? = some (.inr (c, [.ref (44 + b)])) ∧ dyn[b]? = some (.inl (0, (n, .inl f))) ∧ ∀ i, i < n → f i = nI (g i)) ∧ m 4 p = nI (kc c) ∧ m 5 p = nI n ∧ (∀ i, i < n → m 6 (16 * p + i) = nI (g i)) ∧ TH c n g
theorem RS.congr {x x' m m' : Nat → Nat → Int32} (h : RS x m) (hx : ∀ c, 10 ≤ c → x' c = x c) (h0 : m' 0 = m 0) (h1 : m' 1 = m 1) (h2 : m' 2 = m 2) : RS x' m' := by
  intro k hk
  rw [hx (20 + k) (by omega), hx (30 + k) (by omega), hx (40 + k) (by omega), hx (10 + k) (by omega), h0, h1, h2]
  exact h k hk
theorem RT.congr {x x' m m' : Nat → Nat → Int32} (h : RT x m) (h0 : x' 0 0 = m' 14 0) (h1 : x' 1 = x 1) (h2 : x' 2 = x 2) (h3 : m' 15 = m 15) (h4 : m' 7 = m 7) : RT x' m' := by
  obtain ⟨-, t, ht⟩ := h
  refine ⟨h0, t, ?_⟩
  rw [h1, h2, h3, h4]
  exact ht
theorem RG.congr {S : Nat → Option Nat} {dyn dyn' : lk_H} {m m' : Nat → Nat → Int32} (h : RG S dyn m) (hd : ∀ (k : Nat) (v : va_E), dyn[k]? = some v → dyn'[k]? = some v) (h4 : ∀ p, p < 10 → m' 4 p = m 4 p) (h5 : ∀ p, p < 10 → m' 5 p = m 5 p) (h6 : ∀ q, q < 160 → m' 6 q = m 6 q) : RG S dyn' m' := by
  intro p hp
  rcases h p hp with ⟨q1, q2⟩ | ⟨a, c, n, g, q1, ⟨b, f, q2, q3, q4⟩, q5, q6, q7, q8⟩
  · exact Or.inl ⟨q1, by rw [h4 p hp]; exact q2⟩
  · refine Or.inr ⟨a, c, n, g, q1, ⟨b, f, hd _ _ q2, hd _ _ q3, q4⟩, by rw [h4 p hp]; exact q5, by rw [h5 p hp]; exact q6, fun i hi => ?_, q8⟩
    have hn : n ≤ 16 := by
      rcases q8 with ⟨q9, -⟩ | ⟨q9, -⟩
      · exact q9.2.1
      · have := q9.2.1; omega
    rw [h6 _ (by omega)]
    exact q7 i hi
theorem br_n1 {c A B : Prop} (h : ¬ c) (a : A) : (¬ c → A) ∧ (c → B) := ⟨fun _ => a, fun q => absurd q h⟩
theorem br_n2 {c A B : Prop} (h : c) (b : B) : (¬ c → A) ∧ (c → B) := ⟨fun q => absurd h q, fun _ => b⟩
theorem bI_t {p : Prop} [Decidable p] (h : p) : ¬ bI p = 0 := fun q => bI_eq0.mp q h
theorem bI_f {p : Prop} [Decidable p] (h : ¬ p) : bI p = 0 := bI_eq0.mpr h
theorem mr_same (m : Nat → Nat → Int32) (c : Nat) (f : Nat → Int32) : mr m c f c = f := if_pos rfl
theorem mr_ne {m : Nat → Nat → Int32} {c c' : Nat} {f : Nat → Int32} (h : ¬ c' = c) : mr m c f c' = m c' := if_neg h
