/-! most and together -/
def iI (z : Int) : Int32 := Int32.ofInt z
theorem iI_toInt {z : Int} (h : -1000 ≤ z ∧ z ≤ 1000) : (iI z).toInt = z := by
  unfold iI
  rw [Int32.toInt_ofInt, show Int32.size = 4294967296 from rfl]
  apply Int.bmod_eq_of_le <;> omega
theorem iI_1 {z : Int} (h : -900 ≤ z ∧ z ≤ 900) : iI z + 1 = iI (z + 1) := by
  rw [i32_eq, Int32.toInt_add, iI_toInt (by omega), iI_toInt (by omega), show (1 : Int32).toInt = 1 from rfl]
  apply Int.bmod_eq_of_le <;> omega
theorem iI_nat {n : Nat} (h : n ≤ 900) : iI (n : Int) = nI n := by rw [i32_eq, iI_toInt (by omega), i32_nI (by omega)]
theorem cn_snoc {f : Nat → Bool} : ∀ {k i : Nat}, cn f i (k + 1) = cn f i k + (if f (i + k) = true then 1 else 0) := by
  intro k
  induction k with
  | zero => intro i; simp [cn]
  | succ k ih =>
    intro i
    rw [cn, ih, cn, show i + 1 + k = i + (k + 1) by omega]
    omega
theorem cn_zero {f : Nat → Bool} : ∀ {k i : Nat}, (∀ j, i ≤ j → j < i + k → ¬ f j = true) → cn f i k = 0 := by
  intro k
  induction k with
  | zero => intro i _; rfl
  | succ k ih =>
    intro i h
    rw [cn, if_neg (h i (Nat.le_refl _) (by omega)), ih (fun j h1 h2 => h j (by omega) (by omega))]
theorem cn_congr {f f' : Nat → Bool} : ∀ {k i : Nat}, (∀ j, i ≤ j → j < i + k → f j = f' j) → cn f i k = cn f' i k := by
  intro k
  induction k with
  | zero => intro i _; rfl
  | succ k ih =>
    intro i h
    rw [cn, cn, h i (Nat.le_refl _) (by omega), ih (fun j h1 h2 => h j (by omega) (by omega))]
theorem cn_add {f : Nat → Bool} : ∀ {a i b : Nat}, cn f i (a + b) = cn f i a + cn f (i + a) b := by
  intro a
  induction a with
  | zero => intro i b; rw [Nat.zero_add, cn, Nat.zero_add]; rfl
  | succ a ih =>
    intro i b
    rw [show a + 1 + b = (a + b) + 1 by omega, cn, cn, ih, show i + 1 + a = i + (a + 1) by omega]
    omega
theorem cn_shift {f : Nat → Bool} {p : Nat} : ∀ {k i : Nat}, cn f (i + p) k = cn (fun j => f (j + p)) i k := by
  intro k
  induction k with
  | zero => intro i; rfl
  | succ k ih =>
    intro i
    rw [cn, cn, show i + p + 1 = (i + 1) + p by omega, ih]
theorem lk_wx.ex {X : lk_X} {d k : Nat} {as : List Value} {h : lk_H} {Q : Option Value → lk_H → Prop} (w : lk_wx X d k as h Q) : ∃ v h', lk_ev X d k as h v h' ∧ Q v h' := by
  obtain ⟨K, h1, h2, n, v, h', h3, h4⟩ := w
  exact ⟨v, h', ⟨K, h1, h2, n, v, h', h3, rfl, rfl⟩, h4⟩
/-- c is the most of what P speaks of -/
def MX (P : Int → Int → Prop) (M : Int → Int → Nat) (c : Nat) : Prop := (∀ r s, P r s → M r s ≤ c) ∧ (c = 0 ∨ ∃ r s, P r s ∧ M r s = c)
theorem MX.eq {P P' : Int → Int → Prop} {M : Int → Int → Nat} {c c' : Nat} (h : MX P M c) (h' : MX P' M c') (h1 : ∀ r s, P r s → M r s = 0 ∨ ∃ r' s', P' r' s' ∧ M r' s' = M r s) (h2 : ∀ r s, P' r s → M r s = 0 ∨ ∃ r' s', P r' s' ∧ M r' s' = M r s) : c = c' := by
  apply Nat.le_antisymm
  · rcases h.2 with q | ⟨r, s, q1, q2⟩
    · omega
    · rcases h1 r s q1 with q3 | ⟨r', s', q3, q4⟩
      · omega
      · have := h'.1 r' s' q3
        omega
  · rcases h'.2 with q | ⟨r, s, q1, q2⟩
    · omega
    · rcases h2 r s q1 with q3 | ⟨r', s', q3, q4⟩
      · omega
      · have := h.1 r' s' q3
        omega
theorem Mt_le {na nb : Nat} {ga gb : Nat → Nat} {r s : Int} : Mt na nb ga gb r s ≤ nb := cn_le
/-- the same dots meet when it is moved back -/
theorem Mt_sym {n : Nat} {g : Nat → Nat} {p : Nat} {s : Int} : Mt n n g g (-(p : Int)) s = Mt n n g g p (-s) := by
  unfold Mt
  by_cases hp : p ≤ n
  · have e1 : cn (Mf n g g (-(p : Int)) s) 0 n = cn (fun j => Mf n g g (-(p : Int)) s (j + p)) 0 (n - p) := by
      have : p + (n - p) = n := by omega
      have h2 : cn (Mf n g g (-(p : Int)) s) 0 (p + (n - p)) = cn (fun j => Mf n g g (-(p : Int)) s (j + p)) 0 (n - p) := by
        rw [cn_add, cn_zero (k := p), Nat.zero_add]
        · exact cn_shift (i := 0)
        · intro j _ hj
          unfold Mf
          rw [decide_eq_true_iff]
          omega
      rw [this] at h2
      exact h2
    have e2 : cn (Mf n g g (p : Int) (-s)) 0 n = cn (Mf n g g (p : Int) (-s)) 0 (n - p) := by
      have : n = (n - p) + p := by omega
      have h2 : cn (Mf n g g (p : Int) (-s)) 0 ((n - p) + p) = cn (Mf n g g (p : Int) (-s)) 0 (n - p) := by
        rw [cn_add, cn_zero (k := p)]
        · rfl
        · intro j hj1 hj2
          unfold Mf
          rw [decide_eq_true_iff]
          omega
      rw [← this] at h2
      exact h2
    rw [e1, e2]
    refine cn_congr fun j _ hj => ?_
    unfold Mf
    rw [decide_eq_decide]
    have e3 : ((j + p : Nat) : Int) + -(p : Int) = (j : Int) := by omega
    have e4 : (j : Int) + (p : Int) = ((j + p : Nat) : Int) := by omega
    rw [e3, e4, Int.toNat_natCast, Int.toNat_natCast]
    omega
  · rw [cn_zero, cn_zero]
    · intro j _ hj
      unfold Mf
      rw [decide_eq_true_iff]
      omega
    · intro j _ hj
      unfold Mf
      rw [decide_eq_true_iff]
      omega
theorem Mt_far {na nb : Nat} {ga gb : Nat → Nat} {r s : Int} (h : r < 1 - (nb : Int) ∨ (na : Int) ≤ r) : Mt na nb ga gb r s = 0 := by
  unfold Mt
  refine cn_zero fun j _ hj => ?_
  unfold Mf
  rw [decide_eq_true_iff]
  omega
theorem Mt_wide {na nb : Nat} {ga gb : Nat → Nat} {r s : Int} (ha : ∀ i, i < na → ga i ≤ 15) (hb : ∀ i, i < nb → gb i ≤ 15) (h : s < -15 ∨ 15 < s) : Mt na nb ga gb r s = 0 := by
  unfold Mt
  refine cn_zero fun j _ hj => ?_
  unfold Mf
  rw [decide_eq_true_iff]
  rintro ⟨q1, q2, q3⟩
  have := ha ((j : Int) + r).toNat (by omega)
  have := hb j (by omega)
  omega
