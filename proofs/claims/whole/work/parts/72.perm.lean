/-! orders gone through one by one: pure numbers -/
def upN (g : Nat → Nat) (i v : Nat) : Nat → Nat := fun k => if k = i then v else g k
/-- the last row whose column is less than the next one's -/
def fi (g : Nat → Nat) : Nat → Option Nat
  | 0 => none
  | k + 1 => if g (k + 1) < g k then fi g k else some k
def fj (g : Nat → Nat) (v : Nat) : Nat → Nat
  | 0 => 0
  | j + 1 => if g (j + 1) < v then fj g v j else j + 1
def rv : Nat → (Nat → Nat) → Nat → Nat → Nat → Nat
  | 0, g, _, _ => g
  | f + 1, g, a, b => if a < b then rv f (upN (upN g a (g b)) b (g a)) (a + 1) (b - 1) else g
def nxG (n : Nat) (g : Nat → Nat) (i : Nat) : Nat → Nat := rv 8 (upN (upN g i (g (fj g (g i) (n - 1)))) (fj g (g i) (n - 1)) (g i)) (i + 1) (n - 1)
def fct : Nat → Nat
  | 0 => 1
  | k + 1 => (k + 1) * fct k
def unr : Nat → List Nat → Nat → List Nat
  | 0, _, _ => []
  | k + 1, r, i => r.getD (i / fct k) 0 :: unr k (r.eraseIdx (i / fct k)) (i % fct k)
/-- the i-th order of n rows, by its columns -/
def unk (n i : Nat) : List Nat := unr n (List.range n) i
def ck (p : Nat → Bool) : Nat → Nat → Bool
  | 0, i => p i
  | k + 1, i => ck p k i && ck p k (i + 2 ^ k)
theorem ck_get {p : Nat → Bool} : ∀ {k i j : Nat}, ck p k i = true → i ≤ j → j < i + 2 ^ k → p j = true := by
  intro k
  induction k with
  | zero =>
    intro i j h h1 h2
    rw [show j = i by rw [Nat.pow_zero] at h2; omega]
    exact h
  | succ k ih =>
    intro i j h h1 h2
    rw [ck, Bool.and_eq_true] at h
    rw [Nat.pow_succ] at h2
    by_cases hj : j < i + 2 ^ k
    · exact ih h.1 h1 hj
    · exact ih h.2 (by omega) (by omega)
def nck (n j : Nat) : Bool := decide (fct n ≤ j) || (match fi (gl (unk n j)) (n - 1) with
  | none => decide (fct n = j + 1)
  | some i => decide (j + 1 < fct n) && al (fun k => Nat.beq (nxG n (gl (unk n j)) i k) (gl (unk n (j + 1)) k)) n)
theorem nck_1 : ck (nck 1) 0 0 = true := by decide +kernel
theorem nck_2 : ck (nck 2) 1 0 = true := by decide +kernel
theorem nck_3 : ck (nck 3) 3 0 = true := by decide +kernel
theorem nck_4 : ck (nck 4) 5 0 = true := by decide +kernel
theorem nck_5 : ck (nck 5) 7 0 = true := by decide +kernel
/-- no two ways alike, row by row -/
def lonF (n : Nat) (l : List Nat) : Bool := al (lupB (gl l)) n
def rem (n j k : Nat) : List (List Nat) := ((List.range' j k).map (unk n)).filter (lonF n)
theorem rem_1 : rem 1 0 1 = lns 1 := by decide +kernel
theorem rem_2 : rem 2 0 2 = lns 2 := by decide +kernel
theorem rem_3 : rem 3 0 6 = lns 3 := by decide +kernel
theorem rem_4 : rem 4 0 24 = lns 4 := by decide +kernel
theorem rem_5 : rem 5 0 120 = lns 5 := by decide +kernel
