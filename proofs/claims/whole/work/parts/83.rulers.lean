/-! shortest rulers: pure numbers -/
/-- is v a distance of two marks -/
def tkB (l : List Nat) (v : Nat) : Bool := an (fun a => an (fun b => decide (gl l b = gl l a + v)) (a + 1) (l.length - (a + 1))) 0 l.length
/-- are all distances to a new mark new -/
def nwB (l : List Nat) (q : Nat) : Bool := !(an (fun k => tkB l (q - gl l k)) 0 l.length)
def lpS (s : Nat → Nat → Nat) (l : List Nat) : Nat → Nat → Nat → Nat
  | 0, _, lv => lv
  | k + 1, q, lv => if q < lv then lpS s l k (q + 1) (if nwB l q = true then s q lv else lv) else lv
def sea : Nat → List Nat → Nat → Nat
  | 0, l, _ => gl l (l.length - 1)
  | f + 1, l, lv => lpS (fun q lv => sea f (l ++ [q]) lv) l (200 - gl l (l.length - 1)) (gl l (l.length - 1) + 1) lv
/-- the reference's marks, the last one first: can there be n up to g -/
def cb (n g : Nat) : Nat → List Nat → Option Bool
  | 0, _ => none
  | _ + 1, [] => none
  | f + 1, p :: r => if p ≤ g ∧ (alk false (r.length + 1) (gl (p :: r).reverse)).isSome = false then (if r.length + 1 = n then some true else cb n g f ((p + 1) :: p :: r)) else if g < p ∨ r.length = 0 then (match r with
    | q :: s :: t => cb n g f ((q + 1) :: s :: t)
    | _ => some false) else cb n g f ((p + 1) :: r)
theorem sea_1 : sea 0 [0] 201 = 0 := by decide +kernel
theorem sea_2 : sea 1 [0] 201 = 1 := by decide +kernel
theorem sea_3 : sea 2 [0] 201 = 3 := by decide +kernel
theorem sea_4 : sea 3 [0] 201 = 6 := by decide +kernel
theorem sea_5 : sea 4 [0] 201 = 11 := by decide +kernel
theorem cb_1 : cb 1 0 5000 [0] = some true := by decide +kernel
theorem cb_2 : (∀ g, g < 1 → cb 2 g 5000 [0] = some false) ∧ cb 2 1 5000 [0] = some true := by decide +kernel
theorem cb_3 : (∀ g, g < 3 → cb 3 g 5000 [0] = some false) ∧ cb 3 3 5000 [0] = some true := by decide +kernel
theorem cb_4 : (∀ g, g < 6 → cb 4 g 5000 [0] = some false) ∧ cb 4 6 5000 [0] = some true := by decide +kernel
theorem cb_5 : (∀ g, g < 11 → cb 5 g 5000 [0] = some false) ∧ cb 5 11 5000 [0] = some true := by decide +kernel
