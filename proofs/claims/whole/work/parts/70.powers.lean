/-! powers: pure numbers -/
def pr3 (p : Nat) : Bool := p == 3 || p == 5 || p == 7 || p == 11 || p == 13 || p == 17
/-- the least exponent: k more tries, w the power, i its exponent -/
def xp (b v p : Nat) : Nat → Nat → Nat → Nat
  | 0, _, i => i
  | k + 1, w, i => if w = v then i else xp b v p k (w * b % p) (i + 1)
def xpo (b v p : Nat) : Nat := xp b v p (p - 2) b 1
def rtB (p g : Nat) : Bool := decide (1 ≤ g) && decide (g < p) && decide (xpo g 1 p = p - 1)
/-- the reference's count: how often until 1 -/
def rtm (g p : Nat) : Nat → Nat → Nat → Option Nat
  | 0, _, _ => none
  | k + 1, v, o => if v = 1 then some o else rtm g p k (v * g % p) (o + 1)
def pw (p g : Nat) : Nat → Nat
  | 0 => 1
  | k + 1 => pw p g k * g % p
def gW (p g e : Nat) : Nat → Nat := fun k => pw p g (k + e + 1) - 1
def orB (n : Nat) (g : Nat → Nat) : Bool := !(an (fun i => !(decide (g i < n)) || an (fun j => decide (g j = g i)) 0 i) 0 n)
theorem orB_or {n : Nat} {g : Nat → Nat} (h : orB n g = true) (h1 : 1 ≤ n) (h2 : n ≤ 16) : OR n g := by
  unfold orB at h
  have h3 : ∀ i, i < n → g i < n ∧ ∀ j, j < i → ¬ g j = g i := by
    intro i hi
    have hn : ¬ an (fun i => !(decide (g i < n)) || an (fun j => decide (g j = g i)) 0 i) 0 n = true := by
      intro w
      rw [w] at h
      cases h
    rw [an_iff] at hn
    have hn2 : ¬ (!(decide (g i < n)) || an (fun j => decide (g j = g i)) 0 i) = true := fun w => hn ⟨i, Nat.zero_le _, by omega, w⟩
    rw [Bool.or_eq_true, an_iff] at hn2
    refine ⟨?_, fun j hj e => hn2 (Or.inr ⟨j, Nat.zero_le _, by omega, decide_eq_true e⟩)⟩
    apply Classical.byContradiction
    intro w
    exact hn2 (Or.inl (by rw [decide_eq_false w]; rfl))
  refine ⟨h1, h2, fun i hi => (h3 i hi).1, fun i j hi hj e => ?_⟩
  rcases Nat.lt_trichotomy i j with q | q | q
  · exact absurd e ((h3 j hj).2 i q)
  · exact q
  · exact absurd e.symm ((h3 i hi).2 j q)
theorem pr3_cases {p : Nat} (h : pr3 p = true) : p = 3 ∨ p = 5 ∨ p = 7 ∨ p = 11 ∨ p = 13 ∨ p = 17 := by
  unfold pr3 at h
  simp only [Bool.or_eq_true, beq_iff_eq] at h
  omega
theorem pr3_17 {p : Nat} (h : pr3 p = true) : 3 ≤ p ∧ p ≤ 17 := by
  rcases pr3_cases h with rfl | rfl | rfl | rfl | rfl | rfl <;> decide
/-- by trial division -/
theorem pr3_div : ∀ p : Nat, p < 18 → 3 ≤ p → (pr3 p = !(an (fun e => decide (p % e = 0)) 2 (p - 2))) := by decide +kernel
theorem rtm_ok : ∀ p : Nat, p < 18 → pr3 p = true → ∀ g : Nat, g < p → 1 ≤ g → ∃ o, rtm g p 20 g 1 = some o ∧ o ≤ 20 ∧ (rtB p g = true ↔ o = p - 1) := by
  have key : ∀ p : Nat, p < 18 → pr3 p = true → ∀ g : Nat, g < p → 1 ≤ g → ((rtm g p 20 g 1).any (fun o => decide (o ≤ 20) && (rtB p g == decide (o = p - 1)))) = true := by decide +kernel
  intro p h1 h2 g h3 h4
  have := key p h1 h2 g h3 h4
  cases hr : rtm g p 20 g 1 with
  | none => rw [hr] at this; cases this
  | some o =>
    rw [hr, Option.any_some, Bool.and_eq_true, decide_eq_true_iff, beq_iff_eq] at this
    refine ⟨o, rfl, this.1, ?_⟩
    rw [this.2, decide_eq_true_iff]
theorem rtB_lt {p g : Nat} (h : rtB p g = true) : 1 ≤ g ∧ g < p := by
  unfold rtB at h
  rw [Bool.and_eq_true, Bool.and_eq_true, decide_eq_true_iff, decide_eq_true_iff] at h
  exact h.1
theorem pw_lt {p g : Nat} (hp : 2 ≤ p) : ∀ k, pw p g k < p := by
  intro k
  cases k with
  | zero => rw [pw]; omega
  | succ k => rw [pw]; exact Nat.mod_lt _ (by omega)
theorem pw_pos : ∀ p : Nat, p < 18 → pr3 p = true → ∀ g : Nat, g < p → rtB p g = true → ∀ k, k < 33 → 1 ≤ pw p g k := by decide +kernel
theorem gW_orB : ∀ p : Nat, p < 18 → pr3 p = true → ∀ g : Nat, g < p → rtB p g = true → ∀ e, e < 16 → orB (p - 1) (gW p g e) = true := by decide +kernel
section POWERS
variable {X : lk_X} {d : Nat} {h : lk_H} {x : Nat → Nat → Int32} {S L : Nat → Option Nat} {m : Nat → Nat → Int32} {dyn : lk_H}
theorem x_prime_loop {p : Nat} (hp : p ≤ 17) {Q : Option Value → lk_H → Prop} : ∀ (k e : Nat), p - e = k → 2 ≤ e → e ≤ p → Q (some (.int (oI (!(an (fun e => decide (p % e = 0)) e k))))) h → lk_wp X (d + 1) 106 15 [.int (nI p), .int (nI e)] [] h Q := by
  intro k
  induction k with
  | zero =>
    intro e hk h2 he hQ
    exact F_x_isPrime_15 (br_t (nI_le (by omega) (by omega)) hQ)
  | succ k ih =>
    intro e hk h2 he hQ
    refine F_x_isPrime_15 (br_f (nI_ge (by omega) (by omega)) ⟨fun w => ?_, ?_⟩)
    · have := (nI_eq (a := e) (b := 0) (by omega) (by omega)).mp w
      omega
    · have hm : p % e < e := Nat.mod_lt _ (by omega)
      rw [pk_rem (by omega) (by omega) (by omega), nI_1]
      have ez : (nI (p % e) = 0) ↔ p % e = 0 := nI_eq (b := 0) (by omega) (by omega)
      rw [ez]
      rw [an] at hQ
      refine ⟨fun w => ih (e + 1) (by omega) (by omega) (by omega) ?_, fun w => ?_⟩
      · rw [decide_eq_false w, Bool.false_or] at hQ
        exact hQ
      · rw [decide_eq_true w, Bool.true_or] at hQ
        exact hQ
theorem S_x_isPrime {v : Int32} (h3 : 3 ≤ v.toInt) (b : Bool) (hb : b = true ↔ ∃ p, v = nI p ∧ pr3 p = true) : lk_ev X (d + 1) 106 [.int v] h (some (.int (oI b))) h := by
  have e2 : (2 : Int32).toInt = 2 := rfl
  have e17 : (17 : Int32).toInt = 17 := rfl
  refine E_x_isPrime (br_f (by rw [i32_lt]; omega) ?_)
  by_cases h17 : v.toInt ≤ 17
  · obtain ⟨p, rfl, h1, -⟩ := i32_nat (v := v) (by omega)
    refine br_t (by rw [i32_le]; omega) ?_
    refine x_prime_loop (e := 2) (by omega) (p - 2) rfl (by decide) (by omega) ⟨?_, rfl⟩
    rw [← pr3_div p (by omega) (by omega)]
    have : b = pr3 p := by
      rw [Bool.eq_iff_iff, hb]
      constructor
      · rintro ⟨q, e, hq⟩
        have := pr3_17 hq
        rw [(nI_eq (by omega) (by omega)).mp e]
        exact hq
      · exact fun w => ⟨p, rfl, w⟩
    rw [this]
  · refine br_f (by rw [i32_le]; omega) ⟨?_, rfl⟩
    have : b = false := by
      rw [← Bool.not_eq_true, hb]
      rintro ⟨q, rfl, hq⟩
      have := pr3_17 hq
      rw [i32_nI (by omega)] at h17
      omega
    rw [this]
    rfl
theorem S_m_isPrime {v : Int32} (b : Bool) (hb : b = true ↔ ∃ p, v = nI p ∧ pr3 p = true) : lk_ev X (d + 1) 131 [.int v] h (some (.int (oI b))) h := by
  have ok : ∀ p, pr3 p = true → v = nI p → some (Value.int 1) = some (.int (oI b)) ∧ h = h := fun p hp e => by
    rw [hb.mpr ⟨p, e, hp⟩]
    exact ⟨rfl, rfl⟩
  refine E_m_isPrime ⟨fun w => ok 3 rfl w, fun w3 => ⟨fun w => ok 5 rfl w, fun w5 => ⟨fun w => ok 7 rfl w, fun w7 => ⟨fun w => ok 11 rfl w, fun w11 => ⟨fun w => ok 13 rfl w, fun w13 => ⟨fun w17 => ⟨?_, rfl⟩, fun w => ok 17 rfl w⟩⟩⟩⟩⟩⟩
  have : b = false := by
    rw [← Bool.not_eq_true, hb]
    rintro ⟨q, rfl, hq⟩
    rcases pr3_cases hq with rfl | rfl | rfl | rfl | rfl | rfl
    · exact w3 rfl
    · exact w5 rfl
    · exact w7 rfl
    · exact w11 rfl
    · exact w13 rfl
    · exact w17 rfl
  rw [this]
  rfl
theorem x_exp_loop {b v p : Nat} (hp : 3 ≤ p) (hp2 : p ≤ 17) (hb : b < p) (hv : v ≤ 100) {Q : Option Value → lk_H → Prop} : ∀ (k w i : Nat), p - 1 - i = k → i ≤ p - 1 → w < p → Q (some (.int (nI (xp b v p k w i)))) h → lk_wp X (d + 1) 108 5 [.int (nI b), .int (nI v), .int (nI p), .int (nI w), .int (nI i)] [] h Q := by
  intro k
  induction k with
  | zero =>
    intro w i hk hi hw hQ
    exact F_x_exponent_5 (br_t (by rw [nI_sub1 (by omega) (by omega)]; exact nI_le (by omega) (by omega)) hQ)
  | succ k ih =>
    intro w i hk hi hw hQ
    refine F_x_exponent_5 (br_f (by rw [nI_sub1 (by omega) (by omega)]; exact nI_ge (by omega) (by omega)) ?_)
    have hwb : w * b < 2 ^ 31 := by
      have : w * b ≤ 17 * 17 := Nat.mul_le_mul (by omega) (by omega)
      omega
    rw [nI_eq (by omega) (by omega), pk_mul, pk_rem hwb (by omega) (by omega), nI_1]
    rw [xp] at hQ
    by_cases hq : w = v
    · rw [if_pos hq] at hQ
      exact br_t hq hQ
    · rw [if_neg hq] at hQ
      refine br_f hq ⟨fun e => ?_, ih _ (i + 1) (by omega) (by omega) (Nat.mod_lt _ (by omega)) hQ⟩
      have := (nI_eq (a := p) (b := 0) (by omega) (by omega)).mp e
      omega
theorem S_x_exponent {b v p : Nat} (hp : 3 ≤ p) (hp2 : p ≤ 17) (hb : b < p) (hv : v ≤ 100) : lk_ev X (d + 1) 108 [.int (nI b), .int (nI v), .int (nI p)] h (some (.int (nI (xpo b v p)))) h := by
  refine E_x_exponent ?_
  exact x_exp_loop (i := 1) hp hp2 hb hv (p - 2) b (by omega) (by omega) hb ⟨rfl, rfl⟩
theorem xp_le {b v p : Nat} : ∀ (k w i : Nat), xp b v p k w i ≤ i + k := by
  intro k
  induction k with
  | zero => intro w i; rw [xp]; omega
  | succ k ih =>
    intro w i
    rw [xp]
    split
    · omega
    · have := ih (w * b % p) (i + 1)
      omega
theorem S_x_isRoot {g : Int32} {p : Nat} (hp : pr3 p = true) (b : Bool) (hb : b = true ↔ ∃ q, g = nI q ∧ rtB p q = true) : lk_ev X (d + 2) 107 [.int g, .int (nI p)] h (some (.int (oI b))) h := by
  have h17 := pr3_17 hp
  have e1 : (1 : Int32).toInt = 1 := rfl
  have ep : (nI p).toInt = p := i32_nI (by omega)
  have no : ¬ (1 ≤ g.toInt ∧ g.toInt < p) → b = false := by
    intro w
    rw [← Bool.not_eq_true, hb]
    rintro ⟨q, rfl, hq⟩
    have := rtB_lt hq
    rw [i32_nI (by omega)] at w
    omega
  refine E_x_isRoot ?_
  by_cases h1 : g.toInt < 1
  · refine br_t (by rw [i32_lt]; omega) ⟨?_, rfl⟩
    rw [no (by omega)]
    rfl
  · refine br_f (by rw [i32_lt]; omega) ?_
    by_cases h2 : (p : Int) ≤ g.toInt
    · refine br_t (by rw [i32_le]; omega) ⟨?_, rfl⟩
      rw [no (by omega)]
      rfl
    · refine br_f (by rw [i32_le]; omega) ?_
      obtain ⟨q, rfl, hq1, -⟩ := i32_nat (v := g) (by omega)
      have hx : xpo q 1 p ≤ 1 + (p - 2) := xp_le _ _ _
      have ev : lk_ev X (d + 1) 108 [.int (nI q), .int 1, .int (nI p)] h (some (.int (nI (xpo q 1 p)))) h := S_x_exponent (v := 1) h17.1 h17.2 (by omega) (by decide)
      rw [ev.iffi, nI_sub1 (by omega) (by omega), nI_eq (by omega) (by omega)]
      have hbb : b = true ↔ xpo q 1 p = p - 1 := by
        rw [hb]
        constructor
        · rintro ⟨q', e, hq⟩
          have := rtB_lt hq
          rw [(nI_eq (by omega) (by omega)).mp e]
          unfold rtB at hq
          rw [Bool.and_eq_true, decide_eq_true_iff] at hq
          exact hq.2
        · intro w
          refine ⟨q, rfl, ?_⟩
          unfold rtB
          rw [Bool.and_eq_true, Bool.and_eq_true, decide_eq_true_iff, decide_eq_true_iff, decide_eq_true_iff]
          exact ⟨⟨by omega, by omega⟩, w⟩
      refine ⟨fun w => ⟨?_, rfl⟩, fun w => ⟨?_, rfl⟩⟩
      · have : b = false := by
          rw [← Bool.not_eq_true, hbb]
          exact w
        rw [this]
        rfl
      · rw [hbb.mpr w]
        rfl
theorem m_root_loop {g p : Nat} (hp : 3 ≤ p) (hp2 : p ≤ 17) (hg : g < p) {Q : Option Value → lk_H → Prop} : ∀ (k v o r : Nat), v < p → rtm g p k v o = some r → r ≤ 20 → ((¬ r = p - 1 → Q (some (.int 0)) h) ∧ (r = p - 1 → Q (some (.int 1)) h)) → lk_wp X (d + 1) 132 19 [.int (nI p), .int (nI g), .int (nI v), .int (nI o)] [] h Q := by
  intro k
  induction k with
  | zero => intro v o r hv hr; cases hr
  | succ k ih =>
    intro v o r hv hr hr2 hQ
    rw [rtm] at hr
    have hwb : v * g < 2 ^ 31 := by
      have : v * g ≤ 17 * 17 := Nat.mul_le_mul (by omega) (by omega)
      omega
    have e1 : (nI v = 1) ↔ v = 1 := nI_eq (b := 1) (by omega) (by omega)
    refine F_m_isRoot_19 ?_
    rw [e1, pk_mul, pk_rem hwb (by omega) (by omega), nI_1, nI_sub1 (by omega) (by omega)]
    by_cases hq : v = 1
    · rw [if_pos hq] at hr
      cases hr
      rw [nI_eq (by omega) (by omega)]
      exact br_t hq hQ
    · rw [if_neg hq] at hr
      refine br_f hq ⟨fun e => ?_, ih _ (o + 1) r (Nat.mod_lt _ (by omega)) hr hr2 hQ⟩
      have := (nI_eq (a := p) (b := 0) (by omega) (by omega)).mp e
      omega
theorem S_m_isRoot {g : Int32} {p : Nat} (hp : pr3 p = true) (b : Bool) (hb : b = true ↔ ∃ q, g = nI q ∧ rtB p q = true) : lk_ev X (d + 2) 132 [.int (nI p), .int g] h (some (.int (oI b))) h := by
  have h17 := pr3_17 hp
  have e1 : (1 : Int64).toInt = 1 := rfl
  refine E_m_isRoot ?_
  rw [S_m_in.iffi, i64_of, i64_of, nI_sub1 (by omega) (by omega), i32_nI (by omega)]
  by_cases h1 : (1 : Int64).toInt ≤ g.toInt ∧ g.toInt ≤ ((p - 1 : Nat) : Int)
  · refine br_n1 (bI_t h1) ?_
    obtain ⟨q, rfl, hq1, -⟩ := i32_nat (v := g) (by omega)
    obtain ⟨o, o1, o2, o3⟩ := rtm_ok p (by omega) hp q (by omega) (by omega)
    have hbb : b = true ↔ rtB p q = true := by
      rw [hb]
      constructor
      · rintro ⟨q', e, hq⟩
        have := rtB_lt hq
        rw [(nI_eq (by omega) (by omega)).mp e]
        exact hq
      · exact fun w => ⟨q, rfl, w⟩
    refine m_root_loop (d := d + 1) (o := 1) h17.1 h17.2 (by omega) 20 q o (by omega) o1 o2 ⟨fun w => ⟨?_, rfl⟩, fun w => ⟨?_, rfl⟩⟩
    · have : b = false := by
        rw [← Bool.not_eq_true, hbb, o3]
        exact w
      rw [this]
      rfl
    · rw [hbb.mpr (o3.mpr w)]
      rfl
  · refine br_n2 (bI_f h1) ⟨?_, rfl⟩
    have : b = false := by
      rw [← Bool.not_eq_true, hb]
      rintro ⟨q, rfl, hq⟩
      have := rtB_lt hq
      rw [i32_nI (by omega)] at h1
      omega
    rw [this]
    rfl
theorem m_power_loop {p g n : Nat} (hp : 3 ≤ p) (hp2 : p ≤ 17) (hg : g < p) (hn : n ≤ 100) {Q : Option Value → lk_H → Prop} : ∀ (k t : Nat), n - t = k → t ≤ n → Q (some (.int (nI (pw p g n)))) h → lk_wp X (d + 1) 133 5 [.int (nI p), .int (nI g), .int (nI n), .int (nI (pw p g t)), .int (nI t)] [] h Q := by
  intro k
  induction k with
  | zero =>
    intro t hk ht hQ
    rw [show n = t by omega] at hQ
    exact F_m_power_5 (br_t (nI_le (by omega) (by omega)) hQ)
  | succ k ih =>
    intro t hk ht hQ
    have hl := pw_lt (p := p) (g := g) (by omega) t
    have hwb : pw p g t * g < 2 ^ 31 := by
      have : pw p g t * g ≤ 17 * 17 := Nat.mul_le_mul (by omega) (by omega)
      omega
    refine F_m_power_5 (br_f (nI_ge (by omega) (by omega)) ⟨fun e => ?_, ?_⟩)
    · have := (nI_eq (a := p) (b := 0) (by omega) (by omega)).mp e
      omega
    · rw [pk_mul, pk_rem hwb (by omega) (by omega), nI_1]
      exact ih (t + 1) (by omega) (by omega) hQ
theorem S_m_power {p g n : Nat} (hp : 3 ≤ p) (hp2 : p ≤ 17) (hg : g < p) (hn : n ≤ 100) : lk_ev X (d + 1) 133 [.int (nI p), .int (nI g), .int (nI n)] h (some (.int (nI (pw p g n)))) h := by
  refine E_m_power ?_
  exact m_power_loop (t := 0) hp hp2 hg hn n rfl (Nat.zero_le _) ⟨rfl, rfl⟩
theorem x_pow_1 {p g e : Nat} {a : Nat} (hp : 3 ≤ p) (hp2 : p ≤ 17) (hg : g < p) (he : e ≤ 15) {Q : Option Value → lk_H → Prop} : ∀ (k t : Nat), e + 1 - t = k → t ≤ e + 1 → lk_wp X (d + 1) 109 35 [.int (nI p), .int (nI g), .retAddr 0, .ref a, .int (nI (pw p g (e + 1))), .int 0] [] h Q → lk_wp X (d + 1) 109 12 [.int (nI p), .int (nI g), .int (nI e), .ref a, .int (nI (pw p g t)), .int (nI t)] [] h Q := by
  intro k
  induction k with
  | zero =>
    intro t hk ht hQ
    rw [show e + 1 = t by omega] at hQ
    refine F_x_columnsByPowers_12 (br_t ?_ hQ)
    rw [nI_ltI (by omega) (by omega)]
    omega
  | succ k ih =>
    intro t hk ht hQ
    have hl := pw_lt (p := p) (g := g) (by omega) t
    have hwb : pw p g t * g < 2 ^ 31 := by
      have : pw p g t * g ≤ 17 * 17 := Nat.mul_le_mul (by omega) (by omega)
      omega
    refine F_x_columnsByPowers_12 (br_f ?_ ⟨fun e => ?_, ?_⟩)
    · rw [nI_ltI (by omega) (by omega)]
      omega
    · have := (nI_eq (a := p) (b := 0) (by omega) (by omega)).mp e
      omega
    · rw [pk_mul, pk_rem hwb (by omega) (by omega), nI_1]
      exact ih (t + 1) (by omega) (by omega) hQ
theorem x_pow_2 {p g e : Nat} (hpr : pr3 p = true) (hg : rtB p g = true) (he : e ≤ 15) {Q : Option Value → lk_H → Prop} (hQ : ∀ f, (∀ i, i < p - 1 → f i = nI (gW p g e i)) → Q (some (.ref (44 + dyn.length))) (hp x S L m (dyn ++ [.inl (0, (p - 1, .inl f))]))) : ∀ (k j : Nat) (f : Nat → Int32), p - 1 - j = k → j ≤ p - 1 → (∀ i, i < j → f i = nI (gW p g e i)) → lk_wp X (d + 1) 109 35 [.int (nI p), .int (nI g), .retAddr 0, .ref (44 + dyn.length), .int (nI (pw p g (j + e + 1))), .int (nI j)] [] (hp x S L m (dyn ++ [.inl (0, (p - 1, .inl f))])) Q := by
  have h17 := pr3_17 hpr
  have hg2 := rtB_lt hg
  intro k
  induction k with
  | zero =>
    intro j f hk hj hf
    exact F_x_columnsByPowers_35 (al_new (br_t (nI_le (by omega) (by omega)) (hQ f (fun i hi => hf i (by omega)))))
  | succ k ih =>
    intro j f hk hj hf
    have hl := pw_lt (p := p) (g := g) (by omega) (j + e + 1)
    have hpos := pw_pos p (by omega) hpr g hg2.2 hg (j + e + 1) (by omega)
    have hwb : pw p g (j + e + 1) * g < 2 ^ 31 := by
      have : pw p g (j + e + 1) * g ≤ 17 * 17 := Nat.mul_le_mul (by omega) (by omega)
      omega
    refine F_x_columnsByPowers_35 (al_new (br_f (nI_ge (by omega) (by omega)) ?_))
    rw [nI_sub1 hpos (by omega)]
    refine as_new (by omega) (by omega) ⟨fun e => ?_, ?_⟩
    · have := (nI_eq (a := p) (b := 0) (by omega) (by omega)).mp e
      omega
    · rw [pk_mul, pk_rem hwb (by omega) (by omega), nI_1]
      have := ih (j + 1) (upd f j (nI (pw p g (j + e + 1) - 1))) (by omega) (by omega) (fun i hi => by
        by_cases hij : i = j
        · rw [hij, pk_us]
          rfl
        · rw [pk_un hij]
          exact hf i (by omega))
      rw [show j + 1 + e + 1 = (j + e + 1) + 1 by omega] at this
      exact this
theorem S_x_powers {p g e : Nat} (hpr : pr3 p = true) (hg : rtB p g = true) (he : e ≤ 15) : ∃ f, lk_ev X (d + 1) 109 [.int (nI p), .int (nI g), .int (nI e)] (hp x S L m dyn) (some (.ref (44 + dyn.length))) (hp x S L m (dyn ++ [.inl (0, (p - 1, .inl f))])) ∧ ∀ i, i < p - 1 → f i = nI (gW p g e i) := by
  have h17 := pr3_17 hpr
  have hg2 := rtB_lt hg
  have main : lk_wx X (d + 1) 109 [.int (nI p), .int (nI g), .int (nI e)] (hp x S L m dyn) (fun v h' => ∃ f, v = some (.ref (44 + dyn.length)) ∧ h' = hp x S L m (dyn ++ [.inl (0, (p - 1, .inl f))]) ∧ ∀ i, i < p - 1 → f i = nI (gW p g e i)) := by
    refine E_x_columnsByPowers ?_
    rw [nI_sub1 (by omega) (by omega), nw_nI (by omega), hp_app, nI_clamp (by omega), hp_length]
    refine x_pow_1 (d := d) (t := 0) (by omega) h17.2 hg2.2 he (e + 1) rfl (Nat.zero_le _) ?_
    have := x_pow_2 (X := X) (d := d) (x := x) (S := S) (L := L) (m := m) (dyn := dyn) (Q := fun v h' => ∃ f, v = some (.ref (44 + dyn.length)) ∧ h' = hp x S L m (dyn ++ [.inl (0, (p - 1, .inl f))]) ∧ ∀ i, i < p - 1 → f i = nI (gW p g e i)) hpr hg he (fun f hf => ⟨f, rfl, rfl, hf⟩) (p - 1) 0 (fun _ => 0) rfl (Nat.zero_le _) (fun i hi => by omega)
    rw [Nat.zero_add] at this
    exact this
  obtain ⟨v, h', ev, f, rfl, rfl, h2⟩ := main.ex
  exact ⟨f, ev, h2⟩
theorem m_pow_loop {t p g e : Nat} (hpr : pr3 p = true) (hg : rtB p g = true) (he : e ≤ 15) {Q : Option Value → lk_H → Prop} (hQ : ∀ m1, MD m m1 (gW p g e) (p - 1) → m1 5 10 = nI (p - 1) → lk_wxi X (d + 1) 127 [.ref 29, .int (nI t), .int 1] (hp x S L m1 dyn) (fun r h => Q (some (.int r)) h)) : ∀ (u j : Nat) (m1 : Nat → Nat → Int32), p - 1 - j = u → j ≤ p - 1 → MD m m1 (gW p g e) j → m1 5 10 = nI (p - 1) → lk_wp X (d + 2) 134 51 [.ref 29, .int (nI t), .int (nI p), .int (nI g), .int (nI e), .int (nI j)] [] (hp x S L m1 dyn) Q := by
  have h17 := pr3_17 hpr
  have hg2 := rtB_lt hg
  intro u
  induction u with
  | zero =>
    intro j m1 hu hj hM h5
    refine F_m_powers_51 (br_t (by rw [nI_sub1 (by omega) (by omega)]; exact nI_le (by omega) (by omega)) ?_)
    rw [show j = p - 1 by omega] at hM
    rw [hp_v29]
    exact hQ m1 hM h5
  | succ u ih =>
    intro j m1 hu hj hM h5
    have hpos := pw_pos p (by omega) hpr g hg2.2 hg (j + e + 1) (by omega)
    have hl := pw_lt (p := p) (g := g) (by omega) (j + e + 1)
    refine F_m_powers_51 (br_f (by rw [nI_sub1 (by omega) (by omega)]; exact nI_ge (by omega) (by omega)) ?_)
    rw [nI_add, nI_1, (S_m_power h17.1 h17.2 hg2.2 (by omega)).iffi, nI_sub1 hpos (by omega), hp_v29, (S_m_make (show j < 16 by omega)).iffv, nI_1]
    exact ih (j + 1) _ (by omega) (by omega) hM.go (by rw [ms_ne (by decide)]; exact h5)
theorem T_powers (h : Rel x S L m dyn) (a q g e : Int32) : TE X (d + 6) 72 134 [.int a, .int q, .int g, .int e] x S L m dyn := by
  have e0 : (0 : Int32).toInt = 0 := rfl
  have e3 : (3 : Int32).toInt = 3 := rfl
  have e15 : (15 : Int32).toInt = 15 := rfl
  by_cases ha : 0 ≤ a.toInt ∧ a.toInt ≤ 9
  · by_cases hq : ∃ p, q = nI p ∧ pr3 p = true
    · obtain ⟨p, rfl, hpr⟩ := hq
      have hq : ∃ p', nI p = nI p' ∧ pr3 p' = true := ⟨p, rfl, hpr⟩
      have h17 := pr3_17 hpr
      have epp : (nI p).toInt = p := i32_nI (by omega)
      by_cases hg : ∃ q, g = nI q ∧ rtB p q = true
      · by_cases he : 0 ≤ e.toInt ∧ e.toInt ≤ 15
        · obtain ⟨t, rfl, ht1, -⟩ := i32_nat ha.1
          obtain ⟨gg, rfl, hroot⟩ := hg
          have hg : ∃ q, nI gg = nI q ∧ rtB p q = true := ⟨gg, rfl, hroot⟩
          obtain ⟨ee, rfl, he1, -⟩ := i32_nat he.1
          have ht10 : t < 10 := by omega
          have hg2 := rtB_lt hroot
          have hor : OR (p - 1) (gW p gg ee) := orB_or (gW_orB p (by omega) hpr gg hg2.2 hroot ee (by omega)) (by omega) (by omega)
          obtain ⟨f, ev, hf⟩ := S_x_powers (X := X) (d := d + 4) (x := x) (S := S) (L := L) (m := m) (dyn := dyn) (e := ee) hpr hroot (by omega)
          refine TE.made (o := true) (p := t) (n := p - 1) (g := gW p gg ee) (f := f) h ht10 hor hf (E_x_powers ?_) (fun x' S' dyn' => ?_)
          · rw [S_x_isPlace.iffi]
            refine br_f (bI_t ha) ?_
            refine br_f (by rw [i32_lt]; omega) ?_
            rw [(S_x_isPrime (by omega) true ⟨fun _ => hq, fun _ => rfl⟩).iffi]
            refine br_f (by decide) ?_
            rw [(S_x_isRoot (d := d + 3) hpr true ⟨fun _ => hg, fun _ => rfl⟩).iffi]
            refine br_f (by decide) ?_
            refine br_f (by rw [i32_lt]; omega) (br_t (by rw [i32_le]; omega) ?_)
            rw [ev.iffr, (C_tell_o (d := d + 1) hor hf).iffr, hp_v0, (C_shelve (d := d + 3) (o := true) ht10 hor hf).iffi]
            exact ⟨rfl, rfl⟩
          · have main : lk_wx X (d + 6) 134 [.ref 29, .int (nI t), .int (nI p), .int (nI gg), .int (nI ee)] (hp x' S' L m dyn') (fun v h' => ∃ m1 m', v = some (.int (nI (kd true (p - 1) (gW p gg ee)))) ∧ h' = hp x' S' L m' dyn' ∧ SC m m1 ∧ KP m1 m' t (p - 1) (kd true (p - 1) (gW p gg ee)) (gW p gg ee)) := by
              refine E_m_powers ?_
              rw [S_m_isPlace.iffi]
              refine br_f (bI_t ha) ?_
              rw [(S_m_isPrime true ⟨fun _ => hq, fun _ => rfl⟩).iffi]
              refine br_f (by decide) ?_
              rw [(S_m_isRoot (d := d + 3) hpr true ⟨fun _ => hg, fun _ => rfl⟩).iffi]
              refine br_f (by decide) ?_
              rw [S_m_in.iffi, i64_of]
              refine br_n1 (bI_t he) ?_
              rw [hp_f29_5, nI_sub1 (by omega) (by omega), hp_w35]
              refine ⟨vp_in_nI (n := 10) (by omega) (by omega), ?_⟩
              exact m_pow_loop (d := d + 4) (j := 0) hpr hroot (by omega) (fun m2 hM h5 => by
                obtain ⟨m', k1, k2⟩ := M_keep (X := X) (d := d + 1) (x := x') (S := S') (L := L) (dyn := dyn') (o := true) ht10 hM h5 hor
                rw [show (Value.int 1) = Value.int (oI true) from rfl, k1.iffi]
                exact ⟨m2, m', rfl, rfl, hM.1, k2⟩) (p - 1) _ rfl (Nat.zero_le _) ⟨SC.rf.m5, fun i hi => by omega⟩ (by rw [ms_same]; exact pk_us)
            obtain ⟨v, h', ev, m1, m', rfl, rfl, h1, h2⟩ := main.ex
            exact ⟨m1, m', ev, h1, h2⟩
        · refine TE.mk0 (r := -1000001) (E_x_powers ?_) (E_m_powers ?_) h
          · rw [S_x_isPlace.iffi]
            refine br_f (bI_t ha) ?_
            refine br_f (by rw [i32_lt]; omega) ?_
            rw [(S_x_isPrime (by omega) true ⟨fun _ => hq, fun _ => rfl⟩).iffi]
            refine br_f (by decide) ?_
            rw [(S_x_isRoot (d := d + 3) hpr true ⟨fun _ => hg, fun _ => rfl⟩).iffi]
            refine br_f (by decide) ?_
            by_cases hlo : e.toInt < 0
            · exact br_t (by rw [i32_lt]; omega) ⟨rfl, rfl⟩
            · exact br_f (by rw [i32_lt]; omega) (br_f (by rw [i32_le]; omega) ⟨rfl, rfl⟩)
          · rw [S_m_isPlace.iffi]
            refine br_f (bI_t ha) ?_
            rw [(S_m_isPrime true ⟨fun _ => hq, fun _ => rfl⟩).iffi]
            refine br_f (by decide) ?_
            rw [(S_m_isRoot (d := d + 3) hpr true ⟨fun _ => hg, fun _ => rfl⟩).iffi]
            refine br_f (by decide) ?_
            rw [S_m_in.iffi, i64_of]
            exact br_n2 (bI_f he) ⟨rfl, rfl⟩
      · refine TE.mk0 (r := -1000001) (E_x_powers ?_) (E_m_powers ?_) h
        · rw [S_x_isPlace.iffi]
          refine br_f (bI_t ha) ?_
          refine br_f (by rw [i32_lt]; omega) ?_
          rw [(S_x_isPrime (by omega) true ⟨fun _ => hq, fun _ => rfl⟩).iffi]
          refine br_f (by decide) ?_
          rw [(S_x_isRoot (d := d + 3) hpr false ⟨fun w => absurd w (by decide), fun w => absurd w hg⟩).iffi]
          exact br_t rfl ⟨rfl, rfl⟩
        · rw [S_m_isPlace.iffi]
          refine br_f (bI_t ha) ?_
          rw [(S_m_isPrime true ⟨fun _ => hq, fun _ => rfl⟩).iffi]
          refine br_f (by decide) ?_
          rw [(S_m_isRoot (d := d + 3) hpr false ⟨fun w => absurd w (by decide), fun w => absurd w hg⟩).iffi]
          exact br_t rfl ⟨rfl, rfl⟩
    · refine TE.mk0 (r := -1000001) (E_x_powers ?_) (E_m_powers ?_) h
      · rw [S_x_isPlace.iffi]
        refine br_f (bI_t ha) ?_
        by_cases hlo : q.toInt < 3
        · exact br_t (by rw [i32_lt]; omega) ⟨rfl, rfl⟩
        · refine br_f (by rw [i32_lt]; omega) ?_
          rw [(S_x_isPrime (by omega) false ⟨fun w => absurd w (by decide), fun w => absurd w hq⟩).iffi]
          exact br_t rfl ⟨rfl, rfl⟩
      · rw [S_m_isPlace.iffi]
        refine br_f (bI_t ha) ?_
        rw [(S_m_isPrime false ⟨fun w => absurd w (by decide), fun w => absurd w hq⟩).iffi]
        exact br_t rfl ⟨rfl, rfl⟩
  · refine TE.mk0 (r := -1000001) (E_x_powers ?_) (E_m_powers ?_) h
    · rw [S_x_isPlace.iffi]
      exact br_t (bI_f ha) ⟨rfl, rfl⟩
    · rw [S_m_isPlace.iffi]
      exact br_t (bI_f ha) ⟨rfl, rfl⟩
end POWERS
