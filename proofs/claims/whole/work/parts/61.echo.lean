/-! echo: the class's tallies -/
/-- does the pair R, C fit the dots ahead of row K, moved by r and s -/
def ef (K : Nat) (g : Nat → Nat) (R C : Int) (r s : Nat) : Bool := decide (0 ≤ R - r ∧ R - r < K ∧ (g (R - r).toNat : Int) = C - s)
def fitF (N : Nat) (g : Nat → Nat) (R C : Nat → Int32) (n t : Nat) : Nat := cn (fun j => ef N g (R j).toInt (C j).toInt (t / 21) (t % 21)) 0 n
def fb (F : Nat → Nat) : Nat → Nat
  | 0 => 0
  | t + 1 => if F (fb F t) < F t then t else fb F t
theorem fb_lt {F : Nat → Nat} : ∀ t, fb F (t + 1) ≤ t := by
  intro t
  induction t with
  | zero =>
    rw [fb]
    split
    · exact Nat.le_refl _
    · exact Nat.le_refl _
  | succ t ih =>
    rw [fb]
    split
    · exact Nat.le_refl _
    · exact Nat.le_succ_of_le ih
theorem sub21 {v : Int32} {k : Nat} (hk : k ≤ 300) : (0 ≤ (v - nI k).toInt ∧ (v - nI k).toInt < 21) ↔ (0 ≤ v.toInt - k ∧ v.toInt - k < 21) := by
  have h1 := Int32.le_toInt v
  have h2 := Int32.toInt_lt v
  rw [Int32.toInt_sub, i32_nI (by omega)]
  by_cases h : -2147483648 ≤ v.toInt - (k : Int)
  · rw [Int.bmod_eq_of_le (by omega) (by omega)]
  · have e : (v.toInt - (k : Int)).bmod (2 ^ 32) = v.toInt - k + 4294967296 := by
      rw [← Int.add_bmod_right, Int.bmod_eq_of_le (by omega) (by omega)]
      rfl
    rw [e]
    omega
theorem sub21e {v : Int32} {k : Nat} (hk : k ≤ 300) (h : 0 ≤ v.toInt - k ∧ v.toInt - k < 21) : ∃ r : Nat, r < 21 ∧ v - nI k = nI r ∧ v.toInt = r + k := by
  have h1 := Int32.le_toInt v
  have h2 := Int32.toInt_lt v
  refine ⟨(v.toInt - k).toNat, by omega, ?_, by omega⟩
  rw [i32_eq, Int32.toInt_sub, i32_nI (by omega), i32_nI (by omega), Int.bmod_eq_of_le (by omega) (by omega)]
  omega
section ECHO
variable {X : lk_X} {d : Nat} {x : Nat → Nat → Int32} {S L : Nat → Option Nat} {m : Nat → Nat → Int32} {dyn : lk_H}
theorem x_tally_loop {bb N : Nat} {g : Nat → Nat} (hb : ∀ x', ar (hp x' S L m dyn) bb N g) {R C : Int32} {B : Nat → Nat} (hB : ∀ t, B t ≤ 100) {Q : Option Value → lk_H → Prop} : ∀ (k i : Nat) (x : Nat → Nat → Int32), N - i = k → i ≤ N → (∀ r s, r < 21 → s < 21 → x 4 (21 * r + s) = nI (B (21 * r + s) + if ef i g R.toInt C.toInt r s = true then 1 else 0)) → (∀ x', (∀ q, ¬ q = 4 → x' q = x q) → (∀ r s, r < 21 → s < 21 → x' 4 (21 * r + s) = nI (B (21 * r + s) + if ef N g R.toInt C.toInt r s = true then 1 else 0)) → Q none (hp x' S L m dyn)) → lk_wp X (d + 1) 25 3 [.ref 5, .ref bb, .int R, .int C, .int (nI i), .retAddr 0, .retAddr 0] [] (hp x S L m dyn) Q := by
  have hN := (hb (fun _ _ => 0)).1
  have e0 : (0 : Int32).toInt = 0 := rfl
  have e21 : (21 : Int32).toInt = 21 := rfl
  intro k
  induction k with
  | zero =>
    intro i x hk hi hx hQ
    refine F_mv_tallyFits_3 ?_
    rw [(hb x).al]
    refine br_t (nI_le (by omega) (by omega)) (hQ x (fun _ _ => rfl) ?_)
    rw [show N = i by omega]
    exact hx
  | succ k ih =>
    intro i x hk hi hx hQ
    have hiN : i < N := by omega
    have hgi := (hb x).le hiN
    refine F_mv_tallyFits_3 ?_
    rw [(hb x).al]
    refine br_f (nI_ge hiN (by omega)) ?_
    rw [(hb x).ai hiN, nI_1]
    have hR := sub21 (v := R) (k := i) (by omega)
    have hC := sub21 (v := C) (k := g i) (by omega)
    have step : ∀ r s : Nat, ef (i + 1) g R.toInt C.toInt r s = true ↔ ef i g R.toInt C.toInt r s = true ∨ (R.toInt = r + i ∧ C.toInt = s + g i) := by
      intro r s
      unfold ef
      rw [decide_eq_true_iff, decide_eq_true_iff]
      by_cases hq : R.toInt - r = i
      · rw [hq, Int.toNat_natCast]
        omega
      · omega
    have skip : ¬ ((0 ≤ R.toInt - i ∧ R.toInt - i < 21) ∧ (0 ≤ C.toInt - g i ∧ C.toInt - g i < 21)) → lk_wp X (d + 1) 25 3 [.ref 5, .ref bb, .int R, .int C, .int (nI (i + 1)), .retAddr 0, .retAddr 0] [] (hp x S L m dyn) Q := by
      intro hno
      refine ih (i + 1) x (by omega) (by omega) (fun r s hr hs => ?_) hQ
      rw [hx r s hr hs]
      have : ef (i + 1) g R.toInt C.toInt r s = true ↔ ef i g R.toInt C.toInt r s = true := by
        rw [step r s]
        constructor
        · rintro (q | q)
          · exact q
          · omega
        · exact Or.inl
      by_cases q : ef i g R.toInt C.toInt r s = true
      · rw [if_pos q, if_pos (this.mpr q)]
      · rw [if_neg q, if_neg (fun w => q (this.mp w))]
    by_cases hr0 : (R - nI i).toInt < 0
    · exact br_t (by rw [i32_lt]; omega) (skip (by omega))
    · refine br_f (by rw [i32_lt]; omega) ?_
      by_cases hr1 : 21 ≤ (R - nI i).toInt
      · exact br_t (by rw [i32_le]; omega) (skip (by omega))
      · refine br_f (by rw [i32_le]; omega) ?_
        by_cases hc0 : (C - nI (g i)).toInt < 0
        · exact br_t (by rw [i32_lt]; omega) (skip (by omega))
        · refine br_f (by rw [i32_lt]; omega) ?_
          by_cases hc1 : 21 ≤ (C - nI (g i)).toInt
          · exact br_t (by rw [i32_le]; omega) (skip (by omega))
          · refine br_f (by rw [i32_le]; omega) ?_
            obtain ⟨r0, hr0', er0, er1⟩ := sub21e (v := R) (k := i) (by omega) (by omega)
            obtain ⟨s0, hs0', es0, es1⟩ := sub21e (v := C) (k := g i) (by omega) (by omega)
            have ei : nI r0 * 21 + nI s0 = nI (21 * r0 + s0) := by rw [show (21 : Int32) = nI 21 from rfl, pk_mul, nI_add, Nat.mul_comm]
            have hno : ¬ ef i g R.toInt C.toInt r0 s0 = true := by
              unfold ef
              rw [decide_eq_true_iff]
              omega
            rw [er0, es0, ei, hp_f5_1, hp_a7, nI_clamp (by omega), hx r0 s0 hr0' hs0', if_neg hno]
            refine ⟨vp_in_nI (by omega) (by omega), ?_⟩
            rw [hp_w7, nI_clamp (by omega), nI_1]
            refine ⟨vp_in_nI (by omega) (by omega), ih (i + 1) _ (by omega) (by omega) (fun r s hr hs => ?_) (fun x' h1 h2 => hQ x' (fun q hq => by rw [h1 q hq, ms_ne hq]) h2)⟩
            rw [ms_same]
            by_cases hrs : r = r0 ∧ s = s0
            · obtain ⟨rfl, rfl⟩ := hrs
              rw [pk_us, if_pos ((step r s).mpr (Or.inr ⟨er1, es1⟩))]
            · rw [pk_un (by omega), hx r s hr hs]
              have : ef (i + 1) g R.toInt C.toInt r s = true ↔ ef i g R.toInt C.toInt r s = true := by
                rw [step r s]
                constructor
                · rintro (q | q)
                  · exact q
                  · omega
                · exact Or.inl
              by_cases q : ef i g R.toInt C.toInt r s = true
              · rw [if_pos q, if_pos (this.mpr q)]
              · rw [if_neg q, if_neg (fun w => q (this.mp w))]
end ECHO
