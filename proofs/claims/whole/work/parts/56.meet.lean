/-! meetings -/
/-- how many dots meet: rows moved by r, columns by s -/
def Mf (na : Nat) (ga gb : Nat → Nat) (r s : Int) (k : Nat) : Bool := decide (0 ≤ (k : Int) + r ∧ (k : Int) + r < na ∧ (ga ((k : Int) + r).toNat : Int) = gb k + s)
def Mt (na nb : Nat) (ga gb : Nat → Nat) (r s : Int) : Nat := cn (Mf na ga gb r s) 0 nb
section MEET
variable {X : lk_X} {d : Nat} {x : Nat → Nat → Int32} {S L : Nat → Option Nat} {m : Nat → Nat → Int32} {dyn : lk_H}
theorem S_x_orderAt_n {p : Nat} (hp10 : p < 10) (hS : S p = none) : lk_ev X (d + 1) 100 [.ref 0, .int (nI p)] (hp x S L m dyn) (some .null) (hp x S L m dyn) := by
  refine E_x_orderAt ?_
  rw [hp_f0_1]
  exact ra_n rfl hp10 hS ⟨rfl, rfl⟩
theorem S_x_orderAt_s {p a c b n : Nat} {g : Nat → Nat} (hp10 : p < 10) (hS : S p = some a) (ht : tr (hp x S L m dyn) a c b n g) (hc : oc c = true) : lk_ev X (d + 1) 100 [.ref 0, .int (nI p)] (hp x S L m dyn) (some (.ref a)) (hp x S L m dyn) := by
  refine E_x_orderAt ?_
  rw [hp_f0_1]
  refine ra_s hp10 hS (io5 ht true ?_ ?_)
  · rcases ht.2.1 with rfl | rfl | rfl | rfl | rfl <;> first | rfl | exact absurd hc (by decide)
  · rw [if_pos rfl]
    refine ⟨c, _, ht.1, ?_, rfl, rfl⟩
    rcases ht.2.1 with rfl | rfl | rfl | rfl | rfl <;> first | rfl | exact absurd hc (by decide)
theorem S_x_orderAt_k {p a c b n : Nat} {g : Nat → Nat} (hp10 : p < 10) (hS : S p = some a) (ht : tr (hp x S L m dyn) a c b n g) (hc : oc c = false) : lk_ev X (d + 1) 100 [.ref 0, .int (nI p)] (hp x S L m dyn) (some .null) (hp x S L m dyn) := by
  refine E_x_orderAt ?_
  rw [hp_f0_1]
  refine ra_s hp10 hS (io5 ht false ?_ ?_)
  · rcases ht.2.1 with rfl | rfl | rfl | rfl | rfl <;> first | rfl | exact absurd hc (by decide)
  · exact ⟨rfl, rfl⟩
theorem S_x_noOrder_n {p : Nat} (hp10 : p < 10) (hS : S p = none) : lk_ev X (d + 1) 101 [.ref 0, .int (nI p)] (hp x S L m dyn) (some (.int 1)) (hp x S L m dyn) := by
  refine E_x_findingOfNoOrder ?_
  rw [hp_f0_1]
  exact ra_n rfl hp10 hS ⟨rfl, rfl⟩
theorem S_x_noOrder_k {p a : Nat} (hp10 : p < 10) (hS : S p = some a) : lk_ev X (d + 1) 101 [.ref 0, .int (nI p)] (hp x S L m dyn) (some (.int 3)) (hp x S L m dyn) := by
  refine E_x_findingOfNoOrder ?_
  rw [hp_f0_1]
  exact ra_s hp10 hS ⟨rfl, rfl⟩
theorem ok1 {c : Nat} : ok5 c 1 = oc c := rfl
/-- what is found at a place that is to hold an order -/
theorem Rel.ord (h : Rel x S L m dyn) {p : Nat} (hp10 : p < 10) :
    (∃ f : Int32, (f = 1 ∨ f = 3) ∧ (∀ X d, lk_ev X (d + 1) 100 [.ref 0, .int (nI p)] (hp x S L m dyn) (some .null) (hp x S L m dyn)) ∧ (∀ X d, lk_ev X (d + 1) 101 [.ref 0, .int (nI p)] (hp x S L m dyn) (some (.int f)) (hp x S L m dyn)) ∧ ∀ X d x' S' L' dyn' m', m' 4 = m 4 → lk_ev X (d + 2) 136 [.ref 29, .int (nI p), .int 1] (hp x' S' L' m' dyn') (some (.int (-1000010 - f))) (hp x' S' L' (ms m' 14 0 f) dyn')) ∨
    ∃ a c b n g, S p = some (44 + a) ∧ (∀ (x' : Nat → Nat → Int32) (S' L' : Nat → Option Nat) (m' : Nat → Nat → Int32) (l : lk_H), tr (hp x' S' L' m' (dyn ++ l)) (44 + a) c (44 + b) n g) ∧ OR n g ∧ mth m p n g ∧ (∀ X d, lk_ev X (d + 1) 100 [.ref 0, .int (nI p)] (hp x S L m dyn) (some (.ref (44 + a))) (hp x S L m dyn)) ∧ ∀ X d x' S' L' dyn' m', m' 4 = m 4 → lk_ev X (d + 2) 136 [.ref 29, .int (nI p), .int 1] (hp x' S' L' m' dyn') (some (.int 0)) (hp x' S' L' m' dyn') := by
  rcases h.2.2.1.get hp10 with ⟨q1, q2⟩ | ⟨a, c, b, n, g, q1, q2, q3, q4, q5⟩
  · exact Or.inl ⟨1, Or.inl rfl, fun X d => S_x_orderAt_n hp10 q1, fun X d => S_x_noOrder_n hp10 q1, fun X d x' S' L' dyn' m' hm => S_m_refusal0 hp10 (by rw [hm]; exact q2)⟩
  · have hr := q2 x S L m []
    rw [List.append_nil] at hr
    cases hc : oc c with
    | false => exact Or.inl ⟨3, Or.inr rfl, fun X d => S_x_orderAt_k hp10 q1 hr hc, fun X d => S_x_noOrder_k hp10 q1, fun X d x' S' L' dyn' m' hm => S_m_refusal3 (k := 1) hp10 q3.isC (by decide) (by rw [hm]; exact q4) (by rw [ok1, hc]; decide)⟩
    | true => exact Or.inr ⟨a, c, b, n, g, q1, q2, q3.ord hc, q5, fun X d => S_x_orderAt_s hp10 q1 hr hc, fun X d x' S' L' dyn' m' hm => S_m_refusal1 (k := 1) hp10 q3.isC (by decide) (by rw [hm]; exact q4) (by rw [ok1]; exact hc)⟩
theorem meet_fin {na k : Nat} {ga gb : Nat → Nat} {r s : Int32} {K : Nat} (hr : -20 ≤ r.toInt ∧ r.toInt ≤ 20) (hk : k ≤ 16) : (nI k + r).toInt = (k : Int) + r.toInt := by
  rw [Int32.toInt_add, i32_nI (by omega)]
  apply Int.bmod_eq_of_le <;> omega
theorem nI_addI {k : Nat} {r : Int32} (hr : -20 ≤ r.toInt ∧ r.toInt ≤ 20) (hk : k ≤ 300) : (nI k + r).toInt = (k : Int) + r.toInt := by
  rw [Int32.toInt_add, i32_nI (by omega)]
  apply Int.bmod_eq_of_le <;> omega
theorem x_meet_loop {h : lk_H} {ba na bb nb : Nat} {ga gb : Nat → Nat} {r s : Int32} (ha : ar h ba na ga) (hb : ar h bb nb gb) (hr : -20 ≤ r.toInt ∧ r.toInt ≤ 20) (hs : -20 ≤ s.toInt ∧ s.toInt ≤ 20) {Q : Option Value → lk_H → Prop} : ∀ (k i c : Nat), nb - i = k → i ≤ 16 → Q (some (.int (nI (c + cn (Mf na ga gb r.toInt s.toInt) i k)))) h → lk_wp X (d + 1) 20 6 [.ref ba, .ref bb, .int r, .int s, .int (nI c), .int (nI i), .retAddr 0] [] h Q := by
  have hna := ha.1
  have hnb := hb.1
  have e0 : (0 : Int32).toInt = 0 := rfl
  intro k
  induction k with
  | zero =>
    intro i c hk hi hQ
    refine F_mv_meetingDots_6 ?_
    rw [hb.al]
    exact br_t (nI_le (by omega) (by omega)) hQ
  | succ k ih =>
    intro i c hk hi hQ
    refine F_mv_meetingDots_6 ?_
    have ei : (nI i + r).toInt = (i : Int) + r.toInt := nI_addI hr (by omega)
    rw [hb.al]
    refine br_f (nI_ge (by omega) (by omega)) ?_
    rw [nI_1, nI_1]
    by_cases h1 : (i : Int) + r.toInt < 0
    · refine br_t (by rw [i32_lt]; omega) (ih (i + 1) c (by omega) (by omega) ?_)
      rw [cn_f (by unfold Mf; rw [decide_eq_true_iff]; omega)] at hQ
      exact hQ
    · refine br_f (by rw [i32_lt]; omega) ?_
      rw [ha.al]
      by_cases h2 : (na : Int) ≤ (i : Int) + r.toInt
      · refine br_t (by rw [i32_le, i32_nI (by omega)]; omega) (ih (i + 1) c (by omega) (by omega) ?_)
        rw [cn_f (by unfold Mf; rw [decide_eq_true_iff]; omega)] at hQ
        exact hQ
      · refine br_f (by rw [i32_le, i32_nI (by omega)]; omega) ?_
        obtain ⟨j, hj⟩ : ∃ j : Nat, (j : Int) = (i : Int) + r.toInt := ⟨((i : Int) + r.toInt).toNat, by omega⟩
        have ej : nI i + r = nI j := by rw [i32_eq, ei, i32_nI (by omega), hj]
        have hjn : j < na := by omega
        rw [ej, ha.ai hjn, hb.ai (show i < nb by omega)]
        have l1 := ha.le hjn
        have l2 := hb.le (show i < nb by omega)
        have es : (nI (gb i) + s).toInt = (gb i : Int) + s.toInt := nI_addI hs (by omega)
        have ef : Mf na ga gb r.toInt s.toInt i = true ↔ nI (ga j) = nI (gb i) + s := by
          unfold Mf
          rw [decide_eq_true_iff, i32_eq, es, i32_nI (by omega), ← hj, Int.toNat_natCast]
          omega
        rw [← ef]
        refine ⟨fun q => ih (i + 1) c (by omega) (by omega) ?_, fun q => ih (i + 1) (c + 1) (by omega) (by omega) ?_⟩
        · rw [cn_f q] at hQ; exact hQ
        · rw [cn_t q] at hQ; exact hQ
theorem S_mv_meetingDots {h : lk_H} {ba na bb nb : Nat} {ga gb : Nat → Nat} {r s : Int32} (ha : ar h ba na ga) (hb : ar h bb nb gb) (hr : -20 ≤ r.toInt ∧ r.toInt ≤ 20) (hs : -20 ≤ s.toInt ∧ s.toInt ≤ 20) : lk_ev X (d + 1) 20 [.ref ba, .ref bb, .int r, .int s] h (some (.int (nI (Mt na nb ga gb r.toInt s.toInt)))) h := by
  refine E_mv_meetingDots ?_
  refine x_meet_loop ha hb hr hs nb 0 0 rfl (by omega) ⟨?_, rfl⟩
  rw [Nat.zero_add]
  rfl
theorem m_meet_loop {a na b nb : Nat} {ga gb : Nat → Nat} {r s : Int32} (ha : mth m a na ga) (hb : mth m b nb gb) (hr : -20 ≤ r.toInt ∧ r.toInt ≤ 20) (hs : -20 ≤ s.toInt ∧ s.toInt ≤ 20) {Q : Option Value → lk_H → Prop} : ∀ (k i c : Nat), nb - i = k → i ≤ 16 → Q (some (.int (nI (c + cn (Mf na ga gb r.toInt s.toInt) i k)))) (hp x S L m dyn) → lk_wp X (d + 2) 157 6 [.ref 29, .int (nI a), .int (nI b), .int r, .int s, .int (nI c), .int (nI i)] [] (hp x S L m dyn) Q := by
  have hna := ha.2.1
  have hnb := hb.2.1
  have ha10 := ha.1
  have hb10 := hb.1
  have e00 : (0 : Int64).toInt = 0 := rfl
  intro k
  induction k with
  | zero =>
    intro i c hk hi hQ
    refine F_m_meet_6 ?_
    rw [hp_f29_5, hp_a35, nI_clamp (by omega), hb.2.2.1]
    exact ⟨vp_in_nI (by omega) (by omega), br_t (nI_le (by omega) (by omega)) hQ⟩
  | succ k ih =>
    intro i c hk hi hQ
    refine F_m_meet_6 ?_
    have ei : (nI i + r).toInt = (i : Int) + r.toInt := nI_addI hr (by omega)
    have en : (nI na - 1).toInt = (na : Int) - 1 := pk_sub_toInt (a := na) (b := 1) (by omega) (by omega)
    rw [hp_f29_5, hp_a35, nI_clamp (by omega), hb.2.2.1]
    refine ⟨vp_in_nI (by omega) (by omega), br_f (nI_ge (by omega) (by omega)) ?_⟩
    rw [hp_f29_5, hp_a35, nI_clamp (by omega), ha.2.2.1]
    refine ⟨vp_in_nI (by omega) (by omega), ?_⟩
    rw [S_m_in.iffi, i64_of, i64_of, en, ei, nI_1, nI_1, show nI c + 0 = nI c from nI_add c 0]
    by_cases h1 : (0 : Int64).toInt ≤ (i : Int) + r.toInt ∧ (i : Int) + r.toInt ≤ (na : Int) - 1
    · refine br_f (bI_t h1) ?_
      obtain ⟨j, hj⟩ : ∃ j : Nat, (j : Int) = (i : Int) + r.toInt := ⟨((i : Int) + r.toInt).toNat, by omega⟩
      have ej : nI i + r = nI j := by rw [i32_eq, ei, i32_nI (by omega), hj]
      have hjn : j < na := by omega
      rw [ej, hp_v29, (S_m_at1 ha hjn).iffi, hp_v29, (S_m_at1 hb (show i < nb by omega)).iffi]
      have l1 := (ha.2.2.2 j hjn).2
      have l2 := (hb.2.2.2 i (by omega)).2
      have es : (nI (gb i) + s).toInt = (gb i : Int) + s.toInt := nI_addI hs (by omega)
      have ef : Mf na ga gb r.toInt s.toInt i = true ↔ nI (ga j) = nI (gb i) + s := by
        unfold Mf
        rw [decide_eq_true_iff, i32_eq, es, i32_nI (by omega), ← hj, Int.toNat_natCast]
        omega
      rw [← ef]
      refine ⟨fun q => ih (i + 1) c (by omega) (by omega) ?_, fun q => ih (i + 1) (c + 1) (by omega) (by omega) ?_⟩
      · rw [cn_f q] at hQ; exact hQ
      · rw [cn_t q] at hQ; exact hQ
    · refine br_t (bI_f h1) (ih (i + 1) c (by omega) (by omega) ?_)
      rw [cn_f (by unfold Mf; rw [decide_eq_true_iff]; omega)] at hQ
      exact hQ
theorem S_m_meet {a na b nb : Nat} {ga gb : Nat → Nat} {r s : Int32} (ha : mth m a na ga) (hb : mth m b nb gb) (hr : -20 ≤ r.toInt ∧ r.toInt ≤ 20) (hs : -20 ≤ s.toInt ∧ s.toInt ≤ 20) : lk_ev X (d + 2) 157 [.ref 29, .int (nI a), .int (nI b), .int r, .int s] (hp x S L m dyn) (some (.int (nI (Mt na nb ga gb r.toInt s.toInt)))) (hp x S L m dyn) := by
  refine E_m_meet ?_
  refine m_meet_loop ha hb hr hs nb 0 0 rfl (by omega) ⟨?_, rfl⟩
  rw [Nat.zero_add]
  rfl
end MEET
