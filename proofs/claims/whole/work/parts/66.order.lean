/-! order -/
theorem i32_or (a b : Nat) : nI a ||| nI b = nI (a ||| b) := by
  apply Int32.toBitVec_inj.mp
  rw [Int32.toBitVec_or]
  exact BitVec.ofNat_or.symm
theorem sh31 : ∀ c : Nat, c < 32 → ((nI c &&& 31).toBitVec.smod 32).toNat = c := by decide
theorem bit_at {s c : Nat} (hs : s < 65536) (hc : c < 16) : (nI s >>> (nI c &&& 31)) &&& 1 = nI (s / 2 ^ c % 2) := by
  rw [pk_shrN (by omega) _ c (sh31 c (by omega)), pk_andN (Nat.lt_of_le_of_lt (Nat.div_le_self _ _) (by omega)) 1 rfl]
theorem bit_or {s c : Nat} (hc : c < 16) : nI s ||| (1 <<< (nI c &&& 31)) = nI (s ||| 2 ^ c) := by
  have h1 : 2 ^ c < 2 ^ 16 := Nat.pow_lt_pow_right (by decide) hc
  rw [show (1 : Int32) = nI 1 from rfl, pk_shlN _ c (sh31 c (by omega)) (by omega), i32_or, Nat.one_mul]
/-- each number once, so far -/
def okc (V : Nat → Int32) (n j : Nat) : Prop := ∀ i, i < j → (0 ≤ (V i).toInt ∧ (V i).toInt < n) ∧ ∀ i', i' < i → ¬ V i' = V i
theorem okc.le {V : Nat → Int32} {n j k : Nat} (h : okc V n j) (hk : k ≤ j) : okc V n k := fun i hi => h i (by omega)
theorem okc.go {V : Nat → Int32} {n j : Nat} (h : okc V n j) (h1 : 0 ≤ (V j).toInt ∧ (V j).toInt < n) (h2 : ∀ i, i < j → ¬ V i = V j) : okc V n (j + 1) := by
  intro i hi
  by_cases hj : i = j
  · subst hj
    exact ⟨h1, h2⟩
  · exact h i (by omega)
def cV (V : Nat → Int32) : Nat → Nat := fun i => (V i).toNatClampNeg
theorem cV_eq {V : Nat → Int32} {n j i : Nat} (h : okc V n j) (hi : i < j) : V i = nI (cV V i) ∧ cV V i < n := by
  obtain ⟨c, h1, h2, h3⟩ := i32_nat (h i hi).1.1
  have h4 := (h i hi).1.2
  have e : cV V i = c := by
    unfold cV
    rw [h1, nI_clamp h3]
  rw [e]
  exact ⟨h1, by omega⟩
theorem okc.or {V : Nat → Int32} {n : Nat} (h : okc V n n) (h1 : 1 ≤ n) (h2 : n ≤ 16) : OR n (cV V) := by
  refine ⟨h1, h2, fun i hi => (cV_eq h hi).2, fun i j hi hj e => ?_⟩
  have e1 := (cV_eq h hi).1
  have e2 := (cV_eq h hj).1
  rw [← e] at e2
  rcases Nat.lt_trichotomy i j with q | q | q
  · exact absurd (e1.trans e2.symm) ((h j hj).2 i q)
  · exact q
  · exact absurd (e2.trans e1.symm) ((h i hi).2 j q)
theorem nw_nI {n : Nat} {K : Prop} (h : n ≤ 1000) : lk_nw (nI n) K ↔ K := by
  refine ⟨fun q => q.2, fun q => ⟨?_, q⟩⟩
  rw [i32_lt, i32_nI (by omega), nI_clamp (by omega), show (0 : Int32).toInt = 0 from rfl]
  omega
theorem nI_sub {a b : Nat} (h : b ≤ a) (ha : a < 2 ^ 29) : nI a - nI b = nI (a - b) := by
  rw [i32_eq, pk_sub_toInt (by omega) (by omega), i32_nI (by omega)]
  omega
theorem nI_sub1 {a : Nat} (h : 1 ≤ a) (ha : a < 2 ^ 29) : nI a - 1 = nI (a - 1) := nI_sub h ha
section ORDER
variable {X : lk_X} {d : Nat} {x : Nat → Nat → Int32} {S L : Nat → Option Nat} {m : Nat → Nat → Int32} {dyn : lk_H}
theorem S_ja_range {k i n : Nat} (hk : k < 8) (hi : i + n ≤ 60) : lk_ev X (d + 2) 173 [.ref (14 + 2 * k), .int (nI i), .int (nI (i + n))] (hp x S L m dyn) (some (.ref (44 + dyn.length))) (hp x S L m (dyn ++ [.inl (0, (n, .inl (va_cpy (x (10 + k)) (fun _ => 0) i 0 n)))])) := by
  have h1 : ∀ h : lk_H, lk_ev X (d + 1) 171 [.int (nI i), .int (nI (i + n))] h none h := fun h => E_ja_checkLength (br_t (nI_le (by omega) (by omega)) ⟨rfl, rfl⟩)
  have c1 : (nI i).toNatClampNeg = i := nI_clamp (by omega)
  have c3 : (nI n).toNatClampNeg = n := nI_clamp (by omega)
  have z : ∀ k : Nat, k ≤ 60 → ¬ nI k < 0 := fun k hk => by
    rw [i32_lt, i32_nI (by omega), show (0 : Int32).toInt = 0 from rfl]
    omega
  refine E_ja_copyOfRangeInt ?_
  rw [(h1 _).iffv, nI_sub (by omega) (by omega), show i + n - i = n by omega, nw_nI (by omega), hp_app, hp_sl hk, show (60 : Int32) = nI 60 from rfl, nI_sub (by omega) (by omega), hp_length, c3]
  have e : (if nI n < nI (60 - i) then nI n else nI (60 - i)) = nI n := by
    split
    · rfl
    · rename_i q
      rw [nI_ltI (by omega) (by omega)] at q
      rw [show 60 - i = n by omega]
  rw [e]
  refine ⟨60, x (10 + k), n, fun _ => 0, hp_si hk, by rw [hp_dyn, List.getElem?_append_right (Nat.le_refl _), Nat.sub_self]; rfl, ?_, rfl, ?_⟩
  · rw [c1, c3]
    have z1 := z i (by omega)
    have z2 := z n (by omega)
    have z3 := z 0 (by omega)
    have z4 : (0 : Int32).toNatClampNeg = 0 := rfl
    rintro (q | q | q | q | q)
    · exact z1 q
    · exact z3 q
    · exact z2 q
    · omega
    · omega
  · rw [c1, c3, hp_dynset, List.set_append_right _ _ (Nat.le_refl _), Nat.sub_self]
    rfl
theorem S_s_read {k i n : Nat} (hk : k < 8) (hi : i + n ≤ 60) (hn : n ≤ 59) : lk_ev X (d + 4) 54 [.ref (13 + 2 * k), .int (nI i), .int (nI n)] (hp x S L m dyn) (some (.ref (44 + dyn.length))) (hp x S L m (dyn ++ [.inl (0, (n, .inl (va_cpy (x (10 + k)) (fun _ => 0) i 0 n)))])) := by
  refine E_s_read ?_
  have h1 : lk_ev X (d + 3) 172 [.ref (14 + 2 * k), .int (nI i), .int (nI (i + n))] (hp x S L m dyn) (some (.ref (44 + dyn.length))) (hp x S L m (dyn ++ [.inl (0, (n, .inl (va_cpy (x (10 + k)) (fun _ => 0) i 0 n)))])) := by
    refine E_ja_copyOfRange ⟨fun _ => ?_, fun q => ?_⟩
    · rw [(S_ja_range hk hi).iffr]
      exact ⟨rfl, rfl⟩
    · rw [hp_sl hk]
      have hi0 : i = 0 := (nI_eq (a := i) (b := 0) (by omega) (by omega)).mp q
      refine br_f (fun w => ?_) ?_
      · have := (nI_eq (a := i + n) (b := 60) (by omega) (by omega)).mp w
        omega
      · rw [(S_ja_range hk hi).iffr]
        exact ⟨rfl, rfl⟩
  rw [hp_sfR hk, nI_add, h1.iffr]
  exact ⟨rfl, rfl⟩
theorem x_each_loop {h : lk_H} {b n : Nat} {V : Nat → Int32} (hn : n ≤ 16) (hb : h[b]? = some (.inl (0, (n, .inl V)))) {Q : Option Value → lk_H → Prop} (hQ1 : okc V n n → Q (some (.int 1)) h) (hQ0 : ¬ okc V n n → Q (some (.int 0)) h) : ∀ (k j s : Nat), n - j = k → j ≤ n → okc V n j → s < 65536 → (∀ c, c < 16 → (s.testBit c = true ↔ ∃ i, i < j ∧ V i = nI c)) → lk_wp X (d + 1) 29 10 [.ref b, .int (nI s), .ref b, .int (nI n), .int (nI j), .retAddr 0] [] h Q := by
  intro k
  induction k with
  | zero =>
    intro j s hk hj hok hs hbit
    refine F_o_hasEachColumnOnce_10 (br_t (nI_le (by omega) (by omega)) (hQ1 ?_))
    rw [show j = n by omega] at hok
    exact hok
  | succ k ih =>
    intro j s hk hj hok hs hbit
    have hjn : j < n := by omega
    have e0 : (0 : Int32).toInt = 0 := rfl
    refine F_o_hasEachColumnOnce_10 (br_f (nI_ge hjn (by omega)) ⟨n, V, hb, vp_in_nI hjn (by omega), ?_⟩)
    rw [nI_clamp (by omega)]
    by_cases h1 : (V j).toInt < 0
    · exact br_t (by rw [i32_lt]; omega) (hQ0 fun w => by have := (w j hjn).1; omega)
    · refine br_f (by rw [i32_lt]; omega) ⟨0, _, hb, by decide, ?_⟩
      have en : (Int32.ofNat n).toInt = n := i32_nI (by omega)
      by_cases h2 : (n : Int) ≤ (V j).toInt
      · refine br_t ?_ (hQ0 fun w => by have := (w j hjn).1; omega)
        rw [i32_le]
        show (Int32.ofNat n).toInt ≤ _
        omega
      · refine br_f ?_ ?_
        · rw [i32_le]
          show ¬ (Int32.ofNat n).toInt ≤ _
          omega
        · obtain ⟨c, hc1, hc2, hc3⟩ := i32_nat (v := V j) (by omega)
          have hc : c < 16 := by omega
          rw [hc1, bit_at hs hc, bit_or hc, nI_1]
          have hb2 := hbit c hc
          rw [Nat.testBit_eq_decide_div_mod_eq, decide_eq_true_iff] at hb2
          by_cases h3 : s / 2 ^ c % 2 = 1
          · refine br_f ?_ (hQ0 fun w => ?_)
            · rw [h3]
              decide
            · obtain ⟨i, hi1, hi2⟩ := hb2.mp h3
              exact (w j hjn).2 i hi1 (hi2.trans hc1.symm)
          · have h4 : s / 2 ^ c % 2 = 0 := by omega
            refine br_t (by rw [h4]; rfl) (ih (j + 1) _ (by omega) (by omega) (hok.go (by omega) (fun i hi w => h3 (hb2.mpr ⟨i, hi, w.trans hc1⟩))) ?_ (fun c' hc' => ?_))
            · exact Nat.or_lt_two_pow (n := 16) hs (Nat.pow_lt_pow_right (by decide) hc)
            · rw [Nat.testBit_or, Nat.testBit_two_pow, Bool.or_eq_true, hbit c' hc', decide_eq_true_iff]
              constructor
              · rintro (⟨i, hi1, hi2⟩ | rfl)
                · exact ⟨i, by omega, hi2⟩
                · exact ⟨j, by omega, hc1⟩
              · rintro ⟨i, hi1, hi2⟩
                by_cases hij : i = j
                · right
                  rw [hij, hc1] at hi2
                  exact (nI_eq (by omega) (by omega)).mp hi2
                · exact Or.inl ⟨i, by omega, hi2⟩
theorem S_o_each {h : lk_H} {b n : Nat} {V : Nat → Int32} (hn : n ≤ 16) (hb : h[b]? = some (.inl (0, (n, .inl V)))) (v : Bool) (hv : v = true ↔ okc V n n) : lk_ev X (d + 1) 29 [.ref b] h (some (.int (oI v))) h := by
  refine E_o_hasEachColumnOnce ⟨0, _, hb, by decide, ?_⟩
  refine x_each_loop hn hb (fun w => ?_) (fun w => ?_) n 0 0 rfl (Nat.zero_le _) (fun i hi => by omega) (by decide) (fun c hc => ?_)
  · rw [hv.mpr w]
    exact ⟨rfl, rfl⟩
  · have : v = false := by
      cases v with
      | false => rfl
      | true => exact absurd (hv.mp rfl) w
    rw [this]
    exact ⟨rfl, rfl⟩
  · rw [Nat.zero_testBit]
    exact ⟨fun w => absurd w (by decide), fun ⟨i, hi, _⟩ => by omega⟩
theorem m_order_clr {p s i n : Int32} {Q : Option Value → lk_H → Prop} (hQ : ∀ m1, SC m m1 → (∀ q, q < 16 → m1 9 q = 0) → lk_wp X (d + 1) 129 99 [.ref 29, .int p, .int s, .int i, .int n, .int 0, .retAddr 0] [] (hp x S L m1 dyn) Q) : ∀ (k j : Nat) (m1 : Nat → Nat → Int32), 16 - j = k → j ≤ 16 → SC m m1 → (∀ q, q < j → m1 9 q = 0) → lk_wp X (d + 1) 129 75 [.ref 29, .int p, .int s, .int i, .int n, .int (nI j), .retAddr 0] [] (hp x S L m1 dyn) Q := by
  intro k
  induction k with
  | zero =>
    intro j m1 hk hj hs hz
    exact F_m_order_75 (br_t (nI_le (a := 16) (by omega) (by omega)) (hQ m1 hs (fun q hq => hz q (by omega))))
  | succ k ih =>
    intro j m1 hk hj hs hz
    refine F_m_order_75 (br_f (nI_ge (b := 16) (by omega) (by omega)) ?_)
    rw [hp_f29_11, hp_w39, nI_clamp (by omega), nI_1]
    refine ⟨vp_in_nI (by omega) (by omega), ih (j + 1) _ (by omega) (by omega) hs.m9 (fun q hq => ?_)⟩
    rw [ms_same]
    by_cases hqj : q = j
    · subst hqj
      rw [pk_us]
      rfl
    · rw [pk_un hqj]
      exact hz q (by omega)
theorem m_order_loop {p k i n : Nat} {V : Nat → Int32} (hk : k < 8) (hi : i + n ≤ 60) (hn1 : 1 ≤ n) (hn : n ≤ 16) (hV : ∀ j, j < n → V j = m 2 (60 * k + i + j)) {Q : Option Value → lk_H → Prop} (hQ1 : ∀ m1, okc V n n → MD m m1 (cV V) n → m1 5 10 = nI n → lk_wxi X (d + 1) 127 [.ref 29, .int (nI p), .int 1] (hp x S L m1 dyn) (fun r h => Q (some (.int r)) h)) (hQ0 : ∀ m1, ¬ okc V n n → SC m m1 → Q (some (.int (-1000001))) (hp x S L m1 dyn)) : ∀ (u j : Nat) (m1 : Nat → Nat → Int32), n - j = u → j ≤ n → okc V n j → MD m m1 (cV V) j → (∀ c, c < 16 → (m1 9 c = 0 ↔ ∀ i, i < j → ¬ V i = nI c)) → lk_wp X (d + 2) 129 99 [.ref 29, .int (nI p), .int (nI k), .int (nI i), .int (nI n), .int (nI j), .retAddr 0] [] (hp x S L m1 dyn) Q := by
  intro u
  induction u with
  | zero =>
    intro j m1 hu hj hok hM hb
    refine F_m_order_99 (br_t (nI_le (by omega) (by omega)) ?_)
    rw [hp_f29_5, hp_w35]
    refine ⟨vp_in_nI (n := 10) (by omega) (by omega), ?_⟩
    rw [show j = n by omega] at hok hM
    rw [hp_v29]
    refine hQ1 _ hok hM.m5 ?_
    rw [ms_same]
    exact pk_us
  | succ u ih =>
    intro j m1 hu hj hok hM hb
    have hjn : j < n := by omega
    have e1 : 60 * nI k + nI i + nI j = nI (60 * k + i + j) := by rw [show (60 : Int32) = nI 60 from rfl, pk_mul, nI_add, nI_add]
    have e2 : m1 2 (60 * k + i + j) = V j := by rw [hV j hjn, hM.1.2.2 2 (by decide) (by decide) (by decide) (by decide) (by decide)]
    refine F_m_order_99 (br_f (nI_ge hjn (by omega)) ?_)
    rw [hp_f29_2, hp_a32, e1, nI_clamp (by omega), e2]
    refine ⟨vp_in_nI (by omega) (by omega), ?_⟩
    have e00 : (0 : Int64).toInt = 0 := rfl
    rw [S_m_in.iffi, i64_of, i64_of, nI_sub1 hn1 (by omega), i32_nI (by omega)]
    by_cases h1 : (0 : Int64).toInt ≤ (V j).toInt ∧ (V j).toInt ≤ ((n - 1 : Nat) : Int)
    · refine br_f (bI_t h1) ?_
      obtain ⟨c, hc1, hc2, hc3⟩ := i32_nat (v := V j) (by omega)
      have hc : c < 16 := by omega
      rw [hp_f29_11, hp_a39, hc1, nI_clamp (by omega)]
      refine ⟨vp_in_nI hc (by omega), ?_⟩
      rw [hb c hc]
      by_cases h2 : ∀ i, i < j → ¬ V i = nI c
      · refine br_t h2 ?_
        rw [hp_f29_11, hp_w39, nI_clamp (by omega)]
        refine ⟨vp_in_nI hc (by omega), ?_⟩
        rw [hp_v29, (S_m_make (show j < 16 by omega)).iffv, nI_1]
        have hok' : okc V n (j + 1) := hok.go (by omega) (fun i hi w => h2 i hi (w.trans hc1))
        have hcj : cV V j = c := by
          unfold cV
          rw [hc1, nI_clamp (by omega)]
        have hM2 := (hM.m9 (q := c) (v := vp_nar .boolean 1)).go
        rw [hcj] at hM2
        refine ih (j + 1) _ (by omega) (by omega) hok' hM2 (fun c' hc' => ?_)
        rw [ms_ne (by decide), ms_same]
        by_cases hcc : c' = c
        · subst hcc
          rw [pk_us]
          refine ⟨fun w => absurd w (by decide), fun w => absurd hc1 (w j (by omega))⟩
        · rw [pk_un hcc, hb c' hc']
          constructor
          · intro w i hi
            by_cases hij : i = j
            · rw [hij, hc1]
              exact fun w2 => hcc ((nI_eq (by omega) (by omega)).mp w2).symm
            · exact w i (by omega)
          · exact fun w i hi => w i (by omega)
      · refine br_f h2 (hQ0 m1 (fun w => h2 fun i hi w2 => (w j hjn).2 i hi (w2.trans hc1.symm)) hM.1)
    · refine br_t (bI_f h1) (hQ0 m1 (fun w => ?_) hM.1)
      have := (w j hjn).1
      omega
theorem T_order (h : Rel x S L m dyn) (a s i n : Int32) : TE X (d + 6) 70 129 [.int a, .int s, .int i, .int n] x S L m dyn := by
  have e0 : (0 : Int32).toInt = 0 := rfl
  have e1 : (1 : Int32).toInt = 1 := rfl
  have e16 : (16 : Int32).toInt = 16 := rfl
  by_cases ha : 0 ≤ a.toInt ∧ a.toInt ≤ 9
  · by_cases hs : 0 ≤ s.toInt ∧ s.toInt ≤ 7
    · by_cases hn : 1 ≤ n.toInt ∧ n.toInt ≤ 16
      · obtain ⟨p, rfl, hp1, -⟩ := i32_nat ha.1
        obtain ⟨k, rfl, hk1, -⟩ := i32_nat hs.1
        obtain ⟨nn, rfl, hn1, -⟩ := i32_nat (v := n) (by omega)
        have hp10 : p < 10 := by omega
        have hk8 : k < 8 := by omega
        have e2t : (nI nn).toInt = (nn : Int) := i32_nI (by omega)
        rcases h.1 k hk8 with ⟨q1, q2⟩ | ⟨q1, la, sz, l1, l2, l3, l4, l5, l6, l7⟩
        · refine TE.mk0 (r := -1000010 - 1) (E_x_order ?_) (E_m_order ?_) (h.st 1)
          · rw [S_x_isPlace.iffi]
            refine br_f (bI_t ha) ?_
            rw [S_x_isSheet.iffi]
            refine br_f (bI_t hs) ?_
            refine br_f (by rw [i32_lt]; omega) (br_t (by rw [i32_le]; omega) ?_)
            rw [hp_v0, (S_x_items0 (d := d + 3) hk8 q1).iffi]
            refine br_f (by decide) ?_
            rw [hp_v0, S_x_found.iffi]
            exact ⟨rfl, rfl⟩
          · rw [S_m_isPlace.iffi]
            refine br_f (bI_t ha) ?_
            rw [S_m_isSheet.iffi]
            refine br_f (bI_t hs) ?_
            rw [S_m_in.iffi, i64_of]
            refine br_n1 (bI_t hn) ?_
            rw [hp_f29_0, hp_a30, nI_clamp (by omega), q2]
            refine ⟨vp_in_nI hk8 (by omega), br_n2 rfl ?_⟩
            rw [hp_v29, S_m_finds.iffi]
            exact ⟨rfl, rfl⟩
        · have hl0 : ¬ nI (la + 1) = 0 := fun w => by
            have := (nI_eq (a := la + 1) (b := 0) (by omega) (by omega)).mp w
            omega
          by_cases hi : 0 ≤ i.toInt ∧ i.toInt + (nn : Int) ≤ sz
          · obtain ⟨ii, rfl, hi1, -⟩ := i32_nat hi.1
            have hi60 : ii + nn ≤ 60 := by omega
            have hV : ∀ j, j < nn → va_cpy (x (10 + k)) (fun _ => 0) ii 0 nn j = m 2 (60 * k + ii + j) := by
              intro j hj
              unfold va_cpy
              rw [if_pos (by omega), Nat.sub_zero, l7 (ii + j) (by omega), Nat.add_assoc]
            generalize hVV : va_cpy (x (10 + k)) (fun _ => 0) ii 0 nn = V at hV
            have rd : lk_ev X (d + 1 + 4) 54 [.ref (13 + 2 * k), .int (nI ii), .int (nI nn)] (hp x S L m dyn) (some (.ref (44 + dyn.length))) (hp x S L m (dyn ++ [.inl (0, (nn, .inl V))])) := by
              have := S_s_read (X := X) (d := d + 1) (x := x) (S := S) (L := L) (m := m) (dyn := dyn) (k := k) (i := ii) (n := nn) hk8 hi60 (by omega)
              rw [hVV] at this
              exact this
            have hat : (hp x S L m (dyn ++ [.inl (0, (nn, .inl V))]))[44 + dyn.length]? = some (.inl (0, (nn, .inl V))) := by
              rw [hp_dyn, List.getElem?_append_right (Nat.le_refl _), Nat.sub_self]
              rfl
            by_cases hok : okc V nn nn
            · have hor : OR nn (cV V) := hok.or (by omega) (by omega)
              refine TE.made (o := true) (p := p) (n := nn) (g := cV V) (f := V) h hp10 hor (fun i hi => (cV_eq hok hi).1) (E_x_order ?_) (fun x' S' dyn' => ?_)
              · rw [S_x_isPlace.iffi]
                refine br_f (bI_t ha) ?_
                rw [S_x_isSheet.iffi]
                refine br_f (bI_t hs) ?_
                refine br_f (by rw [i32_lt]; omega) (br_t (by rw [i32_le]; omega) ?_)
                rw [hp_v0, (S_x_items (d := d + 3) hk8 l2 q1 l5).iffi, e2t, if_pos ⟨hi.1, by omega, hi.2⟩]
                refine br_t rfl ?_
                rw [hp_f0_0, hp_ra1, nI_clamp (by omega)]
                refine ⟨vp_in_nI hk8 (by omega), ?_⟩
                rw [hp_sv hk8, rd.iffr]
                rw [(S_o_each (by omega) hat true ⟨fun _ => hok, fun _ => rfl⟩).iffi]
                refine br_f (by decide) ?_
                rw [(C_tell_o (d := d + 1) hor (fun i hi => (cV_eq hok hi).1)).iffr, hp_v0, (C_shelve (d := d + 3) (o := true) hp10 hor (fun i hi => (cV_eq hok hi).1)).iffi]
                exact ⟨rfl, rfl⟩
              · have main : lk_wx X (d + 6) 129 [.ref 29, .int (nI p), .int (nI k), .int (nI ii), .int (nI nn)] (hp x' S' L m dyn') (fun v h' => ∃ m1 m', v = some (.int (nI (kd true nn (cV V)))) ∧ h' = hp x' S' L m' dyn' ∧ SC m m1 ∧ KP m1 m' p nn (kd true nn (cV V)) (cV V)) := by
                  refine E_m_order ?_
                  rw [S_m_isPlace.iffi]
                  refine br_f (bI_t ha) ?_
                  rw [S_m_isSheet.iffi]
                  refine br_f (bI_t hs) ?_
                  rw [S_m_in.iffi, i64_of]
                  refine br_n1 (bI_t hn) ?_
                  rw [hp_f29_0, hp_a30, nI_clamp (by omega), l4]
                  refine ⟨vp_in_nI hk8 (by omega), br_n1 hl0 (br_f (by rw [i32_lt]; omega) ?_)⟩
                  rw [hp_f29_1, hp_a31, nI_clamp (by omega), l6]
                  refine ⟨vp_in_nI hk8 (by omega), br_t ?_ ?_⟩
                  · rw [lg_cmp_le, Int64.le_iff_toInt_le, i64_add, i64_of, i32_nI (n := sz) (by omega), i32_nI (n := nn) (by omega)]
                    omega
                  · refine m_order_clr (fun m1 hs1 hz => ?_) 16 0 m rfl (by omega) SC.rf (fun q hq => by omega)
                    refine m_order_loop (d := d + 4) (j := 0) (V := V) hk8 hi60 (by omega) (by omega) hV (fun m2 hok2 hM h5 => ?_) (fun m2 hno _ => absurd hok hno) nn m1 rfl (Nat.zero_le _) (fun i hi => by omega) ⟨hs1, fun i hi => by omega⟩ (fun c hc => ⟨fun _ i hi => by omega, fun _ => hz c hc⟩)
                    obtain ⟨m', k1, k2⟩ := M_keep (X := X) (d := d + 1) (x := x') (S := S') (L := L) (dyn := dyn') (o := true) hp10 hM h5 hor
                    rw [show (Value.int 1) = Value.int (oI true) from rfl, k1.iffi]
                    exact ⟨m2, m', rfl, rfl, hM.1, k2⟩
                obtain ⟨v, h', ev, m1, m', rfl, rfl, h1, h2⟩ := main.ex
                exact ⟨m1, m', ev, h1, h2⟩
            · have main : ∃ m1, lk_ev X (d + 6) 129 [.ref 29, .int (nI p), .int (nI k), .int (nI ii), .int (nI nn)] (hp x S L m (dyn ++ [.inl (0, (nn, .inl V))])) (some (.int (-1000001))) (hp x S L m1 (dyn ++ [.inl (0, (nn, .inl V))])) ∧ SC m m1 := by
                have main : lk_wx X (d + 6) 129 [.ref 29, .int (nI p), .int (nI k), .int (nI ii), .int (nI nn)] (hp x S L m (dyn ++ [.inl (0, (nn, .inl V))])) (fun v h' => ∃ m1, v = some (.int (-1000001)) ∧ h' = hp x S L m1 (dyn ++ [.inl (0, (nn, .inl V))]) ∧ SC m m1) := by
                  refine E_m_order ?_
                  rw [S_m_isPlace.iffi]
                  refine br_f (bI_t ha) ?_
                  rw [S_m_isSheet.iffi]
                  refine br_f (bI_t hs) ?_
                  rw [S_m_in.iffi, i64_of]
                  refine br_n1 (bI_t hn) ?_
                  rw [hp_f29_0, hp_a30, nI_clamp (by omega), l4]
                  refine ⟨vp_in_nI hk8 (by omega), br_n1 hl0 (br_f (by rw [i32_lt]; omega) ?_)⟩
                  rw [hp_f29_1, hp_a31, nI_clamp (by omega), l6]
                  refine ⟨vp_in_nI hk8 (by omega), br_t ?_ ?_⟩
                  · rw [lg_cmp_le, Int64.le_iff_toInt_le, i64_add, i64_of, i32_nI (n := sz) (by omega), i32_nI (n := nn) (by omega)]
                    omega
                  · refine m_order_clr (fun m1 hs1 hz => ?_) 16 0 m rfl (by omega) SC.rf (fun q hq => by omega)
                    exact m_order_loop (d := d + 4) (j := 0) (V := V) hk8 hi60 (by omega) (by omega) hV (fun m2 hok2 hM h5 => absurd hok2 hok) (fun m2 hno hs2 => ⟨m2, rfl, rfl, hs2⟩) nn m1 rfl (Nat.zero_le _) (fun i hi => by omega) ⟨hs1, fun i hi => by omega⟩ (fun c hc => ⟨fun _ i hi => by omega, fun _ => hz c hc⟩)
                obtain ⟨v, h', ev, m1, rfl, rfl, h1⟩ := main.ex
                exact ⟨m1, ev, h1⟩
              obtain ⟨m1, ev, hs1⟩ := main
              refine ⟨-1000001, x, S, L, m1, [.inl (0, (nn, .inl V))], E_x_order ?_, ev, SC.rel (h.app _) hs1, Nat.le_of_ble_eq_true rfl, ?_⟩
              · rw [S_x_isPlace.iffi]
                refine br_f (bI_t ha) ?_
                rw [S_x_isSheet.iffi]
                refine br_f (bI_t hs) ?_
                refine br_f (by rw [i32_lt]; omega) (br_t (by rw [i32_le]; omega) ?_)
                rw [hp_v0, (S_x_items (d := d + 3) hk8 l2 q1 l5).iffi, e2t, if_pos ⟨hi.1, by omega, hi.2⟩]
                refine br_t rfl ?_
                rw [hp_f0_0, hp_ra1, nI_clamp (by omega)]
                refine ⟨vp_in_nI hk8 (by omega), ?_⟩
                rw [hp_sv hk8, rd.iffr]
                rw [(S_o_each (by omega) hat false ⟨fun w => absurd w (by decide), fun w => absurd w hok⟩).iffi]
                exact br_t rfl ⟨rfl, rfl⟩
              · rw [sz_cons]
                show nn + 0 ≤ 400
                omega
          · refine TE.mk0 (r := -1000010 - 2) (E_x_order ?_) (E_m_order ?_) (h.st 2)
            · rw [S_x_isPlace.iffi]
              refine br_f (bI_t ha) ?_
              rw [S_x_isSheet.iffi]
              refine br_f (bI_t hs) ?_
              refine br_f (by rw [i32_lt]; omega) (br_t (by rw [i32_le]; omega) ?_)
              rw [hp_v0, (S_x_items (d := d + 3) hk8 l2 q1 l5).iffi, e2t, if_neg (fun w => hi ⟨w.1, w.2.2⟩)]
              refine br_f (by decide) ?_
              rw [hp_v0, S_x_found.iffi]
              exact ⟨rfl, rfl⟩
            · rw [S_m_isPlace.iffi]
              refine br_f (bI_t ha) ?_
              rw [S_m_isSheet.iffi]
              refine br_f (bI_t hs) ?_
              rw [S_m_in.iffi, i64_of]
              refine br_n1 (bI_t hn) ?_
              rw [hp_f29_0, hp_a30, nI_clamp (by omega), l4]
              refine ⟨vp_in_nI hk8 (by omega), br_n1 hl0 ?_⟩
              by_cases hi0 : i.toInt < 0
              · refine br_t (by rw [i32_lt]; omega) ?_
                rw [hp_v29, S_m_finds.iffi]
                exact ⟨rfl, rfl⟩
              · refine br_f (by rw [i32_lt]; omega) ?_
                rw [hp_f29_1, hp_a31, nI_clamp (by omega), l6]
                refine ⟨vp_in_nI hk8 (by omega), br_f ?_ ?_⟩
                · rw [lg_cmp_le, Int64.le_iff_toInt_le, i64_add, i64_of, i32_nI (n := sz) (by omega), i32_nI (n := nn) (by omega)]
                  omega
                · rw [hp_v29, S_m_finds.iffi]
                  exact ⟨rfl, rfl⟩
      · refine TE.mk0 (r := -1000001) (E_x_order ?_) (E_m_order ?_) h
        · rw [S_x_isPlace.iffi]
          refine br_f (bI_t ha) ?_
          rw [S_x_isSheet.iffi]
          refine br_f (bI_t hs) ?_
          by_cases hlo : n.toInt < 1
          · exact br_t (by rw [i32_lt]; omega) ⟨rfl, rfl⟩
          · exact br_f (by rw [i32_lt]; omega) (br_f (by rw [i32_le]; omega) ⟨rfl, rfl⟩)
        · rw [S_m_isPlace.iffi]
          refine br_f (bI_t ha) ?_
          rw [S_m_isSheet.iffi]
          refine br_f (bI_t hs) ?_
          rw [S_m_in.iffi, i64_of]
          exact br_n2 (bI_f hn) ⟨rfl, rfl⟩
    · refine TE.mk0 (r := -1000001) (E_x_order ?_) (E_m_order ?_) h
      · rw [S_x_isPlace.iffi]
        refine br_f (bI_t ha) ?_
        rw [S_x_isSheet.iffi]
        exact br_t (bI_f hs) ⟨rfl, rfl⟩
      · rw [S_m_isPlace.iffi]
        refine br_f (bI_t ha) ?_
        rw [S_m_isSheet.iffi]
        exact br_t (bI_f hs) ⟨rfl, rfl⟩
  · refine TE.mk0 (r := -1000001) (E_x_order ?_) (E_m_order ?_) h
    · rw [S_x_isPlace.iffi]
      exact br_t (bI_f ha) ⟨rfl, rfl⟩
    · rw [S_m_isPlace.iffi]
      exact br_t (bI_f ha) ⟨rfl, rfl⟩
end ORDER
