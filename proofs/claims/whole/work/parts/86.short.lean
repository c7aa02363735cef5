/-! the reference: the shortest ruler -/
/-- what the reference may have scribbled on while searching -/
def SD (m m1 : Nat → Nat → Int32) : Prop := (∀ p, p < 10 → m1 4 p = m 4 p ∧ m1 5 p = m 5 p) ∧ (∀ q, q < 160 → m1 6 q = m 6 q) ∧ ∀ c, ¬ c = 4 → ¬ c = 5 → ¬ c = 6 → ¬ c = 8 → ¬ c = 9 → ¬ c = 13 → m1 c = m c
section SHORT
variable {X : lk_X} {d : Nat} {x : Nat → Nat → Int32} {S L : Nat → Option Nat} {m : Nat → Nat → Int32} {dyn : lk_H} {n : Nat}
theorem SD.rf : SD m m := ⟨fun _ _ => ⟨rfl, rfl⟩, fun _ _ => rfl, fun _ _ _ _ _ _ _ => rfl⟩
theorem SD.m6 {m1 : Nat → Nat → Int32} {q : Nat} {v : Int32} (h : SD m m1) (hq : 160 ≤ q) : SD m (ms m1 6 q v) := by
  obtain ⟨s1, s2, s3⟩ := h
  refine ⟨fun p hp => ?_, fun r hr => ?_, fun c h4 h5 h6 h8 h9 h13 => ?_⟩
  · rw [ms_ne (by decide), ms_ne (by decide)]
    exact s1 p hp
  · rw [ms_same, pk_un (by omega)]
    exact s2 r hr
  · rw [ms_ne h6]
    exact s3 c h4 h5 h6 h8 h9 h13
theorem SD.m5 {m1 : Nat → Nat → Int32} {v : Int32} (h : SD m m1) : SD m (ms m1 5 10 v) := by
  obtain ⟨s1, s2, s3⟩ := h
  refine ⟨fun p hp => ?_, fun r hr => ?_, fun c h4 h5 h6 h8 h9 h13 => ?_⟩
  · rw [ms_ne (by decide), ms_same, pk_un (by omega)]
    exact s1 p hp
  · rw [ms_ne (by decide)]
    exact s2 r hr
  · rw [ms_ne h5]
    exact s3 c h4 h5 h6 h8 h9 h13
theorem SD.m13 {m1 : Nat → Nat → Int32} {q : Nat} {v : Int32} (h : SD m m1) : SD m (ms m1 13 q v) := by
  obtain ⟨s1, s2, s3⟩ := h
  refine ⟨fun p hp => ?_, fun r hr => ?_, fun c h4 h5 h6 h8 h9 h13 => ?_⟩
  · rw [ms_ne (by decide), ms_ne (by decide)]
    exact s1 p hp
  · rw [ms_ne (by decide)]
    exact s2 r hr
  · rw [ms_ne h13]
    exact s3 c h4 h5 h6 h8 h9 h13
theorem SD.fA {m1 : Nat → Nat → Int32} {v : Option (Nat × Nat × Nat × Nat)} (h : SD m m1) : SD m (fA m1 v) := by
  obtain ⟨s1, s2, s3⟩ := h
  refine ⟨fun p hp => ?_, fun r hr => ?_, fun c h4 h5 h6 h8 h9 h13 => ?_⟩
  · rw [fA_ne (by decide), fA_ne (by decide)]
    exact s1 p hp
  · rw [fA_ne (by decide)]
    exact s2 r hr
  · rw [fA_ne h8]
    exact s3 c h4 h5 h6 h8 h9 h13
theorem SD.rel (h : Rel x S L m dyn) {m1 : Nat → Nat → Int32} (hs : SD m m1) : Rel x S L m1 dyn := by
  obtain ⟨h1, h2, h3, h4, h5⟩ := h
  obtain ⟨s1, s2, s3⟩ := hs
  have e : ∀ c, c ≤ 3 ∨ c = 7 ∨ c = 10 ∨ c = 11 ∨ c = 12 ∨ c = 14 ∨ c = 15 ∨ c = 16 → m1 c = m c := fun c hc => s3 c (by omega) (by omega) (by omega) (by omega) (by omega) (by omega)
  exact ⟨h1.congr (fun _ _ => rfl) (e 0 (by omega)) (e 1 (by omega)) (e 2 (by omega)), h2.congr (by rw [e 14 (by omega)]; exact h2.1) rfl rfl (e 15 (by omega)) (e 7 (by omega)), h3.congr (fun _ _ q => q) (fun p q => (s1 p q).1) (fun p q => (s1 p q).2) s2, h4.congr (fun _ _ q => q) (e 10 (by omega)) (e 11 (by omega)), h5.congr rfl rfl rfl (e 12 (by omega)) (e 16 (by omega))⟩
theorem m_canBe_copy {g at' : Nat} {l : List Nat} {m0 : Nat → Nat → Int32} (hl : l.length = at' + 1) (h6 : at' < 6) (h200 : ∀ i, i < at' + 1 → gl l i ≤ 200) (h13 : ∀ i, i < at' + 1 → m0 13 i = nI (gl l i)) {Q : Option Value → lk_H → Prop} (hQ : ∀ m3, SD m m3 → mth m3 10 (at' + 1) (gl l) → (∀ i, i < at' + 1 → m3 13 i = nI (gl l i)) → lk_fR (hp x S L m3 dyn) 29 16 [(11, 0)] (fun r3 => lk_ai (hp x S L m3 dyn) r3 (nI at') (fun r4 => ((nI g) < r4 → lk_fR (hp x S L m3 dyn) 29 16 [(11, 0)] (fun r5 => lk_ai (hp x S L m3 dyn) r5 (nI at') (fun r6 => ((nI g) < r6 → (((nI at') + (-1)) ≤ 0 → lk_wp X (d + 4) 166 9 [.ref 29, .int (nI n), .int (nI g), .int ((-1)), .retAddr 0, .retAddr 0] [] (hp x S L m3 dyn) Q) ∧ (¬ ((nI at') + (-1)) ≤ 0 → lk_fR (hp x S L m3 dyn) 29 16 [(11, 0)] (fun r7 => lk_ai (hp x S L m3 dyn) r7 ((nI at') + (-1)) (fun r8 => lk_as (hp x S L m3 dyn) r7 ((nI at') + (-1)) (r8 + 1) (fun h9 => lk_wp X (d + 4) 166 9 [.ref 29, .int (nI n), .int (nI g), .int ((nI at') + (-1)), .retAddr 0, .retAddr 0] [] h9 Q))))) ∧ (¬ (nI g) < r6 → (¬ (nI at') = 0 → lk_fR (hp x S L m3 dyn) 29 16 [(11, 0)] (fun r10 => lk_ai (hp x S L m3 dyn) r10 (nI at') (fun r11 => lk_as (hp x S L m3 dyn) r10 (nI at') (r11 + 1) (fun h12 => lk_wp X (d + 4) 166 9 [.ref 29, .int (nI n), .int (nI g), .int (nI at'), .retAddr 0, .retAddr 0] [] h12 Q)))) ∧ ((nI at') = 0 → (((nI at') + (-1)) ≤ 0 → lk_wp X (d + 4) 166 9 [.ref 29, .int (nI n), .int (nI g), .int ((-1)), .retAddr 0, .retAddr 0] [] (hp x S L m3 dyn) Q) ∧ (¬ ((nI at') + (-1)) ≤ 0 → lk_fR (hp x S L m3 dyn) 29 16 [(11, 0)] (fun r13 => lk_ai (hp x S L m3 dyn) r13 ((nI at') + (-1)) (fun r14 => lk_as (hp x S L m3 dyn) r13 ((nI at') + (-1)) (r14 + 1) (fun h15 => lk_wp X (d + 4) 166 9 [.ref 29, .int (nI n), .int (nI g), .int ((nI at') + (-1)), .retAddr 0, .retAddr 0] [] h15 Q))))))))) ∧ (¬ (nI g) < r4 → lk_vc (hp x S L m3 dyn) 29 [(11, 124)] (fun k33 => lk_wxi X (d + 3) k33 [.ref 29, .int 10, .int 0] (hp x S L m3 dyn) (fun r17 h16 => (¬ r17 = 0 → lk_fR h16 29 16 [(11, 0)] (fun r18 => lk_ai h16 r18 (nI at') (fun r19 => ((nI g) < r19 → (((nI at') + (-1)) ≤ 0 → lk_wp X (d + 4) 166 9 [.ref 29, .int (nI n), .int (nI g), .int ((-1)), .retAddr 0, .retAddr 0] [] h16 Q) ∧ (¬ ((nI at') + (-1)) ≤ 0 → lk_fR h16 29 16 [(11, 0)] (fun r20 => lk_ai h16 r20 ((nI at') + (-1)) (fun r21 => lk_as h16 r20 ((nI at') + (-1)) (r21 + 1) (fun h22 => lk_wp X (d + 4) 166 9 [.ref 29, .int (nI n), .int (nI g), .int ((nI at') + (-1)), .retAddr 0, .retAddr 0] [] h22 Q))))) ∧ (¬ (nI g) < r19 → (¬ (nI at') = 0 → lk_fR h16 29 16 [(11, 0)] (fun r23 => lk_ai h16 r23 (nI at') (fun r24 => lk_as h16 r23 (nI at') (r24 + 1) (fun h25 => lk_wp X (d + 4) 166 9 [.ref 29, .int (nI n), .int (nI g), .int (nI at'), .retAddr 0, .retAddr 0] [] h25 Q)))) ∧ ((nI at') = 0 → (((nI at') + (-1)) ≤ 0 → lk_wp X (d + 4) 166 9 [.ref 29, .int (nI n), .int (nI g), .int ((-1)), .retAddr 0, .retAddr 0] [] h16 Q) ∧ (¬ ((nI at') + (-1)) ≤ 0 → lk_fR h16 29 16 [(11, 0)] (fun r26 => lk_ai h16 r26 ((nI at') + (-1)) (fun r27 => lk_as h16 r26 ((nI at') + (-1)) (r27 + 1) (fun h28 => lk_wp X (d + 4) 166 9 [.ref 29, .int (nI n), .int (nI g), .int ((nI at') + (-1)), .retAddr 0, .retAddr 0] [] h28 Q))))))))) ∧ (r17 = 0 → (¬ (nI at') = ((nI n) - 1) → lk_fR h16 29 16 [(11, 0)] (fun r29 => lk_fR h16 29 16 [(11, 0)] (fun r30 => lk_ai h16 r30 (((nI at') + 1) - 1) (fun r31 => lk_as h16 r29 ((nI at') + 1) (r31 + 1) (fun h32 => lk_wp X (d + 4) 166 9 [.ref 29, .int (nI n), .int (nI g), .int ((nI at') + 1), .retAddr 0, .retAddr 0] [] h32 Q))))) ∧ ((nI at') = ((nI n) - 1) → Q (some (.int 1)) h16)))))))) : ∀ (u j : Nat) (m1 : Nat → Nat → Int32), at' + 1 - j = u → j ≤ at' + 1 → SD m m1 → (∀ i, i < j → m1 6 (160 + i) = nI (gl l i)) → m1 13 = m0 13 → lk_wp X (d + 4) 166 19 [.ref 29, .int (nI n), .int (nI g), .int (nI at'), .int 1, .int (nI j)] [] (hp x S L m1 dyn) Q := by
  intro u
  induction u with
  | zero =>
    intro j m1 hu hj hs h6m hc
    refine F_m_canBe_19 (br_t (by rw [nI_ltI (by omega) (by omega)]; omega) ?_)
    rw [hp_f29_5, hp_w35]
    refine ⟨vp_in_nI (n := 10) (by omega) (by omega), ?_⟩
    refine hQ _ hs.m5 ⟨by decide, by omega, by rw [ms_same, ← nI_1]; exact pk_us, fun i hi => ⟨?_, h200 i hi⟩⟩ (fun i hi => ?_)
    · rw [ms_ne (by decide)]
      exact h6m i (by omega)
    · rw [ms_ne (by decide), hc]
      exact h13 i hi
  | succ u ih =>
    intro j m1 hu hj hs h6m hc
    refine F_m_canBe_19 (br_f (by rw [nI_ltI (by omega) (by omega)]; omega) (br_f (by decide) ?_))
    rw [hp_f29_16, hp_a43, nI_clamp (by omega), hc, h13 j (by omega)]
    refine ⟨vp_in_nI (by omega) (by omega), ?_⟩
    rw [hp_v29, (S_m_make (show j < 16 by omega)).iffv, nI_1]
    refine ih (j + 1) _ (by omega) (by omega) (hs.m6 (by omega)) (fun i hi => ?_) (by rw [ms_ne (by decide)]; exact hc)
    rw [ms_same]
    by_cases hij : i = j
    · rw [hij, pk_us]
    · rw [pk_un (by omega)]
      exact h6m i (by omega)
theorem cb_nil {g f p : Nat} : cb n g (f + 1) [p] = if p ≤ g ∧ (alk false (0 + 1) (gl [p].reverse)).isSome = false then (if 0 + 1 = n then some true else cb n g f [p + 1, p]) else if g < p ∨ 0 = 0 then some false else cb n g f [p + 1] := rfl
theorem cb_one {g f p q : Nat} : cb n g (f + 1) [p, q] = if p ≤ g ∧ (alk false (0 + 1 + 1) (gl [p, q].reverse)).isSome = false then (if 0 + 1 + 1 = n then some true else cb n g f [p + 1, p, q]) else if g < p ∨ 0 + 1 = 0 then some false else cb n g f [p + 1, q] := rfl
theorem cb_more {g f p q s : Nat} {t : List Nat} : cb n g (f + 1) (p :: q :: s :: t) = if p ≤ g ∧ (alk false (t.length + 1 + 1 + 1) (gl (p :: q :: s :: t).reverse)).isSome = false then (if t.length + 1 + 1 + 1 = n then some true else cb n g f ((p + 1) :: p :: q :: s :: t)) else if g < p ∨ t.length + 1 + 1 = 0 then cb n g f ((q + 1) :: s :: t) else cb n g f ((p + 1) :: q :: s :: t) := rfl
theorem cb_sim {g : Nat} (h6 : n ≤ 6) (hg : g ≤ 17) {Q : Option Value → lk_H → Prop} : ∀ (f p : Nat) (r : List Nat) (m1 : Nat → Nat → Int32) (b : Bool), cb n g f (p :: r) = some b → p ≤ g + 1 → (∀ v, v ∈ r → v ≤ g) → r.length + 1 ≤ n → SD m m1 → (∀ i, i < r.length + 1 → m1 13 i = nI (gl (r.reverse ++ [p]) i)) → (∀ m2, SD m m2 → Q (some (.int (oI b))) (hp x S L m2 dyn)) → lk_wp X (d + 4) 166 9 [.ref 29, .int (nI n), .int (nI g), .int (nI r.length), .retAddr 0, .retAddr 0] [] (hp x S L m1 dyn) Q := by
  intro f
  induction f with
  | zero => intro p r m1 b hcb; cases hcb
  | succ f ih =>
    intro p r m1 b hcb hpg hle hln hs h13 hQ
    match r, hcb, hle, hln, h13 with
    | [], hcb, hle, hln, h13 =>
      have hln2 : 0 + 1 ≤ n := hln
      have hl0 : (([] : List Nat)).reverse.length = 0 := by rw [List.length_reverse]; rfl
      refine F_m_canBe_9 (br_f (by show ¬ nI (0) < 0; rw [i32_lt, i32_nI (show 0 < 2 ^ 31 by omega), show (0 : Int32).toInt = 0 from rfl]; omega) ?_)
      refine m_canBe_copy (d := d) (j := 0) (l := (([] : List Nat)).reverse ++ [p]) (at' := 0) (by rw [List.length_append, hl0]; rfl) (by omega) (fun i hi => ?_) h13 (fun m3 hs3 hm3 h13 => ?_) (0 + 1) m1 rfl (by omega) hs (fun i hi => by omega) rfl
      · by_cases hil : i = 0
        · rw [hil, show 0 = (([] : List Nat)).reverse.length from hl0.symm, gl_last]
          omega
        · rw [gl_app (by omega)]
          unfold gl
          rw [List.getD_eq_getElem?_getD, List.getElem?_eq_getElem (by omega)]
          have := hle _ (List.mem_reverse.mp (List.getElem_mem (l := (([] : List Nat)).reverse) (show i < (([] : List Nat)).reverse.length by omega)))
          show _ ≤ 200
          exact Nat.le_trans this (by omega)
      · have hp13 : m3 13 (0) = nI p := by
          rw [h13 (0) (by omega)]
          rw [show 0 = (([] : List Nat)).reverse.length from hl0.symm, gl_last]
        have hrev : (p :: ([] : List Nat)).reverse = (([] : List Nat)).reverse ++ [p] := List.reverse_cons
        rw [cb_nil, hrev] at hcb
        rw [hp_f29_16, hp_a43, nI_clamp (by omega), hp13, nI_ltI (by omega) (by omega)]
        refine ⟨vp_in_nI (by omega) (by omega), ?_⟩
        by_cases hgp0 : g < p
        · refine br_t hgp0 ?_
          have hno : ¬ (p ≤ g ∧ (alk false (0 + 1) (gl ((([] : List Nat)).reverse ++ [p]))).isSome = false) := fun w => by have := w.1; omega
          have hp13 : m3 13 (0) = nI p := by
            rw [h13 (0) (by omega)]
            rw [show 0 = (([] : List Nat)).reverse.length from (by rw [List.length_reverse]; rfl), gl_last]
          rw [hp_f29_16, hp_a43, nI_clamp (by omega), hp13, nI_ltI (by omega) (by omega)]
          refine ⟨vp_in_nI (by omega) (by omega), ?_⟩
          rw [if_neg hno] at hcb
          by_cases hgp : g < p
          · rw [if_pos (Or.inl hgp)] at hcb
            refine br_t hgp ?_
            refine br_t (by decide) (F_m_canBe_9 (br_t (by decide) ?_))
            cases hcb
            exact hQ _ hs3
          · rw [if_pos (Or.inr rfl)] at hcb
            refine br_f hgp (br_n2 rfl ?_)
            refine br_t (by decide) (F_m_canBe_9 (br_t (by decide) ?_))
            cases hcb
            exact hQ _ hs3
        · refine br_f hgp0 ?_
          have evf : lk_ev X (d + 3) 124 [.ref 29, .int 10, .int 0] (hp x S L m3 dyn) (some (.int (bI ((alk false (0 + 1) (gl ((([] : List Nat)).reverse ++ [p]))).isSome = true)))) (hp x S L (fA m3 (alk false (0 + 1) (gl ((([] : List Nat)).reverse ++ [p])))) dyn) := S_m_findAlike (o := false) hm3
          rw [hp_v29, evf.iffi]
          have hs3 := hs3.fA (v := alk false (0 + 1) (gl ((([] : List Nat)).reverse ++ [p])))
          have h13 : ∀ i, i < 0 + 1 → fA m3 (alk false (0 + 1) (gl ((([] : List Nat)).reverse ++ [p]))) 13 i = nI (gl ((([] : List Nat)).reverse ++ [p]) i) := fun i hi => by rw [fA_ne (by decide)]; exact h13 i hi
          by_cases ha : (alk false (0 + 1) (gl ((([] : List Nat)).reverse ++ [p]))).isSome = true
          · refine br_n1 (bI_t ha) ?_
            have hno : ¬ (p ≤ g ∧ (alk false (0 + 1) (gl ((([] : List Nat)).reverse ++ [p]))).isSome = false) := fun w => by
              have w2 : (alk false (0 + 1) (gl ((([] : List Nat)).reverse ++ [p]))).isSome = false := w.2
              rw [ha] at w2
              cases w2
            generalize fA m3 (alk false (0 + 1) (gl ((([] : List Nat)).reverse ++ [p]))) = m3 at hs3 h13 ⊢
            have hp13 : m3 13 (0) = nI p := by
              rw [h13 (0) (by omega)]
              rw [show 0 = (([] : List Nat)).reverse.length from (by rw [List.length_reverse]; rfl), gl_last]
            rw [hp_f29_16, hp_a43, nI_clamp (by omega), hp13, nI_ltI (by omega) (by omega)]
            refine ⟨vp_in_nI (by omega) (by omega), ?_⟩
            rw [if_neg hno] at hcb
            by_cases hgp : g < p
            · rw [if_pos (Or.inl hgp)] at hcb
              refine br_t hgp ?_
              refine br_t (by decide) (F_m_canBe_9 (br_t (by decide) ?_))
              cases hcb
              exact hQ _ hs3
            · rw [if_pos (Or.inr rfl)] at hcb
              refine br_f hgp (br_n2 rfl ?_)
              refine br_t (by decide) (F_m_canBe_9 (br_t (by decide) ?_))
              cases hcb
              exact hQ _ hs3
          · refine br_n2 (bI_f ha) ?_
            have hyes : p ≤ g ∧ (alk false (0 + 1) (gl ((([] : List Nat)).reverse ++ [p]))).isSome = false := ⟨by omega, Bool.not_eq_true _ ▸ ha⟩
            rw [if_pos hyes] at hcb
            generalize fA m3 (alk false (0 + 1) (gl ((([] : List Nat)).reverse ++ [p]))) = m4 at hs3 h13 ⊢
            have hp13 : m4 13 (0) = nI p := by
              rw [h13 (0) (by omega)]
              rw [show 0 = (([] : List Nat)).reverse.length from hl0.symm, gl_last]
            rw [nI_sub1 (show 1 ≤ n by omega) (by omega), nI_eq (show 0 < 2 ^ 31 by omega) (by omega)]
            by_cases hend : 0 + 1 = n
            · have hend2 : 0 + 1 = n := hend
              rw [if_pos hend2] at hcb
              cases hcb
              exact br_n2 (by omega) (hQ _ hs3)
            · have hend2 : ¬ 0 + 1 = n := hend
              rw [if_neg hend2] at hcb
              refine br_n1 (by omega) ?_
              rw [hp_f29_16, hp_f29_16, nI_1, nI_sub1 (by omega) (by omega), Nat.add_sub_cancel, hp_a43, nI_clamp (show 0 < 2 ^ 31 by omega), hp13]
              refine ⟨vp_in_nI (by omega) (by omega), ?_⟩
              rw [hp_w43, nI_clamp (show 0 + 1 < 2 ^ 31 by omega), nI_1]
              refine ⟨vp_in_nI (by omega) (by omega), ih (p + 1) (p :: ([] : List Nat)) _ b hcb (by omega) (fun v hv => ?_) (by show 0 + 1 + 1 ≤ n; omega) hs3.m13 (fun i hi => ?_) hQ⟩
              · rcases List.mem_cons.mp hv with rfl | hv
                · exact hyes.1
                · exact hle v hv
              · have hi : i < 0 + 1 + 1 := hi
                rw [hrev, ms_same]
                have hl1 : ((([] : List Nat)).reverse ++ [p]).length = 0 + 1 := by rw [List.length_append, hl0]; rfl
                by_cases hit : i = 0 + 1
                · rw [hit, pk_us]
                  rw [show 0 + 1 = ((([] : List Nat)).reverse ++ [p]).length from hl1.symm, gl_last]
                · rw [pk_un hit, h13 i (by omega)]
                  exact congrArg nI (gl_app (l := (([] : List Nat)).reverse ++ [p]) (c := p + 1) (show i < ((([] : List Nat)).reverse ++ [p]).length by omega)).symm
    | [q], hcb, hle, hln, h13 =>
      have hln2 : 0 + 1 + 1 ≤ n := hln
      have hl0 : ([q]).reverse.length = 0 + 1 := by rw [List.length_reverse]; rfl
      refine F_m_canBe_9 (br_f (by show ¬ nI (0 + 1) < 0; rw [i32_lt, i32_nI (show 0 + 1 < 2 ^ 31 by omega), show (0 : Int32).toInt = 0 from rfl]; omega) ?_)
      refine m_canBe_copy (d := d) (j := 0) (l := ([q]).reverse ++ [p]) (at' := 0 + 1) (by rw [List.length_append, hl0]; rfl) (by omega) (fun i hi => ?_) h13 (fun m3 hs3 hm3 h13 => ?_) (0 + 1 + 1) m1 rfl (by omega) hs (fun i hi => by omega) rfl
      · by_cases hil : i = 0 + 1
        · rw [hil, show 0 + 1 = ([q]).reverse.length from hl0.symm, gl_last]
          omega
        · rw [gl_app (by omega)]
          unfold gl
          rw [List.getD_eq_getElem?_getD, List.getElem?_eq_getElem (by omega)]
          have := hle _ (List.mem_reverse.mp (List.getElem_mem (l := ([q]).reverse) (show i < ([q]).reverse.length by omega)))
          show _ ≤ 200
          exact Nat.le_trans this (by omega)
      · have hp13 : m3 13 (0 + 1) = nI p := by
          rw [h13 (0 + 1) (by omega)]
          rw [show 0 + 1 = ([q]).reverse.length from hl0.symm, gl_last]
        have hrev : (p :: [q]).reverse = ([q]).reverse ++ [p] := List.reverse_cons
        rw [cb_one, hrev] at hcb
        rw [hp_f29_16, hp_a43, nI_clamp (by omega), hp13, nI_ltI (by omega) (by omega)]
        refine ⟨vp_in_nI (by omega) (by omega), ?_⟩
        by_cases hgp0 : g < p
        · refine br_t hgp0 ?_
          have hno : ¬ (p ≤ g ∧ (alk false (0 + 1 + 1) (gl (([q]).reverse ++ [p]))).isSome = false) := fun w => by have := w.1; omega
          have hp13 : m3 13 (0 + 1) = nI p := by
            rw [h13 (0 + 1) (by omega)]
            rw [show 0 + 1 = ([q]).reverse.length from (by rw [List.length_reverse]; rfl), gl_last]
          rw [hp_f29_16, hp_a43, nI_clamp (by omega), hp13, nI_ltI (by omega) (by omega)]
          refine ⟨vp_in_nI (by omega) (by omega), ?_⟩
          rw [if_neg hno] at hcb
          by_cases hgp : g < p
          · rw [if_pos (Or.inl hgp)] at hcb
            refine br_t hgp ?_
            refine br_t (by decide) (F_m_canBe_9 (br_t (by decide) ?_))
            cases hcb
            exact hQ _ hs3
          · rw [if_neg (by rintro (w | w); exact hgp w; cases w)] at hcb
            refine br_f hgp (br_n1 (fun w => by have := (nI_eq (a := 0 + 1) (b := 0) (by omega) (by omega)).mp w; omega) ?_)
            rw [hp_f29_16, hp_a43, nI_clamp (by omega), hp13]
            refine ⟨vp_in_nI (by omega) (by omega), ?_⟩
            rw [hp_w43, nI_clamp (by omega), nI_1]
            refine ⟨vp_in_nI (by omega) (by omega), ih (p + 1) ([q]) _ b hcb (by omega) hle hln hs3.m13 (fun i hi => ?_) hQ⟩
            have hi : i < 0 + 1 + 1 := hi
            rw [ms_same]
            by_cases hit : i = 0 + 1
            · rw [hit, pk_us]
              rw [show 0 + 1 = ([q]).reverse.length from (by rw [List.length_reverse]; rfl), gl_last]
            · rw [pk_un hit, h13 i (by omega), gl_app (by rw [List.length_reverse]; show i < 0 + 1; omega), gl_app (by rw [List.length_reverse]; show i < 0 + 1; omega)]
        · refine br_f hgp0 ?_
          have evf : lk_ev X (d + 3) 124 [.ref 29, .int 10, .int 0] (hp x S L m3 dyn) (some (.int (bI ((alk false (0 + 1 + 1) (gl (([q]).reverse ++ [p]))).isSome = true)))) (hp x S L (fA m3 (alk false (0 + 1 + 1) (gl (([q]).reverse ++ [p])))) dyn) := S_m_findAlike (o := false) hm3
          rw [hp_v29, evf.iffi]
          have hs3 := hs3.fA (v := alk false (0 + 1 + 1) (gl (([q]).reverse ++ [p])))
          have h13 : ∀ i, i < 0 + 1 + 1 → fA m3 (alk false (0 + 1 + 1) (gl (([q]).reverse ++ [p]))) 13 i = nI (gl (([q]).reverse ++ [p]) i) := fun i hi => by rw [fA_ne (by decide)]; exact h13 i hi
          by_cases ha : (alk false (0 + 1 + 1) (gl (([q]).reverse ++ [p]))).isSome = true
          · refine br_n1 (bI_t ha) ?_
            have hno : ¬ (p ≤ g ∧ (alk false (0 + 1 + 1) (gl (([q]).reverse ++ [p]))).isSome = false) := fun w => by
              have w2 : (alk false (0 + 1 + 1) (gl (([q]).reverse ++ [p]))).isSome = false := w.2
              rw [ha] at w2
              cases w2
            generalize fA m3 (alk false (0 + 1 + 1) (gl (([q]).reverse ++ [p]))) = m3 at hs3 h13 ⊢
            have hp13 : m3 13 (0 + 1) = nI p := by
              rw [h13 (0 + 1) (by omega)]
              rw [show 0 + 1 = ([q]).reverse.length from (by rw [List.length_reverse]; rfl), gl_last]
            rw [hp_f29_16, hp_a43, nI_clamp (by omega), hp13, nI_ltI (by omega) (by omega)]
            refine ⟨vp_in_nI (by omega) (by omega), ?_⟩
            rw [if_neg hno] at hcb
            by_cases hgp : g < p
            · rw [if_pos (Or.inl hgp)] at hcb
              refine br_t hgp ?_
              refine br_t (by decide) (F_m_canBe_9 (br_t (by decide) ?_))
              cases hcb
              exact hQ _ hs3
            · rw [if_neg (by rintro (w | w); exact hgp w; cases w)] at hcb
              refine br_f hgp (br_n1 (fun w => by have := (nI_eq (a := 0 + 1) (b := 0) (by omega) (by omega)).mp w; omega) ?_)
              rw [hp_f29_16, hp_a43, nI_clamp (by omega), hp13]
              refine ⟨vp_in_nI (by omega) (by omega), ?_⟩
              rw [hp_w43, nI_clamp (by omega), nI_1]
              refine ⟨vp_in_nI (by omega) (by omega), ih (p + 1) ([q]) _ b hcb (by omega) hle hln hs3.m13 (fun i hi => ?_) hQ⟩
              have hi : i < 0 + 1 + 1 := hi
              rw [ms_same]
              by_cases hit : i = 0 + 1
              · rw [hit, pk_us]
                rw [show 0 + 1 = ([q]).reverse.length from (by rw [List.length_reverse]; rfl), gl_last]
              · rw [pk_un hit, h13 i (by omega), gl_app (by rw [List.length_reverse]; show i < 0 + 1; omega), gl_app (by rw [List.length_reverse]; show i < 0 + 1; omega)]
          · refine br_n2 (bI_f ha) ?_
            have hyes : p ≤ g ∧ (alk false (0 + 1 + 1) (gl (([q]).reverse ++ [p]))).isSome = false := ⟨by omega, Bool.not_eq_true _ ▸ ha⟩
            rw [if_pos hyes] at hcb
            generalize fA m3 (alk false (0 + 1 + 1) (gl (([q]).reverse ++ [p]))) = m4 at hs3 h13 ⊢
            have hp13 : m4 13 (0 + 1) = nI p := by
              rw [h13 (0 + 1) (by omega)]
              rw [show 0 + 1 = ([q]).reverse.length from hl0.symm, gl_last]
            rw [nI_sub1 (show 1 ≤ n by omega) (by omega), nI_eq (show 0 + 1 < 2 ^ 31 by omega) (by omega)]
            by_cases hend : 0 + 1 + 1 = n
            · have hend2 : 0 + 1 + 1 = n := hend
              rw [if_pos hend2] at hcb
              cases hcb
              exact br_n2 (by omega) (hQ _ hs3)
            · have hend2 : ¬ 0 + 1 + 1 = n := hend
              rw [if_neg hend2] at hcb
              refine br_n1 (by omega) ?_
              rw [hp_f29_16, hp_f29_16, nI_1, nI_sub1 (by omega) (by omega), Nat.add_sub_cancel, hp_a43, nI_clamp (show 0 + 1 < 2 ^ 31 by omega), hp13]
              refine ⟨vp_in_nI (by omega) (by omega), ?_⟩
              rw [hp_w43, nI_clamp (show 0 + 1 + 1 < 2 ^ 31 by omega), nI_1]
              refine ⟨vp_in_nI (by omega) (by omega), ih (p + 1) (p :: [q]) _ b hcb (by omega) (fun v hv => ?_) (by show 0 + 1 + 1 + 1 ≤ n; omega) hs3.m13 (fun i hi => ?_) hQ⟩
              · rcases List.mem_cons.mp hv with rfl | hv
                · exact hyes.1
                · exact hle v hv
              · have hi : i < 0 + 1 + 1 + 1 := hi
                rw [hrev, ms_same]
                have hl1 : (([q]).reverse ++ [p]).length = 0 + 1 + 1 := by rw [List.length_append, hl0]; rfl
                by_cases hit : i = 0 + 1 + 1
                · rw [hit, pk_us]
                  rw [show 0 + 1 + 1 = (([q]).reverse ++ [p]).length from hl1.symm, gl_last]
                · rw [pk_un hit, h13 i (by omega)]
                  exact congrArg nI (gl_app (l := ([q]).reverse ++ [p]) (c := p + 1) (show i < (([q]).reverse ++ [p]).length by omega)).symm
    | q :: s :: t, hcb, hle, hln, h13 =>
      have hln2 : t.length + 1 + 1 + 1 ≤ n := hln
      have hl0 : (q :: s :: t).reverse.length = t.length + 1 + 1 := by rw [List.length_reverse]; rfl
      refine F_m_canBe_9 (br_f (by show ¬ nI (t.length + 1 + 1) < 0; rw [i32_lt, i32_nI (show t.length + 1 + 1 < 2 ^ 31 by omega), show (0 : Int32).toInt = 0 from rfl]; omega) ?_)
      refine m_canBe_copy (d := d) (j := 0) (l := (q :: s :: t).reverse ++ [p]) (at' := t.length + 1 + 1) (by rw [List.length_append, hl0]; rfl) (by omega) (fun i hi => ?_) h13 (fun m3 hs3 hm3 h13 => ?_) (t.length + 1 + 1 + 1) m1 rfl (by omega) hs (fun i hi => by omega) rfl
      · by_cases hil : i = t.length + 1 + 1
        · rw [hil, show t.length + 1 + 1 = (q :: s :: t).reverse.length from hl0.symm, gl_last]
          omega
        · rw [gl_app (by omega)]
          unfold gl
          rw [List.getD_eq_getElem?_getD, List.getElem?_eq_getElem (by omega)]
          have := hle _ (List.mem_reverse.mp (List.getElem_mem (l := (q :: s :: t).reverse) (show i < (q :: s :: t).reverse.length by omega)))
          show _ ≤ 200
          exact Nat.le_trans this (by omega)
      · have hp13 : m3 13 (t.length + 1 + 1) = nI p := by
          rw [h13 (t.length + 1 + 1) (by omega)]
          rw [show t.length + 1 + 1 = (q :: s :: t).reverse.length from hl0.symm, gl_last]
        have hrev : (p :: (q :: s :: t)).reverse = (q :: s :: t).reverse ++ [p] := List.reverse_cons
        rw [cb_more, hrev] at hcb
        rw [hp_f29_16, hp_a43, nI_clamp (by omega), hp13, nI_ltI (by omega) (by omega)]
        refine ⟨vp_in_nI (by omega) (by omega), ?_⟩
        by_cases hgp0 : g < p
        · refine br_t hgp0 ?_
          have hno : ¬ (p ≤ g ∧ (alk false (t.length + 1 + 1 + 1) (gl ((q :: s :: t).reverse ++ [p]))).isSome = false) := fun w => by have := w.1; omega
          have hp13 : m3 13 (t.length + 1 + 1) = nI p := by
            rw [h13 (t.length + 1 + 1) (by omega)]
            rw [show t.length + 1 + 1 = (q :: s :: t).reverse.length from (by rw [List.length_reverse]; rfl), gl_last]
          rw [hp_f29_16, hp_a43, nI_clamp (by omega), hp13, nI_ltI (by omega) (by omega)]
          refine ⟨vp_in_nI (by omega) (by omega), ?_⟩
          rw [if_neg hno] at hcb
          by_cases hgp : g < p
          · rw [if_pos (Or.inl hgp)] at hcb
            refine br_t hgp ?_
            have e1 : nI (t.length + 1 + 1) + (-1) = nI (t.length + 1) := by rw [nI_m1, nI_sub1 (by omega) (by omega), Nat.add_sub_cancel]
            have hz : ¬ nI (t.length + 1 + 1) + (-1) ≤ 0 := by
              rw [e1, i32_le, i32_nI (by omega), show (0 : Int32).toInt = 0 from rfl]
              omega
            refine br_f hz ?_
            have hq13 : m3 13 (t.length + 1) = nI q := by
              rw [h13 (t.length + 1) (by omega), gl_app (by rw [List.length_reverse]; show t.length + 1 < t.length + 1 + 1; omega), List.reverse_cons]
              have : t.length + 1 = (s :: t).reverse.length := by rw [List.length_reverse]; rfl
              rw [this, gl_last]
            rw [hp_f29_16, e1, hp_a43, nI_clamp (by omega), hq13]
            refine ⟨vp_in_nI (by omega) (by omega), ?_⟩
            rw [hp_w43, nI_clamp (by omega), nI_1]
            refine ⟨vp_in_nI (by omega) (by omega), ih (q + 1) (s :: t) _ b hcb (by have := hle q (by simp); omega) (fun v hv => hle v (List.mem_cons_of_mem _ hv)) (by show t.length + 1 + 1 ≤ n; omega) hs3.m13 (fun i hi => ?_) hQ⟩
            have hi : i < t.length + 1 + 1 := hi
            rw [ms_same]
            by_cases hit : i = t.length + 1
            · rw [hit, pk_us]
              have : t.length + 1 = (s :: t).reverse.length := by rw [List.length_reverse]; rfl
              rw [this, gl_last]
            · rw [pk_un hit, h13 i (by omega), gl_app (by rw [List.length_reverse]; show i < t.length + 1 + 1; omega), List.reverse_cons, gl_app (by rw [List.length_reverse]; show i < t.length + 1; omega), gl_app (by rw [List.length_reverse]; show i < t.length + 1; omega)]
          · rw [if_neg (by rintro (w | w); exact hgp w; cases w)] at hcb
            refine br_f hgp (br_n1 (fun w => by have := (nI_eq (a := t.length + 1 + 1) (b := 0) (by omega) (by omega)).mp w; omega) ?_)
            rw [hp_f29_16, hp_a43, nI_clamp (by omega), hp13]
            refine ⟨vp_in_nI (by omega) (by omega), ?_⟩
            rw [hp_w43, nI_clamp (by omega), nI_1]
            refine ⟨vp_in_nI (by omega) (by omega), ih (p + 1) (q :: s :: t) _ b hcb (by omega) hle hln hs3.m13 (fun i hi => ?_) hQ⟩
            have hi : i < t.length + 1 + 1 + 1 := hi
            rw [ms_same]
            by_cases hit : i = t.length + 1 + 1
            · rw [hit, pk_us]
              rw [show t.length + 1 + 1 = (q :: s :: t).reverse.length from (by rw [List.length_reverse]; rfl), gl_last]
            · rw [pk_un hit, h13 i (by omega), gl_app (by rw [List.length_reverse]; show i < t.length + 1 + 1; omega), gl_app (by rw [List.length_reverse]; show i < t.length + 1 + 1; omega)]
        · refine br_f hgp0 ?_
          have evf : lk_ev X (d + 3) 124 [.ref 29, .int 10, .int 0] (hp x S L m3 dyn) (some (.int (bI ((alk false (t.length + 1 + 1 + 1) (gl ((q :: s :: t).reverse ++ [p]))).isSome = true)))) (hp x S L (fA m3 (alk false (t.length + 1 + 1 + 1) (gl ((q :: s :: t).reverse ++ [p])))) dyn) := S_m_findAlike (o := false) hm3
          rw [hp_v29, evf.iffi]
          have hs3 := hs3.fA (v := alk false (t.length + 1 + 1 + 1) (gl ((q :: s :: t).reverse ++ [p])))
          have h13 : ∀ i, i < t.length + 1 + 1 + 1 → fA m3 (alk false (t.length + 1 + 1 + 1) (gl ((q :: s :: t).reverse ++ [p]))) 13 i = nI (gl ((q :: s :: t).reverse ++ [p]) i) := fun i hi => by rw [fA_ne (by decide)]; exact h13 i hi
          by_cases ha : (alk false (t.length + 1 + 1 + 1) (gl ((q :: s :: t).reverse ++ [p]))).isSome = true
          · refine br_n1 (bI_t ha) ?_
            have hno : ¬ (p ≤ g ∧ (alk false (t.length + 1 + 1 + 1) (gl ((q :: s :: t).reverse ++ [p]))).isSome = false) := fun w => by
              have w2 : (alk false (t.length + 1 + 1 + 1) (gl ((q :: s :: t).reverse ++ [p]))).isSome = false := w.2
              rw [ha] at w2
              cases w2
            generalize fA m3 (alk false (t.length + 1 + 1 + 1) (gl ((q :: s :: t).reverse ++ [p]))) = m3 at hs3 h13 ⊢
            have hp13 : m3 13 (t.length + 1 + 1) = nI p := by
              rw [h13 (t.length + 1 + 1) (by omega)]
              rw [show t.length + 1 + 1 = (q :: s :: t).reverse.length from (by rw [List.length_reverse]; rfl), gl_last]
            rw [hp_f29_16, hp_a43, nI_clamp (by omega), hp13, nI_ltI (by omega) (by omega)]
            refine ⟨vp_in_nI (by omega) (by omega), ?_⟩
            rw [if_neg hno] at hcb
            by_cases hgp : g < p
            · rw [if_pos (Or.inl hgp)] at hcb
              refine br_t hgp ?_
              have e1 : nI (t.length + 1 + 1) + (-1) = nI (t.length + 1) := by rw [nI_m1, nI_sub1 (by omega) (by omega), Nat.add_sub_cancel]
              have hz : ¬ nI (t.length + 1 + 1) + (-1) ≤ 0 := by
                rw [e1, i32_le, i32_nI (by omega), show (0 : Int32).toInt = 0 from rfl]
                omega
              refine br_f hz ?_
              have hq13 : m3 13 (t.length + 1) = nI q := by
                rw [h13 (t.length + 1) (by omega), gl_app (by rw [List.length_reverse]; show t.length + 1 < t.length + 1 + 1; omega), List.reverse_cons]
                have : t.length + 1 = (s :: t).reverse.length := by rw [List.length_reverse]; rfl
                rw [this, gl_last]
              rw [hp_f29_16, e1, hp_a43, nI_clamp (by omega), hq13]
              refine ⟨vp_in_nI (by omega) (by omega), ?_⟩
              rw [hp_w43, nI_clamp (by omega), nI_1]
              refine ⟨vp_in_nI (by omega) (by omega), ih (q + 1) (s :: t) _ b hcb (by have := hle q (by simp); omega) (fun v hv => hle v (List.mem_cons_of_mem _ hv)) (by show t.length + 1 + 1 ≤ n; omega) hs3.m13 (fun i hi => ?_) hQ⟩
              have hi : i < t.length + 1 + 1 := hi
              rw [ms_same]
              by_cases hit : i = t.length + 1
              · rw [hit, pk_us]
                have : t.length + 1 = (s :: t).reverse.length := by rw [List.length_reverse]; rfl
                rw [this, gl_last]
              · rw [pk_un hit, h13 i (by omega), gl_app (by rw [List.length_reverse]; show i < t.length + 1 + 1; omega), List.reverse_cons, gl_app (by rw [List.length_reverse]; show i < t.length + 1; omega), gl_app (by rw [List.length_reverse]; show i < t.length + 1; omega)]
            · rw [if_neg (by rintro (w | w); exact hgp w; cases w)] at hcb
              refine br_f hgp (br_n1 (fun w => by have := (nI_eq (a := t.length + 1 + 1) (b := 0) (by omega) (by omega)).mp w; omega) ?_)
              rw [hp_f29_16, hp_a43, nI_clamp (by omega), hp13]
              refine ⟨vp_in_nI (by omega) (by omega), ?_⟩
              rw [hp_w43, nI_clamp (by omega), nI_1]
              refine ⟨vp_in_nI (by omega) (by omega), ih (p + 1) (q :: s :: t) _ b hcb (by omega) hle hln hs3.m13 (fun i hi => ?_) hQ⟩
              have hi : i < t.length + 1 + 1 + 1 := hi
              rw [ms_same]
              by_cases hit : i = t.length + 1 + 1
              · rw [hit, pk_us]
                rw [show t.length + 1 + 1 = (q :: s :: t).reverse.length from (by rw [List.length_reverse]; rfl), gl_last]
              · rw [pk_un hit, h13 i (by omega), gl_app (by rw [List.length_reverse]; show i < t.length + 1 + 1; omega), gl_app (by rw [List.length_reverse]; show i < t.length + 1 + 1; omega)]
          · refine br_n2 (bI_f ha) ?_
            have hyes : p ≤ g ∧ (alk false (t.length + 1 + 1 + 1) (gl ((q :: s :: t).reverse ++ [p]))).isSome = false := ⟨by omega, Bool.not_eq_true _ ▸ ha⟩
            rw [if_pos hyes] at hcb
            generalize fA m3 (alk false (t.length + 1 + 1 + 1) (gl ((q :: s :: t).reverse ++ [p]))) = m4 at hs3 h13 ⊢
            have hp13 : m4 13 (t.length + 1 + 1) = nI p := by
              rw [h13 (t.length + 1 + 1) (by omega)]
              rw [show t.length + 1 + 1 = (q :: s :: t).reverse.length from hl0.symm, gl_last]
            rw [nI_sub1 (show 1 ≤ n by omega) (by omega), nI_eq (show t.length + 1 + 1 < 2 ^ 31 by omega) (by omega)]
            by_cases hend : t.length + 1 + 1 + 1 = n
            · have hend2 : t.length + 1 + 1 + 1 = n := hend
              rw [if_pos hend2] at hcb
              cases hcb
              exact br_n2 (by omega) (hQ _ hs3)
            · have hend2 : ¬ t.length + 1 + 1 + 1 = n := hend
              rw [if_neg hend2] at hcb
              refine br_n1 (by omega) ?_
              rw [hp_f29_16, hp_f29_16, nI_1, nI_sub1 (by omega) (by omega), Nat.add_sub_cancel, hp_a43, nI_clamp (show t.length + 1 + 1 < 2 ^ 31 by omega), hp13]
              refine ⟨vp_in_nI (by omega) (by omega), ?_⟩
              rw [hp_w43, nI_clamp (show t.length + 1 + 1 + 1 < 2 ^ 31 by omega), nI_1]
              refine ⟨vp_in_nI (by omega) (by omega), ih (p + 1) (p :: (q :: s :: t)) _ b hcb (by omega) (fun v hv => ?_) (by show t.length + 1 + 1 + 1 + 1 ≤ n; omega) hs3.m13 (fun i hi => ?_) hQ⟩
              · rcases List.mem_cons.mp hv with rfl | hv
                · exact hyes.1
                · exact hle v hv
              · have hi : i < t.length + 1 + 1 + 1 + 1 := hi
                rw [hrev, ms_same]
                have hl1 : ((q :: s :: t).reverse ++ [p]).length = t.length + 1 + 1 + 1 := by rw [List.length_append, hl0]; rfl
                by_cases hit : i = t.length + 1 + 1 + 1
                · rw [hit, pk_us]
                  rw [show t.length + 1 + 1 + 1 = ((q :: s :: t).reverse ++ [p]).length from hl1.symm, gl_last]
                · rw [pk_un hit, h13 i (by omega)]
                  exact congrArg nI (gl_app (l := (q :: s :: t).reverse ++ [p]) (c := p + 1) (show i < ((q :: s :: t).reverse ++ [p]).length by omega)).symm
theorem S_m_canBe {g : Nat} {b : Bool} {m1 : Nat → Nat → Int32} (h1 : 1 ≤ n) (h6 : n ≤ 6) (hg : g ≤ 17) (hcb : cb n g 5000 [0] = some b) (hs : SD m m1) : ∃ m2, lk_ev X (d + 4) 166 [.ref 29, .int (nI n), .int (nI g)] (hp x S L m1 dyn) (some (.int (oI b))) (hp x S L m2 dyn) ∧ SD m m2 := by
  have main : lk_wx X (d + 4) 166 [.ref 29, .int (nI n), .int (nI g)] (hp x S L m1 dyn) (fun v h' => ∃ m2, v = some (.int (oI b)) ∧ h' = hp x S L m2 dyn ∧ SD m m2) := by
    refine E_m_canBe ?_
    rw [hp_f29_16, hp_w43]
    refine ⟨vp_in_nI (n := 0) (by omega) (by omega), ?_⟩
    refine cb_sim (d := d) (r := []) h6 hg 5000 0 _ b hcb (by omega) (fun v hv => by cases hv) h1 hs.m13 (fun i hi => ?_) (fun m2 w => ⟨m2, rfl, rfl, w⟩)
    have : i = 0 := by
      have : i < 0 + 1 := hi
      omega
    subst this
    rw [ms_same]
    exact pk_us
  obtain ⟨v, h', ev, m2, rfl, rfl, e⟩ := main.ex
  exact ⟨m2, ev, e⟩
theorem cb_all (h1 : 1 ≤ n) (h6 : n ≤ 6) : (∀ g, g < sho n → cb n g 5000 [0] = some false) ∧ cb n (sho n) 5000 [0] = some true := by
  match n, h1, h6 with
  | 1, _, _ => exact ⟨fun g hg => absurd hg (by show ¬ g < 0; omega), cb_1⟩
  | 2, _, _ => exact cb_2
  | 3, _, _ => exact cb_3
  | 4, _, _ => exact cb_4
  | 5, _, _ => exact cb_5
  | 6, _, _ =>
    refine ⟨fun g hg => ?_, cb_6_17⟩
    have hg : g < 17 := hg
    match g, hg with
    | 0, _ => exact cb_6_0
    | 1, _ => exact cb_6_1
    | 2, _ => exact cb_6_2
    | 3, _ => exact cb_6_3
    | 4, _ => exact cb_6_4
    | 5, _ => exact cb_6_5
    | 6, _ => exact cb_6_6
    | 7, _ => exact cb_6_7
    | 8, _ => exact cb_6_8
    | 9, _ => exact cb_6_9
    | 10, _ => exact cb_6_10
    | 11, _ => exact cb_6_11
    | 12, _ => exact cb_6_12
    | 13, _ => exact cb_6_13
    | 14, _ => exact cb_6_14
    | 15, _ => exact cb_6_15
    | 16, _ => exact cb_6_16
    | g + 17, hg => exact absurd hg (by omega)
theorem m_short_loop (h1 : 1 ≤ n) (h6 : n ≤ 6) {Q : Option Value → lk_H → Prop} (hQ : ∀ m2, SD m m2 → Q (some (.int (nI (sho n)))) (hp x S L (ms m2 12 n (nI (sho n))) dyn)) : ∀ (u g : Nat) (m1 : Nat → Nat → Int32), sho n - g = u → g ≤ sho n → SD m m1 → lk_wp X (d + 5) 167 40 [.ref 29, .int (nI n), .int (nI g)] [] (hp x S L m1 dyn) Q := by
  have hs17 := sho_le n h6
  have hcb := cb_all h1 h6
  intro u
  induction u with
  | zero =>
    intro g m1 hu hg hs
    have hgs : g = sho n := by omega
    subst hgs
    obtain ⟨m2, ev, e⟩ := S_m_canBe (X := X) (d := d) (x := x) (S := S) (L := L) (dyn := dyn) h1 h6 hs17 hcb.2 hs
    refine F_m_shortest_40 ?_
    rw [hp_v29, ev.iffi]
    refine br_n1 (by decide) ?_
    rw [hp_f29_15, hp_w42, nI_clamp (by omega)]
    refine ⟨vp_in_nI (by omega) (by omega), ?_⟩
    rw [hp_f29_15, hp_a42, nI_clamp (by omega), ms_same, pk_us]
    exact ⟨vp_in_nI (by omega) (by omega), hQ m2 e⟩
  | succ u ih =>
    intro g m1 hu hg hs
    obtain ⟨m2, ev, e⟩ := S_m_canBe (X := X) (d := d) (x := x) (S := S) (L := L) (dyn := dyn) h1 h6 (show g ≤ 17 by omega) (hcb.1 g (by omega)) hs
    refine F_m_shortest_40 ?_
    rw [hp_v29, ev.iffi, nI_1]
    exact br_n2 rfl (ih (g + 1) m2 (by omega) (by omega) e)
theorem T_shortest (h : Rel x S L m dyn) (a : Int32) : TE X (d + 9) 91 167 [.int a] x S L m dyn := by
  have e1 : (1 : Int32).toInt = 1 := rfl
  have e6 : (6 : Int32).toInt = 6 := rfl
  by_cases hn : 1 ≤ a.toInt ∧ a.toInt ≤ 6
  · obtain ⟨nn, rfl, hn1, -⟩ := i32_nat (v := a) (by omega)
    have h1 : 1 ≤ nn := by omega
    have h6 : nn ≤ 6 := by omega
    have hR := h
    obtain ⟨r1, r2, r3, r4, r5⟩ := h
    obtain ⟨x', ev, hx, hRR⟩ := C_least (X := X) (d := d) (S := S) (L := L) (dyn := dyn) h1 h6 r5
    have hRx : Rel x' S L m dyn := ⟨r1.congr (fun c hc => hx c (by omega) (by omega) (by omega) (by omega)) rfl rfl rfl, r2.congr (by rw [hx 0 (by decide) (by decide) (by decide) (by decide)]; exact r2.1) (hx 1 (by decide) (by decide) (by decide) (by decide)) (hx 2 (by decide) (by decide) (by decide) (by decide)) rfl rfl, r3, r4, hRR⟩
    obtain ⟨q1, q2, q3, K, hK, hK2, hK3⟩ := hRR
    have main : ∃ m', lk_ev X (d + 9) 167 [.ref 29, .int (nI nn)] (hp x' S L m dyn) (some (.int (nI (sho nn)))) (hp x' S L m' dyn) ∧ Rel x' S L m' dyn := by
      by_cases hbit : K / 2 ^ nn % 2 = 1
      · refine ⟨m, E_m_shortest ?_, hRx⟩
        rw [S_m_in.iffi, i64_of]
        refine br_n1 (bI_t hn) ?_
        rw [hp_f29_14, hK2, bit_at (by omega) (by omega), hbit]
        refine br_n1 (by decide) ?_
        rw [hp_f29_15, hp_a42, nI_clamp (by omega), hK3 nn h1 h6 hbit]
        exact ⟨vp_in_nI (by omega) (by omega), rfl, rfl⟩
      · have hb0 : K / 2 ^ nn % 2 = 0 := by omega
        have main : lk_wx X (d + 9) 167 [.ref 29, .int (nI nn)] (hp x' S L m dyn) (fun v h' => ∃ m2, v = some (.int (nI (sho nn))) ∧ h' = hp x' S L (ms m2 12 nn (nI (sho nn))) dyn ∧ SD (ms m 16 0 (nI (K ||| 2 ^ nn))) m2) := by
          refine E_m_shortest ?_
          rw [S_m_in.iffi, i64_of]
          refine br_n1 (bI_t hn) ?_
          rw [hp_f29_14, hK2, bit_at (by omega) (by omega), hb0]
          refine br_n2 rfl ?_
          rw [hp_f29_14, hK2, bit_or (by omega), hp_p29_14]
          exact m_short_loop (d := d + 4) (g := 0) h1 h6 (fun m2 w => ⟨m2, rfl, rfl, w⟩) (sho nn) _ rfl (Nat.zero_le _) SD.rf
        obtain ⟨v, h', ev2, m2, rfl, rfl, hs⟩ := main.ex
        refine ⟨_, ev2, ?_⟩
        have hR2 : Rel x' S L (ms m 16 0 (nI K)) dyn := by
          have : ms m 16 0 (nI K) = m := by
            funext c
            by_cases hc : c = 16
            · rw [hc, ms_same]
              funext r
              by_cases hr : r = 0
              · rw [hr, pk_us, hK2]
              · rw [pk_un hr]
            · rw [ms_ne hc]
          rw [this]
          exact hRx
        obtain ⟨s1, s2, s3⟩ := hs
        have e : ∀ c, c ≤ 3 ∨ c = 7 ∨ c = 10 ∨ c = 11 ∨ c = 14 ∨ c = 15 → ms m2 12 nn (nI (sho nn)) c = m c := fun c hc => by
          rw [ms_ne (by omega), s3 c (by omega) (by omega) (by omega) (by omega) (by omega) (by omega), ms_ne (by omega)]
        obtain ⟨t1, t2, t3, t4, -⟩ := hRx
        refine ⟨t1.congr (fun _ _ => rfl) (e 0 (by omega)) (e 1 (by omega)) (e 2 (by omega)), t2.congr (by rw [e 14 (by omega)]; exact t2.1) rfl rfl (e 15 (by omega)) (e 7 (by omega)), t3.congr (fun _ _ q => q) (fun p q => ?_) (fun p q => ?_) (fun r q => ?_), t4.congr (fun _ _ q => q) (e 10 (by omega)) (e 11 (by omega)), q1, q2, q3, K ||| 2 ^ nn, ?_, ?_, fun n' h1' h6' hb' => ?_⟩
        · rw [ms_ne (by decide), (s1 p q).1, ms_ne (by decide)]
        · rw [ms_ne (by decide), (s1 p q).2, ms_ne (by decide)]
        · rw [ms_ne (by decide), s2 r q, ms_ne (by decide)]
        · exact Nat.or_lt_two_pow (n := 7) hK (Nat.pow_lt_pow_right (by decide) (by omega))
        · rw [ms_ne (by decide), s3 16 (by decide) (by decide) (by decide) (by decide) (by decide) (by decide), ms_same, pk_us]
        · rw [ms_same]
          by_cases hn' : n' = nn
          · rw [hn', pk_us]
          · rw [pk_un hn', s3 12 (by decide) (by decide) (by decide) (by decide) (by decide) (by decide), ms_ne (by decide)]
            refine hK3 n' h1' h6' ?_
            have : (K ||| 2 ^ nn).testBit n' = true := by rw [Nat.testBit_eq_decide_div_mod_eq, hb']; rfl
            rw [Nat.testBit_or, Nat.testBit_two_pow, decide_eq_false (fun w => hn' w.symm), Bool.or_false, Nat.testBit_eq_decide_div_mod_eq, decide_eq_true_iff] at this
            exact this
    obtain ⟨m', evm, hRm⟩ := main
    refine TE.mk0 (r := nI (sho nn)) (E_x_shortest ?_) evm hRm
    refine br_f (by rw [i32_lt]; omega) (br_t (by rw [i32_le]; omega) ?_)
    rw [hp_f0_5, hp_v9, ev.iffi]
    exact ⟨rfl, rfl⟩
  · refine TE.mk0 (r := -1000001) (E_x_shortest ?_) (E_m_shortest ?_) h
    · by_cases hlo : a.toInt < 1
      · exact br_t (by rw [i32_lt]; omega) ⟨rfl, rfl⟩
      · exact br_f (by rw [i32_lt]; omega) (br_f (by rw [i32_le]; omega) ⟨rfl, rfl⟩)
    · rw [S_m_in.iffi, i64_of]
      exact br_n2 (bI_f hn) ⟨rfl, rfl⟩
end SHORT
