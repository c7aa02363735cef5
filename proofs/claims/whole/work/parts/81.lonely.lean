/-! lonely: the class's lists kept, the reference's counts -/
theorem cnt_pos {n : Nat} (h1 : 1 ≤ n) (h7 : n ≤ 7) : 1 ≤ cnt n := by
  have key : ∀ n : Nat, n < 6 → 1 ≤ n → 1 ≤ cnt n := by decide +kernel
  match n, h1, h7 with
  | 1, _, _ => exact key 1 (by decide) (by decide)
  | 2, _, _ => exact key 2 (by decide) (by decide)
  | 3, _, _ => exact key 3 (by decide) (by decide)
  | 4, _, _ => exact key 4 (by decide) (by decide)
  | 5, _, _ => exact key 5 (by decide) (by decide)
  | 6, _, _ =>
    unfold cnt
    rw [rem_6.2]
    decide
  | 7, _, _ =>
    rw [cnt_7]
    decide
theorem cnt2_le {n : Nat} (h1 : 1 ≤ n) (h7 : n ≤ 7) : cnt2 n ≤ 200 := Nat.le_trans (List.length_filter_le _ _) (cnt_le h1 h7)
theorem getD_at {l : List (List Nat)} {i : Nat} (h : i < l.length) : l[i]? = some (l.getD i []) := by
  rw [List.getD_eq_getElem?_getD, List.getElem?_eq_getElem h]
  rfl
/-- the first digit that differs decides -/
theorem codF_step {g g' : Nat → Nat} {k : Nat} (h : codF g' k < codF g k) : ∀ u, (∀ i, i < k + u → g' i < 8) → codF g' (k + u) < codF g (k + u) := by
  intro u
  induction u with
  | zero => intro _; exact h
  | succ u ih =>
    intro h8
    have h1 := ih (fun i hi => h8 i (by omega))
    have h2 := h8 (k + u) (by omega)
    show 8 * codF g' (k + u) + g' (k + u) < 8 * codF g (k + u) + g (k + u)
    omega
theorem codF_dec {g g' : Nat → Nat} {k n : Nat} (hk : k < n) (he : ∀ i, i < k → g' i = g i) (h8 : ∀ i, i < n → g i < 8 ∧ g' i < 8) (hne : ¬ g' k = g k) : codF g' n < codF g n ↔ g' k < g k := by
  have e := codF_congr k he
  have e1 : codF g' (k + 1) = 8 * codF g' k + g' k := rfl
  have e2 : codF g (k + 1) = 8 * codF g k + g k := rfl
  constructor
  · intro w
    apply Classical.byContradiction
    intro q
    have := codF_step (g := g') (g' := g) (k := k + 1) (by omega) (n - (k + 1)) (fun i hi => (h8 i (by omega)).1)
    rw [show k + 1 + (n - (k + 1)) = n by omega] at this
    omega
  · intro w
    have := codF_step (g := g) (g' := g') (k := k + 1) (by omega) (n - (k + 1)) (fun i hi => (h8 i (by omega)).2)
    rw [show k + 1 + (n - (k + 1)) = n by omega] at this
    exact this
/-- the reference's counts of n -/
def Bn (m : Nat → Nat → Int32) (n c c2 : Nat) : Nat → Nat → Int32 := ms (ms m 10 n (nI c)) 11 n (nI c2)
theorem Bn_10 {m : Nat → Nat → Int32} {n c c2 : Nat} : Bn m n c c2 10 = upd (m 10) n (nI c) := by
  unfold Bn
  rw [ms_ne (by decide), ms_same]
theorem Bn_11 {m : Nat → Nat → Int32} {n c c2 : Nat} : Bn m n c c2 11 = upd (m 11) n (nI c2) := by
  unfold Bn
  rw [ms_same, ms_ne (by decide)]
theorem Bn_ne {m : Nat → Nat → Int32} {n c c2 q : Nat} (h1 : ¬ q = 10) (h2 : ¬ q = 11) : Bn m n c c2 q = m q := by
  unfold Bn
  rw [ms_ne h2, ms_ne h1]
theorem upd_upd (f : Nat → Int32) (n : Nat) (a b : Int32) : upd (upd f n a) n b = upd f n b := by
  funext q
  by_cases h : q = n
  · rw [h, pk_us, pk_us]
  · rw [pk_un h, pk_un h, pk_un h]
theorem SC.bn {m m1 : Nat → Nat → Int32} {n c c2 c' c2' : Nat} (h : SC (Bn m n c c2) m1) : SC (Bn m n c' c2') (ms (ms m1 10 n (nI c')) 11 n (nI c2')) := by
  obtain ⟨s1, s2, s3⟩ := h
  refine ⟨fun p hp => ?_, fun r hr => ?_, fun q h4 h5 h6 h8 h9 => ?_⟩
  · rw [ms_ne (by decide), ms_ne (by decide), ms_ne (by decide), ms_ne (by decide), Bn_ne (by decide) (by decide), Bn_ne (by decide) (by decide)]
    have := s1 p hp
    rw [Bn_ne (by decide) (by decide), Bn_ne (by decide) (by decide)] at this
    exact this
  · rw [ms_ne (by decide), ms_ne (by decide), Bn_ne (by decide) (by decide)]
    have := s2 r hr
    rw [Bn_ne (by decide) (by decide)] at this
    exact this
  · by_cases h11 : q = 11
    · subst h11
      rw [ms_same, ms_ne (by decide), Bn_11, s3 11 (by decide) (by decide) (by decide) (by decide) (by decide), Bn_11, upd_upd]
    · by_cases h10 : q = 10
      · subst h10
        rw [ms_ne (by decide), ms_same, Bn_10, s3 10 (by decide) (by decide) (by decide) (by decide) (by decide), Bn_10, upd_upd]
      · rw [ms_ne h11, ms_ne h10, Bn_ne h10 h11, s3 q h4 h5 h6 h8 h9, Bn_ne h10 h11]
theorem mth.cnts {m : Nat → Nat → Int32} {n : Nat} {g : Nat → Nat} {a : Nat} {u v : Int32} (h : mth m 10 n g) : mth (ms (ms m 10 a u) 11 a v) 10 n g := h.congr (by rw [ms_ne (by decide), ms_ne (by decide)]) (by rw [ms_ne (by decide), ms_ne (by decide)])
section LONELY
variable {X : lk_X} {d : Nat} {x : Nat → Nat → Int32} {S L : Nat → Option Nat} {m : Nat → Nat → Int32} {dyn : lk_H} {n : Nat}
theorem C_lonelyList (h : Rel x S L m dyn) (h1 : 1 ≤ n) (h7 : n ≤ 7) : ∃ a L' l, lk_ev X (d + 6 + n) 105 [.ref 0, .int (nI n)] (hp x S L m dyn) (some (.ref (44 + a))) (hp x S L' m (dyn ++ l)) ∧ LL (dyn ++ l) a n ∧ Rel x S L' m (dyn ++ l) ∧ l.length ≤ 4 ∧ lk_sz l ≤ 300 := by
  obtain ⟨r1, r2, r3, r4, r5⟩ := h
  rcases (r4 n h1 h7).1 with hL | ⟨a, hL, hLL⟩
  · obtain ⟨f1, f2, f3, ev, hf⟩ := S_ll_searched (X := X) (d := d) (x := x) (S := S) (L := L) (m := m) (dyn := dyn) h1 h7
    have hll : LL (LH dyn n f1 f2 f3 (nI (cnt n)) (nI (cnt2 n))) dyn.length n := ⟨dyn.length + 2, dyn.length + 3, dyn.length + 1, f1, f3, app_k (k := 0), app_k (k := 2), app_k (k := 1), fun i hi => hf i _ (getD_at hi)⟩
    have hd : ∀ (k : Nat) (v : va_E), dyn[k]? = some v → (LH dyn n f1 f2 f3 (nI (cnt n)) (nI (cnt2 n)))[k]? = some v := fun k v q => by
      unfold LH
      rw [List.getElem?_append_left (List.getElem?_eq_some_iff.mp q).1]
      exact q
    refine ⟨dyn.length, va_up L n (some (44 + dyn.length)), lq dyn.length n f1 f2 f3 (nI (cnt n)) (nI (cnt2 n)), ?_, hll, ⟨r1, r2, r3.congr hd (fun _ _ => rfl) (fun _ _ => rfl) (fun _ _ => rfl), ?_, r5⟩, Nat.le_of_ble_eq_true rfl, ?_⟩
    · rw [show d + 6 + n = d + 5 + n + 1 by omega]
      refine E_x_lonelyList ?_
      rw [hp_f0_4, hp_ra8, nI_clamp (by omega)]
      refine ⟨vp_in_nI (by omega) (by omega), fun _ => ?_, fun a w => (by rw [hL] at w; cases w)⟩
      rw [hp_f0_4, ev.iffr, hp_rs8 ll_0, nI_clamp (by omega)]
      refine ⟨vp_in_nI (by omega) (by omega), ?_⟩
      rw [hp_f0_4, hp_ra8, nI_clamp (by omega)]
      refine ⟨vp_in_nI (by omega) (by omega), fun w => ?_, fun a w => ?_⟩
      · rw [va_up_self] at w
        cases w
      · rw [va_up_self] at w
        cases w
        exact ⟨rfl, rfl⟩
    · intro n' h1' h7'
      by_cases hn : n' = n
      · subst hn
        exact ⟨Or.inr ⟨dyn.length, va_up_self _ _ _, hll⟩, (r4 n' h1' h7').2⟩
      · rw [va_up_ne _ _ hn]
        exact r4.congr hd rfl rfl n' h1' h7'
    · unfold lq
      rw [sz_cons, sz_cons, sz_cons, sz_cons]
      show 5 + (200 + (n + (n + 0))) ≤ 300
      omega
  · refine ⟨a, L, [], ?_, ?_, ?_, by decide, by decide⟩
    · rw [List.append_nil, show d + 6 + n = d + 5 + n + 1 by omega]
      refine E_x_lonelyList ?_
      rw [hp_f0_4, hp_ra8, nI_clamp (by omega)]
      refine ⟨vp_in_nI (by omega) (by omega), fun w => (by rw [hL] at w; cases w), fun a' w => ?_⟩
      rw [hp_f0_4, hp_ra8, nI_clamp (by omega)]
      refine ⟨vp_in_nI (by omega) (by omega), fun w => (by rw [hL] at w; cases w), fun a'' w2 => ?_⟩
      rw [hL] at w2
      cases w2
      exact ⟨rfl, rfl⟩
    · rw [List.append_nil]
      exact hLL
    · rw [List.append_nil]
      exact ⟨r1, r2, r3, r4, r5⟩
theorem m_least_k {g : Nat → Nat} {t : Nat} {m1 : Nat → Nat → Int32} (ho : OR n g) (h7 : n ≤ 7) (hm : mth m1 10 n g) (ht1 : 1 ≤ t) (ht : t < 8) {Q : Option Value → lk_H → Prop} (h0 : codF (tnd n t g) n < codF g n → Q (some (.int 0)) (hp x S L m1 dyn)) (h1 : ¬ codF (tnd n t g) n < codF g n → lk_wp X (d + 4) 164 2 [.ref 29, .int (nI (t + 1)), .retAddr 0, .retAddr 0] [] (hp x S L m1 dyn) Q) : ∀ (u k : Nat), n - k = u → k ≤ n → (∀ i, i < k → tnd n t g i = g i) → lk_wp X (d + 4) 164 12 [.ref 29, .int (nI t), .int 0, .int (nI k)] [] (hp x S L m1 dyn) Q := by
  have hto := tnd_or (t := t) ho
  intro u
  induction u with
  | zero =>
    intro k hu hk he
    refine F_m_isLeast_12 ?_
    rw [hp_f29_5, hp_a35, show (10 : Int32).toNatClampNeg = 10 from rfl, hm.2.2.1, nI_1]
    refine ⟨vp_in_nI (n := 10) (by omega) (by omega), br_t (nI_le (by omega) (by omega)) (br_t (by decide) (h1 ?_))⟩
    rw [codF_congr n (fun i hi => he i (by omega))]
    exact Nat.lt_irrefl _
  | succ u ih =>
    intro k hu hk he
    have hkn : k < n := by omega
    have g1 := ho.2.2.1 k hkn
    have g2 := hto.2.2.1 k hkn
    refine F_m_isLeast_12 ?_
    rw [hp_f29_5, hp_a35, show (10 : Int32).toNatClampNeg = 10 from rfl, hm.2.2.1]
    refine ⟨vp_in_nI (n := 10) (by omega) (by omega), br_f (nI_ge hkn (by omega)) (br_n2 rfl ?_)⟩
    have evt : lk_ev X (d + 3) 139 [.ref 29, .int 10, .int (nI t), .int (nI k)] (hp x S L m1 dyn) (some (.int (nI (tnd n t g k)))) (hp x S L m1 dyn) := S_m_turned (p := 10) hm ho ht hkn
    rw [hp_v29, evt.iffi, hp_v29, (S_m_at2 hm hkn).iffi, nI_1]
    by_cases hq : tnd n t g k = g k
    · rw [hq, nI_sub (Nat.le_refl _) (by omega), Nat.sub_self]
      refine ih (k + 1) (by omega) (by omega) (fun i hi => ?_)
      by_cases hik : i = k
      · rw [hik, hq]
      · exact he i (by omega)
    · have hdec := codF_dec (g := g) (g' := tnd n t g) hkn he (fun i hi => ⟨by have := ho.2.2.1 i hi; omega, by have := hto.2.2.1 i hi; omega⟩) hq
      have hsub : (nI (tnd n t g k) - nI (g k)).toInt = (tnd n t g k : Int) - g k := pk_sub_toInt (by omega) (by omega)
      have e0 : (0 : Int32).toInt = 0 := rfl
      have fin : (0 ≤ nI (tnd n t g k) - nI (g k) → lk_wp X (d + 4) 164 2 [.ref 29, .int (nI (t + 1)), .retAddr 0, .retAddr 0] [] (hp x S L m1 dyn) Q) ∧ (¬ 0 ≤ nI (tnd n t g k) - nI (g k) → Q (some (.int 0)) (hp x S L m1 dyn)) := by
        rw [i32_le]
        exact ⟨fun w => h1 (fun w2 => by have := hdec.mp w2; omega), fun w => h0 (hdec.mpr (by omega))⟩
      refine F_m_isLeast_12 ?_
      rw [hp_f29_5, hp_a35, show (10 : Int32).toNatClampNeg = 10 from rfl, hm.2.2.1, nI_1]
      refine ⟨vp_in_nI (n := 10) (by omega) (by omega), ?_⟩
      by_cases hk1 : n ≤ k + 1
      · exact br_t (nI_le (by omega) (by omega)) fin
      · refine br_f (nI_ge (by omega) (by omega)) (br_n1 (fun w => ?_) fin)
        rw [i32_eq] at w
        omega
theorem S_m_isLeast {l : List Nat} {m1 : Nat → Nat → Int32} (hl : l.length = n) (ho : OR n (gl l)) (h7 : n ≤ 7) (hm : mth m1 10 n (gl l)) : lk_ev X (d + 4) 164 [.ref 29] (hp x S L m1 dyn) (some (.int (oI (frst n l)))) (hp x S L m1 dyn) := by
  have hfr : frst n l = !(an (fun t => decide (codF (tnd n t (gl l)) n < codF (gl l) n)) 1 7) := by
    unfold frst
    rw [cod_eq l, hl]
    congr 2
    funext t
    rw [cod_map]
  refine E_m_isLeast ?_
  rw [hfr]
  have loop : ∀ (u t : Nat), 8 - t = u → 1 ≤ t → t ≤ 8 → an (fun t => decide (codF (tnd n t (gl l)) n < codF (gl l) n)) t u = an (fun t => decide (codF (tnd n t (gl l)) n < codF (gl l) n)) 1 7 → lk_wp X (d + 4) 164 2 [.ref 29, .int (nI t), .retAddr 0, .retAddr 0] [] (hp x S L m1 dyn) (fun w g => w = some (.int (oI (!(an (fun t => decide (codF (tnd n t (gl l)) n < codF (gl l) n)) 1 7)))) ∧ g = hp x S L m1 dyn) := by
    intro u
    induction u with
    | zero =>
      intro t hu h1 ht hf
      rw [← hf]
      exact F_m_isLeast_2 (br_t (nI_le (a := 8) (by omega) (by omega)) ⟨rfl, rfl⟩)
    | succ u ih =>
      intro t hu h1 ht hf
      refine F_m_isLeast_2 (br_f (nI_ge (b := 8) (by omega) (by omega)) ?_)
      rw [an] at hf
      refine m_least_k (d := d) (k := 0) ho h7 hm h1 (by omega) (fun w => ?_) (fun w => ?_) n rfl (Nat.zero_le _) (fun i hi => by omega)
      · rw [decide_eq_true w, Bool.true_or] at hf
        rw [← hf]
        exact ⟨rfl, rfl⟩
      · rw [decide_eq_false w, Bool.false_or] at hf
        exact ih (t + 1) (by omega) (by omega) (by omega) hf
  exact loop 7 1 rfl (by decide) (by decide) rfl
theorem m_lonely_loop {w : Nat} (h1 : 1 ≤ n) (h7 : n ≤ 7) (hw : w < 2) {Q : Option Value → lk_H → Prop} (hQ : ∀ m2, SC (Bn m n (cnt n) (cnt2 n)) m2 → Q (some (.int (if w = 0 then nI (cnt n) else nI (cnt2 n)))) (hp x S L m2 dyn)) : ∀ (u j c c2 : Nat) (m1 : Nat → Nat → Int32), fct n - j = u + 1 → SC (Bn m n c c2) m1 → mth m1 10 n (gl (unk n j)) → c + (rem n j (u + 1)).length = cnt n → c2 + ((rem n j (u + 1)).filter (frst n)).length = cnt2 n → lk_wp X (d + 5) 165 41 [.ref 29, .int (nI n), .int (nI w), .int 1] [] (hp x S L m1 dyn) Q := by
  have hc200 := cnt_le h1 h7
  have hend : ∀ m2, SC (Bn m n (cnt n) (cnt2 n)) m2 → lk_wp X (d + 5) 165 41 [.ref 29, .int (nI n), .int (nI w), .int 0] [] (hp x S L m2 dyn) Q := by
    intro m2 hs
    have e10 : m2 10 n = nI (cnt n) := by rw [hs.2.2 10 (by decide) (by decide) (by decide) (by decide) (by decide), Bn_10, pk_us]
    have e11 : m2 11 n = nI (cnt2 n) := by rw [hs.2.2 11 (by decide) (by decide) (by decide) (by decide) (by decide), Bn_11, pk_us]
    refine F_m_lonely_41 (br_t rfl ?_)
    have hq := hQ m2 hs
    match w, hw, hq with
    | 0, _, hq =>
      refine br_n2 rfl ?_
      rw [hp_f29_12, hp_a40, nI_clamp (by omega), e10]
      exact ⟨vp_in_nI (by omega) (by omega), hq⟩
    | 1, _, hq =>
      refine br_n1 (by decide) ?_
      rw [hp_f29_13, hp_a41, nI_clamp (by omega), e11]
      exact ⟨vp_in_nI (by omega) (by omega), hq⟩
  intro u
  induction u with
  | zero =>
    intro j c c2 m1 hu hs hm hc hc2
    have hj : j < fct n := by omega
    have ho := unk_or h1 h7 j hj
    refine F_m_lonely_41 (br_f (by decide) ?_)
    rw [hp_v29, (S_m_findAlike2 hm).iffi]
    have hm2 : mth (fA m1 (alk true n (gl (unk n j)))) 10 n (gl (unk n j)) := hm.congr (fA_ne (by decide)) (fA_ne (by decide))
    have hs2 := hs.fA (v := alk true n (gl (unk n j)))
    have fin : ∀ (c c2 : Nat) (m3 : Nat → Nat → Int32), SC (Bn m n c c2) m3 → mth m3 10 n (gl (unk n j)) → c = cnt n → c2 = cnt2 n → lk_vc (hp x S L m3 dyn) 29 [(11, 143)] (fun k9 => lk_wxi X (d + 4) k9 [.ref 29] (hp x S L m3 dyn) (fun r8 h7 => lk_wp X (d + 5) 165 41 [.ref 29, .int (nI n), .int (nI w), .int r8] [] h7 Q)) := by
      intro c c2 m3 hs3 hm3 hc3 hc4
      rcases m_on (X := X) (d := d + 2) (x := x) (S := S) (L := L) (dyn := dyn) h1 h7 hj hm3 hs3 with ⟨-, ev⟩ | ⟨q, -⟩
      · rw [hp_v29, ev.iffi]
        rw [hc3, hc4] at hs3
        exact hend m3 hs3
      · omega
    by_cases ha : (alk true n (gl (unk n j))).isSome = true
    · have hf : ¬ lonF n (unk n j) = true := fun w => by
        rw [(lonF_eq ho).mp w] at ha
        cases ha
      rw [rem_succ, if_neg hf] at hc hc2
      exact br_n1 (bI_t ha) (fin c c2 _ hs2 hm2 (by have : (rem n (j + 1) 0).length = 0 := rfl; omega) (by have : ((rem n (j + 1) 0).filter (frst n)).length = 0 := rfl; omega))
    · have hf : lonF n (unk n j) = true := (lonF_eq ho).mpr (by
        cases hq : alk true n (gl (unk n j)) with
        | none => rfl
        | some v => rw [hq] at ha; exact absurd rfl ha)
      rw [rem_succ, if_pos hf, List.length_cons] at hc
      rw [rem_succ, if_pos hf, List.filter_cons] at hc2
      refine br_n2 (bI_f ha) ?_
      have e10 : fA m1 (alk true n (gl (unk n j))) 10 n = nI c := by rw [hs2.2.2 10 (by decide) (by decide) (by decide) (by decide) (by decide), Bn_10, pk_us]
      have e11 : fA m1 (alk true n (gl (unk n j))) 11 n = nI c2 := by rw [hs2.2.2 11 (by decide) (by decide) (by decide) (by decide) (by decide), Bn_11, pk_us]
      rw [hp_f29_12, hp_a40, nI_clamp (by omega), e10]
      refine ⟨vp_in_nI (by omega) (by omega), ?_⟩
      rw [hp_w40, nI_clamp (by omega), nI_1]
      refine ⟨vp_in_nI (by omega) (by omega), ?_⟩
      rw [hp_f29_13, hp_a41, nI_clamp (by omega), ms_ne (by decide), e11]
      refine ⟨vp_in_nI (by omega) (by omega), ?_⟩
      have hm3 : mth (ms (fA m1 (alk true n (gl (unk n j)))) 10 n (nI (c + 1))) 10 n (gl (unk n j)) := hm2.congr (ms_ne (by decide)) (ms_ne (by decide))
      rw [hp_v29, (S_m_isLeast (d := d) (l := unk n j) (unr_len _ _ _) ho h7 hm3).iffi]
      cases hfr : frst n (unk n j) with
      | false =>
        rw [hfr, if_neg (by decide)] at hc2
        refine br_t rfl ?_
        rw [hp_w41, nI_clamp (by omega), nI_zero_add]
        exact ⟨vp_in_nI (by omega) (by omega), fin (c + 1) c2 _ hs2.bn hm2.cnts (by have : (rem n (j + 1) 0).length = 0 := rfl; omega) (by have : ((rem n (j + 1) 0).filter (frst n)).length = 0 := rfl; omega)⟩
      | true =>
        rw [hfr, if_pos rfl, List.length_cons] at hc2
        refine br_f (by decide) ?_
        rw [hp_w41, nI_clamp (by omega), nI_1]
        exact ⟨vp_in_nI (by omega) (by omega), fin (c + 1) (c2 + 1) _ hs2.bn hm2.cnts (by have : (rem n (j + 1) 0).length = 0 := rfl; omega) (by have : ((rem n (j + 1) 0).filter (frst n)).length = 0 := rfl; omega)⟩
  | succ u ih =>
    intro j c c2 m1 hu hs hm hc hc2
    have hj : j < fct n := by omega
    have ho := unk_or h1 h7 j hj
    refine F_m_lonely_41 (br_f (by decide) ?_)
    rw [hp_v29, (S_m_findAlike2 hm).iffi]
    have hm2 : mth (fA m1 (alk true n (gl (unk n j)))) 10 n (gl (unk n j)) := hm.congr (fA_ne (by decide)) (fA_ne (by decide))
    have hs2 := hs.fA (v := alk true n (gl (unk n j)))
    have fin : ∀ (c c2 : Nat) (m3 : Nat → Nat → Int32), SC (Bn m n c c2) m3 → mth m3 10 n (gl (unk n j)) → c + (rem n (j + 1) (u + 1)).length = cnt n → c2 + ((rem n (j + 1) (u + 1)).filter (frst n)).length = cnt2 n → lk_vc (hp x S L m3 dyn) 29 [(11, 143)] (fun k9 => lk_wxi X (d + 4) k9 [.ref 29] (hp x S L m3 dyn) (fun r8 h7 => lk_wp X (d + 5) 165 41 [.ref 29, .int (nI n), .int (nI w), .int r8] [] h7 Q)) := by
      intro c c2 m3 hs3 hm3 hc3 hc4
      rcases m_on (X := X) (d := d + 2) (x := x) (S := S) (L := L) (dyn := dyn) h1 h7 hj hm3 hs3 with ⟨q, -⟩ | ⟨q, m4, ev, a1, a2⟩
      · omega
      · rw [hp_v29, ev.iffi]
        exact ih (j + 1) c c2 m4 (by omega) a1 a2 hc3 hc4
    by_cases ha : (alk true n (gl (unk n j))).isSome = true
    · have hf : ¬ lonF n (unk n j) = true := fun w => by
        rw [(lonF_eq ho).mp w] at ha
        cases ha
      rw [rem_succ, if_neg hf] at hc hc2
      exact br_n1 (bI_t ha) (fin c c2 _ hs2 hm2 hc hc2)
    · have hf : lonF n (unk n j) = true := (lonF_eq ho).mpr (by
        cases hq : alk true n (gl (unk n j)) with
        | none => rfl
        | some v => rw [hq] at ha; exact absurd rfl ha)
      rw [rem_succ, if_pos hf, List.length_cons] at hc
      rw [rem_succ, if_pos hf, List.filter_cons] at hc2
      refine br_n2 (bI_f ha) ?_
      have e10 : fA m1 (alk true n (gl (unk n j))) 10 n = nI c := by rw [hs2.2.2 10 (by decide) (by decide) (by decide) (by decide) (by decide), Bn_10, pk_us]
      have e11 : fA m1 (alk true n (gl (unk n j))) 11 n = nI c2 := by rw [hs2.2.2 11 (by decide) (by decide) (by decide) (by decide) (by decide), Bn_11, pk_us]
      rw [hp_f29_12, hp_a40, nI_clamp (by omega), e10]
      refine ⟨vp_in_nI (by omega) (by omega), ?_⟩
      rw [hp_w40, nI_clamp (by omega), nI_1]
      refine ⟨vp_in_nI (by omega) (by omega), ?_⟩
      rw [hp_f29_13, hp_a41, nI_clamp (by omega), ms_ne (by decide), e11]
      refine ⟨vp_in_nI (by omega) (by omega), ?_⟩
      have hm3 : mth (ms (fA m1 (alk true n (gl (unk n j)))) 10 n (nI (c + 1))) 10 n (gl (unk n j)) := hm2.congr (ms_ne (by decide)) (ms_ne (by decide))
      rw [hp_v29, (S_m_isLeast (d := d) (l := unk n j) (unr_len _ _ _) ho h7 hm3).iffi]
      cases hfr : frst n (unk n j) with
      | false =>
        rw [hfr, if_neg (by decide)] at hc2
        refine br_t rfl ?_
        rw [hp_w41, nI_clamp (by omega), nI_zero_add]
        exact ⟨vp_in_nI (by omega) (by omega), fin (c + 1) c2 _ hs2.bn hm2.cnts (by omega) hc2⟩
      | true =>
        rw [hfr, if_pos rfl, List.length_cons] at hc2
        refine br_f (by decide) ?_
        rw [hp_w41, nI_clamp (by omega), nI_1]
        exact ⟨vp_in_nI (by omega) (by omega), fin (c + 1) (c2 + 1) _ hs2.bn hm2.cnts (by omega) (by omega)⟩
theorem T_lonely (h : Rel x S L m dyn) (a w : Int32) : TE X (d + 14) 90 165 [.int a, .int w] x S L m dyn := by
  have e0 : (0 : Int32).toInt = 0 := rfl
  have e1 : (1 : Int32).toInt = 1 := rfl
  have e7 : (7 : Int32).toInt = 7 := rfl
  by_cases hn : 1 ≤ a.toInt ∧ a.toInt ≤ 7
  · by_cases hw : 0 ≤ w.toInt ∧ w.toInt ≤ 1
    · obtain ⟨nn, rfl, hn1, -⟩ := i32_nat (v := a) (by omega)
      obtain ⟨ww, rfl, hw1, -⟩ := i32_nat hw.1
      have h1 : 1 ≤ nn := by omega
      have h7 : nn ≤ 7 := by omega
      have hw2 : ww < 2 := by omega
      obtain ⟨a, L', l, ev, hLL, hR, hl1, hl2⟩ := C_lonelyList (X := X) (d := d + (7 - nn)) h h1 h7
      have ev : lk_ev X (d + 13) 105 [.ref 0, .int (nI nn)] (hp x S L m dyn) (some (.ref (44 + a))) (hp x S L' m (dyn ++ l)) := by
        rw [show d + (7 - nn) + 6 + nn = d + 13 by omega] at ev
        exact ev
      obtain ⟨b1, b2, b3, g1, g3, o1, o2, o3, o4⟩ := hLL
      have hobj : (hp x S L' m (dyn ++ l))[44 + a]? = some (.inr (1, [.ref (44 + b1), .ref (44 + b2), .ref (44 + b3), .int (nI (cnt nn)), .int (nI (cnt2 nn))])) := by
        rw [hp_dyn]
        exact o1
      have main : ∃ m', lk_ev X (d + 14) 165 [.ref 29, .int (nI nn), .int (nI ww)] (hp x S L' m (dyn ++ l)) (some (.int (if ww = 0 then nI (cnt nn) else nI (cnt2 nn)))) (hp x S L' m' (dyn ++ l)) ∧ Rel x S L' m' (dyn ++ l) := by
        rcases (hR.2.2.2.1 nn h1 h7).2 with ⟨z1, z2⟩ | ⟨z1, z2⟩
        · have main : lk_wx X (d + 14) 165 [.ref 29, .int (nI nn), .int (nI ww)] (hp x S L' m (dyn ++ l)) (fun v h' => ∃ m', v = some (.int (if ww = 0 then nI (cnt nn) else nI (cnt2 nn))) ∧ h' = hp x S L' m' (dyn ++ l) ∧ SC (Bn m nn (cnt nn) (cnt2 nn)) m') := by
            refine E_m_lonely ?_
            rw [S_m_in.iffi, i64_of]
            refine br_f (bI_t hn) ?_
            rw [S_m_in.iffi, i64_of]
            refine br_n1 (bI_t hw) ?_
            rw [hp_f29_12, hp_a40, nI_clamp (by omega), z1]
            refine ⟨vp_in_nI (by omega) (by omega), br_n2 rfl ?_⟩
            obtain ⟨m1, e1, e2, e3⟩ := S_m_first (X := X) (d := d + 11) (x := x) (S := S) (L := L') (m := m) (dyn := dyn ++ l) h1 h7
            rw [hp_v29, e1.iffv]
            have hb : Bn m nn 0 0 = m := by
              funext q
              by_cases h11 : q = 11
              · subst h11
                rw [Bn_11]
                funext r
                by_cases hr : r = nn
                · rw [hr, pk_us, z2]
                  rfl
                · rw [pk_un hr]
              · by_cases h10 : q = 10
                · subst h10
                  rw [Bn_10]
                  funext r
                  by_cases hr : r = nn
                  · rw [hr, pk_us, z1]
                    rfl
                  · rw [pk_un hr]
                · rw [Bn_ne h10 h11]
            have hfp : 1 ≤ fct nn := by
              have : ∀ n : Nat, n < 8 → 1 ≤ fct n := by decide
              exact this nn (by omega)
            refine m_lonely_loop (d := d + 9) (j := 0) (c := 0) (c2 := 0) (m := m) h1 h7 hw2 (fun m2 hs => ⟨m2, rfl, rfl, hs⟩) (fct nn - 1) m1 (by omega) (by rw [hb]; exact e2) e3 ?_ ?_
            · rw [show fct nn - 1 + 1 = fct nn by omega, rem_all h1 h7, Nat.zero_add]
              rfl
            · rw [show fct nn - 1 + 1 = fct nn by omega, rem_all h1 h7, Nat.zero_add]
              rfl
          obtain ⟨v, h', ev2, m', rfl, rfl, hs⟩ := main.ex
          refine ⟨m', ev2, SC.rel ?_ hs⟩
          obtain ⟨r1, r2, r3, r4, r5⟩ := hR
          refine ⟨r1.congr (fun _ _ => rfl) (Bn_ne (by decide) (by decide)) (Bn_ne (by decide) (by decide)) (Bn_ne (by decide) (by decide)), r2.congr (by rw [Bn_ne (by decide) (by decide)]; exact r2.1) rfl rfl (Bn_ne (by decide) (by decide)) (Bn_ne (by decide) (by decide)), r3.congr (fun _ _ q => q) (fun p _ => by rw [Bn_ne (by decide) (by decide)]) (fun p _ => by rw [Bn_ne (by decide) (by decide)]) (fun q _ => by rw [Bn_ne (by decide) (by decide)]), fun n' h1' h7' => ?_, r5.congr rfl rfl rfl (Bn_ne (by decide) (by decide)) (Bn_ne (by decide) (by decide))⟩
          refine ⟨(r4 n' h1' h7').1, ?_⟩
          rw [Bn_10, Bn_11]
          by_cases hn' : n' = nn
          · rw [hn', pk_us, pk_us]
            exact Or.inr ⟨rfl, rfl⟩
          · rw [pk_un hn', pk_un hn']
            exact (r4 n' h1' h7').2
        · refine ⟨m, E_m_lonely ?_, hR⟩
          rw [S_m_in.iffi, i64_of]
          refine br_f (bI_t hn) ?_
          rw [S_m_in.iffi, i64_of]
          refine br_n1 (bI_t hw) ?_
          have hcp := cnt_pos h1 h7
          have hcl := cnt_le h1 h7
          rw [hp_f29_12, hp_a40, nI_clamp (by omega), z1]
          refine ⟨vp_in_nI (by omega) (by omega), br_n1 (fun w => ?_) ?_⟩
          · have := (nI_eq (a := cnt nn) (b := 0) (by omega) (by omega)).mp w
            omega
          · match ww, hw2 with
            | 0, _ =>
              refine br_n2 rfl ?_
              rw [hp_f29_12, hp_a40, nI_clamp (by omega), z1]
              exact ⟨vp_in_nI (by omega) (by omega), rfl, rfl⟩
            | 1, _ =>
              refine br_n1 (by decide) ?_
              rw [hp_f29_13, hp_a41, nI_clamp (by omega), z2]
              exact ⟨vp_in_nI (by omega) (by omega), rfl, rfl⟩
      obtain ⟨m', evm, hRm⟩ := main
      refine ⟨if ww = 0 then nI (cnt nn) else nI (cnt2 nn), x, S, L', m', l, E_x_lonely ?_, evm, hRm, by omega, by omega⟩
      refine br_f (by rw [i32_lt]; omega) (br_f (by rw [i32_lt]; omega) ?_)
      refine br_f (by rw [i32_lt]; omega) (br_t (by rw [i32_le]; omega) ?_)
      rw [hp_v0, ev.iffr]
      match ww, hw2 with
      | 0, _ => exact br_n2 rfl ⟨_, _, _, hobj, rfl, rfl, rfl, rfl⟩
      | 1, _ => exact br_n1 (by decide) ⟨_, _, _, hobj, rfl, rfl, rfl, rfl⟩
    · refine TE.mk0 (r := -1000001) (E_x_lonely ?_) (E_m_lonely ?_) h
      · refine br_f (by rw [i32_lt]; omega) (br_f (by rw [i32_lt]; omega) ?_)
        by_cases hlo : w.toInt < 0
        · exact br_t (by rw [i32_lt]; omega) ⟨rfl, rfl⟩
        · exact br_f (by rw [i32_lt]; omega) (br_f (by rw [i32_le]; omega) ⟨rfl, rfl⟩)
      · rw [S_m_in.iffi, i64_of]
        refine br_f (bI_t hn) ?_
        rw [S_m_in.iffi, i64_of]
        exact br_n2 (bI_f hw) ⟨rfl, rfl⟩
  · refine TE.mk0 (r := -1000001) (E_x_lonely ?_) (E_m_lonely ?_) h
    · by_cases hlo : a.toInt < 1
      · exact br_t (by rw [i32_lt]; omega) ⟨rfl, rfl⟩
      · exact br_f (by rw [i32_lt]; omega) (br_t (by rw [i32_lt]; omega) ⟨rfl, rfl⟩)
    · rw [S_m_in.iffi, i64_of]
      exact br_t (bI_f hn) ⟨rfl, rfl⟩
end LONELY
