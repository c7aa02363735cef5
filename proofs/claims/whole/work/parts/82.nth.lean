/-! nth -/
theorem and7 {c v : Nat} (hc : c < 2097152) (hv : v < 8) : nI (8 * c + v) &&& 7 = nI v := by
  rw [pk_andN (by omega) 3 rfl]
  congr 1
  omega
theorem shr3 {c v : Nat} (hc : c < 2097152) (hv : v < 8) : nI (8 * c + v) >>> ((3 : Int32) &&& 31) = nI c := by
  rw [pk_shrN (by omega) _ 3 (by decide)]
  congr 1
  omega
section NTH
variable {X : lk_X} {d : Nat} {x : Nat → Nat → Int32} {S L : Nat → Option Nat} {m : Nat → Nat → Int32} {dyn : lk_H} {n : Nat}
theorem x_cols_loop {g : Nat → Nat} (h7 : n ≤ 7) (h8 : ∀ i, i < n → g i < 8) {Q : Option Value → lk_H → Prop} (hQ : ∀ f, (∀ i, i < n → f i = nI (g i)) → Q (some (.ref (44 + dyn.length))) (hp x S L m (dyn ++ [.inl (0, (n, .inl f))]))) : ∀ (k : Nat) (f : Nat → Int32), k ≤ n → (∀ i, k ≤ i → i < n → f i = nI (g i)) → lk_wp X (d + 1) 5 21 [.retAddr 0, .retAddr 0, .ref (44 + dyn.length), .int (nI (codF g k)), .int (nI k - 1)] [] (hp x S L m (dyn ++ [.inl (0, (n, .inl f))])) Q := by
  intro k
  induction k with
  | zero =>
    intro f hk hf
    exact F_ll_columnsOf_21 (br_t (by decide) (hQ f (fun i hi => hf i (Nat.zero_le _) hi)))
  | succ k ih =>
    intro f hk hf
    have hc := codF_7 (g := g) (k := k) (by omega) (fun i hi => h8 i (by omega))
    have hv := h8 k (by omega)
    have hpos : ¬ nI k < 0 := by
      rw [i32_lt, i32_nI (by omega), show (0 : Int32).toInt = 0 from rfl]
      omega
    rw [nI_sub1 (by omega) (by omega), Nat.add_sub_cancel]
    refine F_ll_columnsOf_21 (br_f hpos ?_)
    rw [codF, and7 hc hv, shr3 hc hv, nI_m1]
    refine as_new (by omega) (by omega) (ih _ (by omega) (fun i h1 h2 => ?_))
    by_cases hik : i = k
    · rw [hik, pk_us]
    · rw [pk_un hik]
      exact hf i (by omega) h2
theorem S_ll_columnsOf {a i : Nat} {w : List Nat} {l2 : lk_H} (h1 : 1 ≤ n) (h7 : n ≤ 7) (hL : LL dyn a n) (hw : (lns n)[i]? = some w) : ∃ f, lk_ev X (d + 1) 5 [.ref (44 + a), .int (nI i)] (hp x S L m (dyn ++ l2)) (some (.ref (44 + (dyn ++ l2).length))) (hp x S L m ((dyn ++ l2) ++ [.inl (0, (n, .inl f))])) ∧ ∀ k, k < n → f k = nI (gl w k) := by
  obtain ⟨b1, b2, b3, f1, f3, o1, o2, o3, o4⟩ := hL
  have hi : i < cnt n := (List.getElem?_eq_some_iff.mp hw).1
  have hc200 := cnt_le h1 h7
  obtain ⟨hlen, ho, -⟩ := lns_mem h1 h7 (List.mem_of_getElem? hw)
  have h8 : ∀ i, i < n → gl w i < 8 := fun i hi => by have := ho.2.2.1 i hi; omega
  have hcode : f3 i = nI (codF (gl w) n) := by
    have e := getD_at hi
    rw [hw] at e
    rw [o4 i hi, ← Option.some.inj e, cod_eq, hlen]
  have up : ∀ (k : Nat) (v : va_E) (l : lk_H), dyn[k]? = some v → (hp x S L m ((dyn ++ l2) ++ l))[44 + k]? = some v := fun k v l q => by
    rw [hp_dyn, List.append_assoc, List.getElem?_append_left (List.getElem?_eq_some_iff.mp q).1]
    exact q
  have up0 : ∀ (k : Nat) (v : va_E), dyn[k]? = some v → (hp x S L m (dyn ++ l2))[44 + k]? = some v := fun k v q => by
    have := up k v [] q
    rw [List.append_nil] at this
    exact this
  have main : lk_wx X (d + 1) 5 [.ref (44 + a), .int (nI i)] (hp x S L m (dyn ++ l2)) (fun v h' => ∃ f, v = some (.ref (44 + (dyn ++ l2).length)) ∧ h' = hp x S L m ((dyn ++ l2) ++ [.inl (0, (n, .inl f))]) ∧ ∀ k, k < n → f k = nI (gl w k)) := by
    refine E_ll_columnsOf ⟨_, _, _, up0 _ _ o1, rfl, rfl, 0, (n, .inl f1), up0 _ _ o2, by decide, ?_⟩
    show lk_nw (nI n) _
    rw [nw_nI (by omega), hp_app, hp_length, show (Int32.ofNat n).toNatClampNeg = n from nI_clamp (by omega)]
    refine ⟨_, _, _, up _ _ _ o1, rfl, rfl, 200, f3, up _ _ _ o3, vp_in_nI (by omega) (by omega), al_new ?_⟩
    rw [nI_clamp (by omega), hcode]
    exact x_cols_loop (dyn := dyn ++ l2) h7 h8 (fun f hf => ⟨f, rfl, rfl, hf⟩) n _ (Nat.le_refl _) (fun i h2 h3 => by omega)
  obtain ⟨v, h', ev, f, rfl, rfl, h2⟩ := main.ex
  exact ⟨f, ev, h2⟩
/-- the same loop, where the order is there -/
theorem m_nth_hit {p : Nat} (h1 : 1 ≤ n) (h7 : n ≤ 7) (hp10 : p < 10) {Q : Option Value → lk_H → Prop} : ∀ (u j l : Nat) (w : List Nat) (m1 : Nat → Nat → Int32), fct n - j = u + 1 → l < 2 ^ 31 → SC m m1 → mth m1 10 n (gl (unk n j)) → (rem n j (u + 1))[l]? = some w → (∀ m2, SC m m2 → mth m2 10 n (gl w) → lk_wxi X (d + 4) 127 [.ref 29, .int (nI p), .int 1] (hp x S L m2 dyn) (fun r h => Q (some (.int r)) h)) → lk_wp X (d + 5) 144 41 [.ref 29, .int (nI p), .retAddr 0, .retAddr 0, .int (nI l), .int 1] [] (hp x S L m1 dyn) Q := by
  intro u
  induction u with
  | zero =>
    intro j l w m1 hu hl hs hm hW hK
    have hj : j < fct n := by omega
    have ho := unk_or h1 h7 j hj
    rw [rem_succ] at hW
    by_cases hf : lonF n (unk n j) = true
    · rw [if_pos hf] at hW
      have ha : ¬ (alk true n (gl (unk n j))).isSome = true := by
        rw [(lonF_eq ho).mp hf]
        decide
      have hm2 : mth (fA m1 (alk true n (gl (unk n j)))) 10 n (gl (unk n j)) := hm.congr (fA_ne (by decide)) (fA_ne (by decide))
      refine F_m_nth_41 (br_f (by decide) ?_)
      rw [hp_v29, (S_m_findAlike2 hm).iffi]
      refine br_n2 (bI_f ha) ?_
      match l, hW with
      | 0, hW =>
        cases hW
        refine br_n2 rfl ?_
        rw [hp_v29]
        exact hK _ hs.fA hm2
      | l + 1, hW => cases hW
    · rw [if_neg hf] at hW
      cases hW
  | succ u ih =>
    intro j l w m1 hu hl hs hm hW hK
    have hj : j < fct n := by omega
    have ho := unk_or h1 h7 j hj
    rw [rem_succ] at hW
    have hm2 : mth (fA m1 (alk true n (gl (unk n j)))) 10 n (gl (unk n j)) := hm.congr (fA_ne (by decide)) (fA_ne (by decide))
    have fin : ∀ l', l' < 2 ^ 31 → (rem n (j + 1) (u + 1))[l']? = some w → lk_vc (hp x S L (fA m1 (alk true n (gl (unk n j)))) dyn) 29 [(11, 143)] (fun k8 => lk_wxi X (d + 4) k8 [.ref 29] (hp x S L (fA m1 (alk true n (gl (unk n j)))) dyn) (fun r7 h6 => lk_wp X (d + 5) 144 41 [.ref 29, .int (nI p), .retAddr 0, .retAddr 0, .int (nI l'), .int r7] [] h6 Q)) := by
      intro l' hl' hW'
      rcases m_on (X := X) (d := d + 2) (x := x) (S := S) (L := L) (dyn := dyn) h1 h7 hj hm2 hs.fA with ⟨q, -⟩ | ⟨q, m3, ev, a1, a2⟩
      · omega
      · rw [hp_v29, ev.iffi]
        exact ih (j + 1) l' w m3 (by omega) hl' a1 a2 hW' hK
    refine F_m_nth_41 (br_f (by decide) ?_)
    rw [hp_v29, (S_m_findAlike2 hm).iffi]
    by_cases hf : lonF n (unk n j) = true
    · rw [if_pos hf] at hW
      have ha : ¬ (alk true n (gl (unk n j))).isSome = true := by
        rw [(lonF_eq ho).mp hf]
        decide
      refine br_n2 (bI_f ha) ?_
      match l, hl, hW with
      | 0, _, hW =>
        cases hW
        refine br_n2 rfl ?_
        rw [hp_v29]
        exact hK _ hs.fA hm2
      | l + 1, hl, hW =>
        refine br_n1 (fun w2 => by have := (nI_eq (a := l + 1) (b := 0) hl (by omega)).mp w2; omega) ?_
        have e : nI (l + 1) + (-1) = nI l := by
          rw [nI_m1, ← nI_1, Int32.add_sub_cancel]
        rw [e]
        exact fin l (by omega) hW
    · rw [if_neg hf] at hW
      have ha : (alk true n (gl (unk n j))).isSome = true := by
        cases hq : alk true n (gl (unk n j)) with
        | none => exact absurd ((lonF_eq ho).mpr hq) hf
        | some v => rfl
      exact br_n1 (bI_t ha) (fin l hl hW)
theorem T_nth (h : Rel x S L m dyn) (a b i : Int32) : TE X (d + 14) 77 144 [.int a, .int b, .int i] x S L m dyn := by
  have e0 : (0 : Int32).toInt = 0 := rfl
  have e1 : (1 : Int32).toInt = 1 := rfl
  have e7 : (7 : Int32).toInt = 7 := rfl
  by_cases ha : 0 ≤ a.toInt ∧ a.toInt ≤ 9
  · by_cases hn : 1 ≤ b.toInt ∧ b.toInt ≤ 7
    · obtain ⟨p, rfl, hp1, -⟩ := i32_nat ha.1
      obtain ⟨nn, rfl, hn1, -⟩ := i32_nat (v := b) (by omega)
      have hp10 : p < 10 := by omega
      have h1 : 1 ≤ nn := by omega
      have h7 : nn ≤ 7 := by omega
      obtain ⟨a, L', l, ev, hLL, hR, hl1, hl2⟩ := C_lonelyList (X := X) (d := d + (7 - nn)) h h1 h7
      have ev : lk_ev X (d + 13) 105 [.ref 0, .int (nI nn)] (hp x S L m dyn) (some (.ref (44 + a))) (hp x S L' m (dyn ++ l)) := by
        rw [show d + (7 - nn) + 6 + nn = d + 13 by omega] at ev
        exact ev
      have hfp : 1 ≤ fct nn := by
        have : ∀ n : Nat, n < 8 → 1 ≤ fct n := by decide
        exact this nn (by omega)
      have hobj : ∀ {K : Int32 → Prop}, lk_fI (hp x S L' m (dyn ++ l)) (44 + a) 3 [(1, 0)] K ↔ K (nI (cnt nn)) := by
        obtain ⟨b1, b2, b3, g1, g3, o1, o2, o3, o4⟩ := hLL
        intro K
        constructor
        · rintro ⟨c, fs, y, q1, q2, q3, q4⟩
          rw [hp_dyn, o1] at q1
          cases q1
          cases q3
          exact q4
        · exact fun q => ⟨_, _, _, by rw [hp_dyn]; exact o1, rfl, rfl, q⟩
      have hcl := cnt_le h1 h7
      by_cases hi0 : i.toInt < 0
      · have main : ∃ m1, lk_ev X (d + 14) 144 [.ref 29, .int (nI p), .int (nI nn), .int i] (hp (ms x 0 0 0) S L' m (dyn ++ l)) (some (.int (-1000000))) (hp (ms x 0 0 0) S L' (ms m1 14 0 0) (dyn ++ l)) ∧ SC m m1 := by
          obtain ⟨m1, e1, e2, e3⟩ := S_m_first (X := X) (d := d + 11) (x := ms x 0 0 0) (S := S) (L := L') (m := m) (dyn := dyn ++ l) h1 h7
          refine ⟨m1, E_m_nth ?_, e2⟩
          rw [S_m_isPlace.iffi]
          refine br_f (bI_t ha) ?_
          rw [S_m_in.iffi, i64_of]
          refine br_n1 (bI_t hn) ?_
          rw [hp_v29, e1.iffv]
          refine br_t (by rw [i32_lt]; omega) (F_m_nth_41 (br_t rfl ?_))
          rw [hp_v29, S_m_well.iffi]
          exact ⟨rfl, rfl⟩
        obtain ⟨m1, evm, hs⟩ := main
        refine ⟨-1000000, ms x 0 0 0, S, L', ms m1 14 0 0, l, E_x_nth ?_, evm, (SC.rel hR hs).st 0, by omega, by omega⟩
        rw [S_x_isPlace.iffi]
        refine br_f (bI_t ha) ?_
        refine br_f (by rw [i32_lt]; omega) (br_t (by rw [i32_le]; omega) ?_)
        rw [hp_v0, ev.iffr]
        refine br_t (by rw [i32_lt]; omega) ?_
        rw [hp_v0, S_x_settled.iffi]
        exact ⟨rfl, rfl⟩
      · obtain ⟨ii, rfl, hi1, hi31⟩ := i32_nat (v := i) (by omega)
        cases hw : (lns nn)[ii]? with
        | none =>
          have hge : cnt nn ≤ ii := List.getElem?_eq_none_iff.mp hw
          have main : ∃ m1, lk_ev X (d + 14) 144 [.ref 29, .int (nI p), .int (nI nn), .int (nI ii)] (hp (ms x 0 0 0) S L' m (dyn ++ l)) (some (.int (-1000000))) (hp (ms x 0 0 0) S L' (ms m1 14 0 0) (dyn ++ l)) ∧ SC m m1 := by
            have main : lk_wx X (d + 14) 144 [.ref 29, .int (nI p), .int (nI nn), .int (nI ii)] (hp (ms x 0 0 0) S L' m (dyn ++ l)) (fun v h' => ∃ m1, v = some (.int (-1000000)) ∧ h' = hp (ms x 0 0 0) S L' (ms m1 14 0 0) (dyn ++ l) ∧ SC m m1) := by
              obtain ⟨m1, e1, e2, e3⟩ := S_m_first (X := X) (d := d + 11) (x := ms x 0 0 0) (S := S) (L := L') (m := m) (dyn := dyn ++ l) h1 h7
              refine E_m_nth ?_
              rw [S_m_isPlace.iffi]
              refine br_f (bI_t ha) ?_
              rw [S_m_in.iffi, i64_of]
              refine br_n1 (bI_t hn) ?_
              rw [hp_v29, e1.iffv]
              refine br_f (by rw [i32_lt]; omega) ?_
              refine m_nth_loop (d := d + 9) (j := 0) h1 h7 hp10 (fun m2 hs => ⟨m2, rfl, rfl, hs⟩) (fct nn - 1) ii m1 (by omega) hi31 e2 e3 (fun w m2 q => ?_) ?_
              · rw [show fct nn - 1 + 1 = fct nn by omega, rem_all h1 h7, hw] at q
                cases q
              · left
                rw [show fct nn - 1 + 1 = fct nn by omega, rem_all h1 h7, hw]
            obtain ⟨v, h', ev2, m1, rfl, rfl, hs⟩ := main.ex
            exact ⟨m1, ev2, hs⟩
          obtain ⟨m1, evm, hs⟩ := main
          refine ⟨-1000000, ms x 0 0 0, S, L', ms m1 14 0 0, l, E_x_nth ?_, evm, (SC.rel hR hs).st 0, by omega, by omega⟩
          rw [S_x_isPlace.iffi]
          refine br_f (bI_t ha) ?_
          refine br_f (by rw [i32_lt]; omega) (br_t (by rw [i32_le]; omega) ?_)
          rw [hp_v0, ev.iffr]
          refine br_f (by rw [i32_lt]; omega) ?_
          rw [hobj]
          refine br_f (by rw [nI_ltI hi31 (by omega)]; omega) ?_
          rw [hp_v0, S_x_settled.iffi]
          exact ⟨rfl, rfl⟩
        | some w =>
          have hlt : ii < cnt nn := (List.getElem?_eq_some_iff.mp hw).1
          obtain ⟨hlen, ho, hal⟩ := lns_mem h1 h7 (List.mem_of_getElem? hw)
          have hcK : cK true nn (gl w) = 0 := by
            unfold cK
            rw [if_pos rfl, hal]
            rfl
          have hkd : kd true nn (gl w) = 2 := by
            unfold kd
            rw [if_pos rfl, hal]
            rfl
          obtain ⟨f, evc, hf⟩ := S_ll_columnsOf (X := X) (d := d + 12) (x := x) (S := S) (L := L') (m := m) (dyn := dyn ++ l) (l2 := [.inr (0, [.null])]) h1 h7 hLL hw
          have hle : ((dyn ++ l) ++ [(.inr (0, [.null]) : va_E)]).length = (dyn ++ l).length + 1 := by rw [List.length_append]; rfl
          rw [hle] at evc
          have main : ∃ m1 m', lk_ev X (d + 14) 144 [.ref 29, .int (nI p), .int (nI nn), .int (nI ii)] (hp (ms x 0 0 0) (va_up S p (some (44 + (dyn ++ l).length))) L' m (dyn ++ (l ++ [.inr (0, [.ref (44 + ((dyn ++ l).length + 1))]), .inl (0, (nn, .inl f))]))) (some (.int 2)) (hp (ms x 0 0 0) (va_up S p (some (44 + (dyn ++ l).length))) L' m' (dyn ++ (l ++ [.inr (0, [.ref (44 + ((dyn ++ l).length + 1))]), .inl (0, (nn, .inl f))]))) ∧ SC m m1 ∧ KP m1 m' p nn 2 (gl w) := by
            have main : ∀ x' S' dyn', lk_wx X (d + 14) 144 [.ref 29, .int (nI p), .int (nI nn), .int (nI ii)] (hp x' S' L' m dyn') (fun v h' => ∃ m1 m', v = some (.int 2) ∧ h' = hp x' S' L' m' dyn' ∧ SC m m1 ∧ KP m1 m' p nn 2 (gl w)) := by
              intro x' S' dyn'
              obtain ⟨m1, e1, e2, e3⟩ := S_m_first (X := X) (d := d + 11) (x := x') (S := S') (L := L') (m := m) (dyn := dyn') h1 h7
              refine E_m_nth ?_
              rw [S_m_isPlace.iffi]
              refine br_f (bI_t ha) ?_
              rw [S_m_in.iffi, i64_of]
              refine br_n1 (bI_t hn) ?_
              rw [hp_v29, e1.iffv]
              refine br_f (by rw [i32_lt]; omega) ?_
              refine m_nth_hit (d := d + 9) (j := 0) h1 h7 hp10 (fct nn - 1) ii w m1 (by omega) hi31 e2 e3 (by rw [show fct nn - 1 + 1 = fct nn by omega, rem_all h1 h7]; exact hw) (fun m2 hs2 hm2 => ?_)
              obtain ⟨m', k1, k2⟩ := S_m_keep (X := X) (d := d + 9) (x := x') (S := S') (L := L') (dyn := dyn') (o := true) hp10 hm2 h1 (fun q => by cases q)
              rw [hkd] at k1 k2
              rw [show (Value.int 1) = Value.int (oI true) from rfl, k1.iffi]
              exact ⟨m2, m', rfl, rfl, hs2, k2⟩
            obtain ⟨v, h', ev2, m1, m', rfl, rfl, hs, hk⟩ := (main _ _ _).ex
            exact ⟨m1, m', ev2, hs, hk⟩
          obtain ⟨m1, m', evm, hs, hk⟩ := main
          have a1 : ((dyn ++ l) ++ [.inr (0, [.ref (44 + ((dyn ++ l).length + 1))]), .inl (0, (nn, .inl f))] : lk_H)[(dyn ++ l).length]? = some (.inr (cK true nn (gl w), [.ref (44 + ((dyn ++ l).length + 1))])) := by
            rw [hcK]
            exact app_k (k := 0)
          have a2 : ((dyn ++ l) ++ [.inr (0, [.ref (44 + ((dyn ++ l).length + 1))]), .inl (0, (nn, .inl f))] : lk_H)[(dyn ++ l).length + 1]? = some (.inl (0, (nn, .inl f))) := app_k (k := 1)
          have hRk := hR.keep (o := true) (p := p) (n := nn) (g := gl w) hp10 hs (by rw [hkd]; exact hk) ho a1 a2 hf
          rw [List.append_assoc] at hRk
          refine ⟨2, ms x 0 0 0, va_up S p (some (44 + (dyn ++ l).length)), L', m', l ++ [.inr (0, [.ref (44 + ((dyn ++ l).length + 1))]), .inl (0, (nn, .inl f))], E_x_nth ?_, evm, hRk, ?_, ?_⟩
          · rw [S_x_isPlace.iffi]
            refine br_f (bI_t ha) ?_
            refine br_f (by rw [i32_lt]; omega) (br_t (by rw [i32_le]; omega) ?_)
            rw [hp_v0, ev.iffr]
            refine br_f (by rw [i32_lt]; omega) ?_
            rw [hobj]
            refine br_t (by rw [nI_ltI hi31 (by omega)]; exact hlt) ?_
            rw [hp_app, hp_length]
            have vc5 : ∀ {K : Nat → Prop}, lk_vc (hp x S L' m ((dyn ++ l) ++ [.inr (0, [.null])])) (44 + a) [(1, 5)] K ↔ K 5 := fun {K} => by
              obtain ⟨b1, b2, b3, g1, g3, o1, o2, o3, o4⟩ := hLL
              have q : (hp x S L' m ((dyn ++ l) ++ [.inr (0, [.null])]))[44 + a]? = some (.inr (1, [.ref (44 + b1), .ref (44 + b2), .ref (44 + b3), .int (nI (cnt nn)), .int (nI (cnt2 nn))])) := by
                rw [hp_dyn, List.getElem?_append_left (List.getElem?_eq_some_iff.mp o1).1]
                exact o1
              exact vc_of q rfl
            rw [vc5, evc.iffr]
            have ob : (hp x S L' m (((dyn ++ l) ++ [.inr (0, [.null])]) ++ [.inl (0, (nn, .inl f))]))[44 + (dyn ++ l).length]? = some (.inr (0, [.null])) := by
              rw [hp_dyn, List.append_assoc]
              exact app_k (k := 0)
            rw [ob_of ob, (S_l_init (d := d + 10) (b0 := 44 + ((dyn ++ l).length + 1)) ob (Or.inl rfl)).iffv]
            have es : (hp x S L' m (((dyn ++ l) ++ [.inr (0, [.null])]) ++ [.inl (0, (nn, .inl f))])).set (44 + (dyn ++ l).length) (.inr (0, [.ref (44 + ((dyn ++ l).length + 1))])) = hp x S L' m ((dyn ++ l) ++ [.inr (0, [.ref (44 + ((dyn ++ l).length + 1))]), .inl (0, (nn, .inl f))]) := by
              rw [hp_dynset, List.append_assoc]
              exact congrArg _ (app_sk (k := 0))
            rw [es]
            have sh := S_x_shelve (X := X) (d := d + 11) (x := x) (S := S) (L := L') (m := m) (dyn := (dyn ++ l) ++ [.inr (0, [.ref (44 + ((dyn ++ l).length + 1))]), .inl (0, (nn, .inl f))]) (A := 44 + (dyn ++ l).length) (c := 0) (b := 44 + ((dyn ++ l).length + 1)) (n := nn) (p := p) (g := gl w) hp10 (fun x' S' => ⟨by rw [hp_dyn]; exact app_k (k := 0), Or.inl rfl, ar_new (by omega) a2 (fun i hi => ⟨hf i hi, by have := ho.2.2.1 i hi; omega⟩)⟩)
            rw [hp_v0, sh.iffi]
            exact ⟨rfl, by rw [List.append_assoc]⟩
          · rw [List.length_append]
            show l.length + 2 ≤ 8
            omega
          · have : lk_sz (l ++ [.inr (0, [.ref (44 + ((dyn ++ l).length + 1))]), .inl (0, (nn, .inl f))]) = lk_sz l + (1 + (nn + 0)) := by
              simp [lk_sz, lk_cz]
            omega
    · refine TE.mk0 (r := -1000001) (E_x_nth ?_) (E_m_nth ?_) h
      · rw [S_x_isPlace.iffi]
        refine br_f (bI_t ha) ?_
        by_cases hlo : b.toInt < 1
        · exact br_t (by rw [i32_lt]; omega) ⟨rfl, rfl⟩
        · exact br_f (by rw [i32_lt]; omega) (br_f (by rw [i32_le]; omega) ⟨rfl, rfl⟩)
      · rw [S_m_isPlace.iffi]
        refine br_f (bI_t ha) ?_
        rw [S_m_in.iffi, i64_of]
        exact br_n2 (bI_f hn) ⟨rfl, rfl⟩
  · refine TE.mk0 (r := -1000001) (E_x_nth ?_) (E_m_nth ?_) h
    · rw [S_x_isPlace.iffi]
      exact br_t (bI_f ha) ⟨rfl, rfl⟩
    · rw [S_m_isPlace.iffi]
      exact br_t (bI_f ha) ⟨rfl, rfl⟩
end NTH
