/-! the class's list of lonely orders: small methods -/
def codF (g : Nat → Nat) : Nat → Nat
  | 0 => 0
  | k + 1 => 8 * codF g k + g k
theorem codF_lt {g : Nat → Nat} : ∀ k, (∀ i, i < k → g i < 8) → codF g k < 8 ^ k := by
  intro k
  induction k with
  | zero => intro _; exact Nat.one_pos
  | succ k ih =>
    intro h
    have h1 := ih (fun i hi => h i (by omega))
    have h2 := h k (by omega)
    rw [codF, Nat.pow_succ]
    omega
theorem codF_7 {g : Nat → Nat} {k : Nat} (hk : k ≤ 7) (h : ∀ i, i < k → g i < 8) : codF g k < 2097152 := by
  have h1 := codF_lt k h
  have h2 : 8 ^ k ≤ 8 ^ 7 := Nat.pow_le_pow_right (by decide) hk
  have h3 : (8 : Nat) ^ 7 = 2097152 := by decide
  omega
theorem codF_congr {g g' : Nat → Nat} : ∀ k, (∀ i, i < k → g i = g' i) → codF g k = codF g' k := by
  intro k
  induction k with
  | zero => intro _; rfl
  | succ k ih =>
    intro h
    rw [codF, codF, ih (fun i hi => h i (by omega)), h k (by omega)]
theorem gl_app {l : List Nat} {c i : Nat} (h : i < l.length) : gl (l ++ [c]) i = gl l i := by
  unfold gl
  rw [List.getD_eq_getElem?_getD, List.getD_eq_getElem?_getD, List.getElem?_append_left h]
theorem gl_last {l : List Nat} {c : Nat} : gl (l ++ [c]) l.length = c := by
  unfold gl
  rw [List.getD_eq_getElem?_getD, List.getElem?_append_right (Nat.le_refl _), Nat.sub_self]
  rfl
theorem cod_app (l : List Nat) (c : Nat) : cod (l ++ [c]) = 8 * cod l + c := by
  unfold cod
  rw [List.foldl_append]
  rfl
/-- by the end of a list -/
theorem snoc_ind {P : List Nat → Prop} (h0 : P []) (h1 : ∀ l c, P l → P (l ++ [c])) : ∀ l, P l := by
  intro l
  have : ∀ r : List Nat, P r.reverse := by
    intro r
    induction r with
    | nil => exact h0
    | cons a r ih =>
      rw [List.reverse_cons]
      exact h1 _ _ ih
  have h := this l.reverse
  rw [List.reverse_reverse] at h
  exact h
theorem cod_eq (l : List Nat) : cod l = codF (gl l) l.length := by
  refine snoc_ind (P := fun l => cod l = codF (gl l) l.length) rfl (fun l c ih => ?_) l
  rw [cod_app, ih, List.length_append]
  show _ = codF (gl (l ++ [c])) (l.length + 1)
  rw [codF, gl_last, codF_congr l.length (fun i hi => (gl_app hi).symm)]
theorem cod_map (n : Nat) (g : Nat → Nat) : cod ((List.range n).map g) = codF g n := by
  induction n with
  | zero => rfl
  | succ n ih =>
    rw [List.range_succ, List.map_append, List.map_singleton, cod_app, ih, codF]
theorem shl_or {c v : Nat} (hc : c < 2097152) (hv : v < 8) : (nI c <<< ((3 : Int32) &&& 31)) ||| nI v = nI (8 * c + v) := by
  rw [pk_shlN _ 3 (by decide) (by omega), i32_or]
  congr 1
  have := Nat.two_pow_add_eq_or_of_lt (i := 3) (b := v) hv c
  rw [show c * 2 ^ 3 = 2 ^ 3 * c by omega, ← this]
section LLIST
variable {X : lk_X} {d : Nat} {x : Nat → Nat → Int32} {S L : Nat → Option Nat} {m : Nat → Nat → Int32} {dyn : lk_H}
theorem ll_code_loop {h : lk_H} {a n : Nat} {g : Nat → Nat} {f : Nat → Int32} (ha : h[a]? = some (.inl (0, (n, .inl f)))) (hf : ∀ i, i < n → f i = nI (g i)) (h8 : ∀ i, i < n → g i < 8) (hn : n ≤ 7) {Q : Option Value → lk_H → Prop} (hQ : Q (some (.int (nI (codF g n)))) h) : ∀ (u j : Nat), n - j = u → j ≤ n → lk_wp X (d + 1) 10 10 [.retAddr 0, .int (nI (codF g j)), .ref a, .int (nI n), .int (nI j), .retAddr 0] [] h Q := by
  intro u
  induction u with
  | zero =>
    intro j hu hj
    rw [show n = j by omega] at hQ
    exact F_ll_code_10 (br_t (nI_le (by omega) (by omega)) hQ)
  | succ u ih =>
    intro j hu hj
    have hjn : j < n := by omega
    refine F_ll_code_10 (br_f (nI_ge hjn (by omega)) ⟨n, f, ha, vp_in_nI hjn (by omega), ?_⟩)
    have hc := codF_7 (k := j) (g := g) (by omega) (fun i hi => h8 i (by omega))
    rw [nI_clamp (by omega), hf j hjn]
    dsimp only
    rw [shl_or hc (h8 j hjn), nI_1]
    exact ih (j + 1) (by omega) (by omega)
theorem S_ll_code {h : lk_H} {a n : Nat} {g : Nat → Nat} {f : Nat → Int32} (ha : h[a]? = some (.inl (0, (n, .inl f)))) (hf : ∀ i, i < n → f i = nI (g i)) (h8 : ∀ i, i < n → g i < 8) (hn : n ≤ 7) : lk_ev X (d + 1) 10 [.ref a] h (some (.int (nI (codF g n)))) h := by
  refine E_ll_code ⟨0, (n, .inl f), ha, by decide, ?_⟩
  exact ll_code_loop (j := 0) ha hf h8 hn ⟨rfl, rfl⟩ n rfl (Nat.zero_le _)
/-- the list's own cells behind dyn: itself, codes, columns, turned -/
def lq (D n : Nat) (f1 f2 f3 : Nat → Int32) (s s2 : Int32) : lk_H := [.inr (1, [.ref (44 + (D + 2)), .ref (44 + (D + 3)), .ref (44 + (D + 1)), .int s, .int s2]), .inl (0, (200, .inl f3)), .inl (0, (n, .inl f1)), .inl (0, (n, .inl f2))]
def LH (dyn : lk_H) (n : Nat) (f1 f2 f3 : Nat → Int32) (s s2 : Int32) : lk_H := dyn ++ lq dyn.length n f1 f2 f3 s s2
theorem app_k {l : lk_H} {k : Nat} : (dyn ++ l)[dyn.length + k]? = l[k]? := by
  rw [List.getElem?_append_right (by omega), Nat.add_sub_cancel_left]
theorem app_sk {l : lk_H} {k : Nat} {v : va_E} : (dyn ++ l).set (dyn.length + k) v = dyn ++ l.set k v := by
  rw [List.set_append_right _ _ (by omega), Nat.add_sub_cancel_left]
variable {n : Nat} {f1 f2 f3 : Nat → Int32} {s s2 : Int32}
theorem ll_0 : (hp x S L m (LH dyn n f1 f2 f3 s s2))[44 + dyn.length]? = some (.inr (1, [.ref (44 + (dyn.length + 2)), .ref (44 + (dyn.length + 3)), .ref (44 + (dyn.length + 1)), .int s, .int s2])) := by
  rw [hp_dyn]
  exact app_k (k := 0)
theorem ll_1 : (hp x S L m (LH dyn n f1 f2 f3 s s2))[44 + (dyn.length + 1)]? = some (.inl (0, (200, .inl f3))) := by
  rw [hp_dyn]
  exact app_k (k := 1)
theorem ll_2 : (hp x S L m (LH dyn n f1 f2 f3 s s2))[44 + (dyn.length + 2)]? = some (.inl (0, (n, .inl f1))) := by
  rw [hp_dyn]
  exact app_k (k := 2)
theorem ll_3 : (hp x S L m (LH dyn n f1 f2 f3 s s2))[44 + (dyn.length + 3)]? = some (.inl (0, (n, .inl f2))) := by
  rw [hp_dyn]
  exact app_k (k := 3)
theorem ll_s1 {f : Nat → Int32} : (hp x S L m (LH dyn n f1 f2 f3 s s2)).set (44 + (dyn.length + 1)) (.inl (0, (200, .inl f))) = hp x S L m (LH dyn n f1 f2 f s s2) := by
  rw [hp_dynset]
  unfold LH
  rw [app_sk]
  rfl
theorem ll_s2 {f : Nat → Int32} : (hp x S L m (LH dyn n f1 f2 f3 s s2)).set (44 + (dyn.length + 2)) (.inl (0, (n, .inl f))) = hp x S L m (LH dyn n f f2 f3 s s2) := by
  rw [hp_dynset]
  unfold LH
  rw [app_sk]
  rfl
theorem ll_s3 {f : Nat → Int32} : (hp x S L m (LH dyn n f1 f2 f3 s s2)).set (44 + (dyn.length + 3)) (.inl (0, (n, .inl f))) = hp x S L m (LH dyn n f1 f f3 s s2) := by
  rw [hp_dynset]
  unfold LH
  rw [app_sk]
  rfl
theorem ll_so {v v2 : Int32} : (hp x S L m (LH dyn n f1 f2 f3 s s2)).set (44 + dyn.length) (.inr (1, [.ref (44 + (dyn.length + 2)), .ref (44 + (dyn.length + 3)), .ref (44 + (dyn.length + 1)), .int v, .int v2])) = hp x S L m (LH dyn n f1 f2 f3 v v2) := by
  rw [hp_dynset]
  unfold LH
  rw [show dyn.length = dyn.length + 0 from rfl, app_sk]
  rfl
theorem ll_fR0 {K : Nat → Prop} : lk_fR (hp x S L m (LH dyn n f1 f2 f3 s s2)) (44 + dyn.length) 0 [(1, 0)] K ↔ K (44 + (dyn.length + 2)) := ⟨fun ⟨c, fs, y, h1, h2, h3, h4⟩ => by rw [ll_0] at h1; cases h1; cases h3; exact h4, fun h => ⟨_, _, _, ll_0, rfl, rfl, h⟩⟩
theorem ll_fR1 {K : Nat → Prop} : lk_fR (hp x S L m (LH dyn n f1 f2 f3 s s2)) (44 + dyn.length) 1 [(1, 0)] K ↔ K (44 + (dyn.length + 3)) := ⟨fun ⟨c, fs, y, h1, h2, h3, h4⟩ => by rw [ll_0] at h1; cases h1; cases h3; exact h4, fun h => ⟨_, _, _, ll_0, rfl, rfl, h⟩⟩
theorem ll_fR2 {K : Nat → Prop} : lk_fR (hp x S L m (LH dyn n f1 f2 f3 s s2)) (44 + dyn.length) 2 [(1, 0)] K ↔ K (44 + (dyn.length + 1)) := ⟨fun ⟨c, fs, y, h1, h2, h3, h4⟩ => by rw [ll_0] at h1; cases h1; cases h3; exact h4, fun h => ⟨_, _, _, ll_0, rfl, rfl, h⟩⟩
theorem ll_fI3 {K : Int32 → Prop} : lk_fI (hp x S L m (LH dyn n f1 f2 f3 s s2)) (44 + dyn.length) 3 [(1, 0)] K ↔ K s := ⟨fun ⟨c, fs, y, h1, h2, h3, h4⟩ => by rw [ll_0] at h1; cases h1; cases h3; exact h4, fun h => ⟨_, _, _, ll_0, rfl, rfl, h⟩⟩
theorem ll_fI4 {K : Int32 → Prop} : lk_fI (hp x S L m (LH dyn n f1 f2 f3 s s2)) (44 + dyn.length) 4 [(1, 0)] K ↔ K s2 := ⟨fun ⟨c, fs, y, h1, h2, h3, h4⟩ => by rw [ll_0] at h1; cases h1; cases h3; exact h4, fun h => ⟨_, _, _, ll_0, rfl, rfl, h⟩⟩
theorem ll_pf3 {v : Int32} {K : lk_H → Prop} (q : K (hp x S L m (LH dyn n f1 f2 f3 v s2))) : lk_pf (hp x S L m (LH dyn n f1 f2 f3 s s2)) (44 + dyn.length) 3 [(1, 0)] (.int v) K := by
  refine ⟨_, _, ll_0, rfl, rfl, Nat.le_of_ble_eq_true rfl, ?_⟩
  rw [← ll_so (s := s) (s2 := s2) (v := v) (v2 := s2)] at q
  exact q
theorem ll_pf4 {v : Int32} {K : lk_H → Prop} (q : K (hp x S L m (LH dyn n f1 f2 f3 s v))) : lk_pf (hp x S L m (LH dyn n f1 f2 f3 s s2)) (44 + dyn.length) 4 [(1, 0)] (.int v) K := by
  refine ⟨_, _, ll_0, rfl, rfl, Nat.le_of_ble_eq_true rfl, ?_⟩
  rw [← ll_so (s := s) (s2 := s2) (v := s) (v2 := v)] at q
  exact q
theorem ll_vc {j : Nat} {K : Nat → Prop} : lk_vc (hp x S L m (LH dyn n f1 f2 f3 s s2)) (44 + dyn.length) [(1, j)] K ↔ K j := vc_of ll_0 rfl
theorem ll_al {K : Int32 → Prop} : lk_al2 (hp x S L m (LH dyn n f1 f2 f3 s s2)) (44 + (dyn.length + 2)) K ↔ K (nI n) := by
  constructor
  · rintro ⟨t, y, h2, h3, h4⟩
    rw [ll_2] at h2
    cases h2
    exact h4
  · exact fun q => ⟨0, (n, .inl f1), ll_2, by decide, q⟩
theorem ll_ai {k : Nat} {v : Int32} {K : Int32 → Prop} (hk : k < n) (hn : n ≤ 7) (hv : f1 k = v) : lk_ai (hp x S L m (LH dyn n f1 f2 f3 s s2)) (44 + (dyn.length + 2)) (nI k) K ↔ K v := by
  constructor
  · rintro ⟨t, y, h2, h3, h4⟩
    rw [ll_2] at h2
    cases h2
    rw [nI_clamp (by omega), hv] at h4
    exact h4
  · exact fun q => ⟨_, _, ll_2, vp_in_nI hk (by omega), by rw [nI_clamp (by omega), hv]; exact q⟩
theorem ll_as1 {k : Nat} {v : Int32} {K : lk_H → Prop} (hk : k < n) (hn : n ≤ 7) (q : K (hp x S L m (LH dyn n (upd f1 k v) f2 f3 s s2))) : lk_as (hp x S L m (LH dyn n f1 f2 f3 s s2)) (44 + (dyn.length + 2)) (nI k) v K := by
  refine ⟨_, _, ll_2, vp_in_nI hk (by omega), ?_⟩
  rw [nI_clamp (by omega), ll_s2]
  exact q
theorem ll_as3 {k : Nat} {v : Int32} {K : lk_H → Prop} (hk : k < 200) (q : K (hp x S L m (LH dyn n f1 f2 (upd f3 k v) s s2))) : lk_as (hp x S L m (LH dyn n f1 f2 f3 s s2)) (44 + (dyn.length + 1)) (nI k) v K := by
  refine ⟨_, _, ll_1, vp_in_nI hk (by omega), ?_⟩
  rw [nI_clamp (by omega), ll_s1]
  exact q
theorem ll_up_k {row e : Nat} {g : Nat → Nat} (hr : row < n) (hn : n ≤ 7) (he : 1 ≤ e) (her : e ≤ row) (hg : ∀ i, i ≤ row → f1 i = nI (g i) ∧ g i ≤ 200) {Q : Option Value → lk_H → Prop} (hQ0 : an (fun k => decide (g k + g (row - e) = g (k - e) + g row)) e (row - e) = true → Q (some (.int 0)) (hp x S L m (LH dyn n f1 f2 f3 s s2))) : ∀ (u k : Nat), row - k = u → e ≤ k → k ≤ row → (an (fun k => decide (g k + g (row - e) = g (k - e) + g row)) k u = true → an (fun k => decide (g k + g (row - e) = g (k - e) + g row)) e (row - e) = true) → (an (fun k => decide (g k + g (row - e) = g (k - e) + g row)) k u = false → lk_wp X (d + 1) 7 2 [.ref (44 + dyn.length), .int (nI row), .int (nI (e + 1)), .retAddr 0, .retAddr 0] [] (hp x S L m (LH dyn n f1 f2 f3 s s2)) Q) → lk_wp X (d + 1) 7 32 [.ref (44 + dyn.length), .int (nI row), .int (nI e), .int (nI (g row) - nI (g (row - e))), .int (nI k)] [] (hp x S L m (LH dyn n f1 f2 f3 s s2)) Q := by
  intro u
  induction u with
  | zero =>
    intro k hu hk hkr h1 h2
    refine F_ll_isLonelyUpTo_32 (br_t (nI_le (by omega) (by omega)) ?_)
    rw [nI_1]
    exact h2 rfl
  | succ u ih =>
    intro k hu hk hkr h1 h2
    have a1 := hg k (by omega)
    have a2 := hg (k - e) (by omega)
    have a3 := hg row (by omega)
    have a4 := hg (row - e) (by omega)
    refine F_ll_isLonelyUpTo_32 (br_f (nI_ge (by omega) (by omega)) ?_)
    rw [ll_fR0, ll_ai (by omega) hn a1.1, ll_fR0, nI_sub (by omega) (by omega), ll_ai (by omega) hn a2.1, nI_sub_eq (by omega) (by omega) (by omega) (by omega), nI_1]
    rw [an] at h1 h2
    by_cases hq : g k + g (row - e) = g (k - e) + g row
    · refine br_n2 (by omega) (hQ0 (h1 ?_))
      rw [decide_eq_true hq]
      rfl
    · rw [decide_eq_false hq, Bool.false_or] at h1 h2
      exact br_n1 (by omega) (ih (k + 1) (by omega) (by omega) (by omega) h1 h2)
theorem ll_up_e {row : Nat} {g : Nat → Nat} (hr : row < n) (hn : n ≤ 7) (hg : ∀ i, i ≤ row → f1 i = nI (g i) ∧ g i ≤ 200) {Q : Option Value → lk_H → Prop} {F : Nat → Bool} (hF : F = fun e => decide (g row = g (row - e)) || an (fun k => decide (g k + g (row - e) = g (k - e) + g row)) e (row - e)) : ∀ (u e : Nat), row + 1 - e = u → 1 ≤ e → e ≤ row + 1 → (an F e u = true → Q (some (.int 0)) (hp x S L m (LH dyn n f1 f2 f3 s s2))) → (an F e u = false → Q (some (.int 1)) (hp x S L m (LH dyn n f1 f2 f3 s s2))) → lk_wp X (d + 1) 7 2 [.ref (44 + dyn.length), .int (nI row), .int (nI e), .retAddr 0, .retAddr 0] [] (hp x S L m (LH dyn n f1 f2 f3 s s2)) Q := by
  intro u
  induction u with
  | zero =>
    intro e hu h1 he h0 h3
    refine F_ll_isLonelyUpTo_2 (br_t ?_ (h3 rfl))
    rw [nI_ltI (by omega) (by omega)]
    omega
  | succ u ih =>
    intro e hu h1 he h0 h3
    have a3 := hg row (by omega)
    have a4 := hg (row - e) (by omega)
    refine F_ll_isLonelyUpTo_2 (br_f ?_ ?_)
    · rw [nI_ltI (by omega) (by omega)]
      omega
    · rw [ll_fR0, ll_ai hr hn a3.1, ll_fR0, nI_sub (show e ≤ row by omega) (by omega), ll_ai (by omega) hn a4.1]
      have ez : (nI (g row) - nI (g (row - e)) = 0) ↔ g row = g (row - e) := by
        rw [i32_eq, pk_sub_toInt (by omega) (by omega), show (0 : Int32).toInt = 0 from rfl]
        omega
      rw [ez]
      rw [an] at h0 h3
      by_cases hq : g row = g (row - e)
      · refine br_n2 hq (h0 ?_)
        rw [hF]
        dsimp only
        rw [decide_eq_true hq]
        rfl
      · refine br_n1 hq ?_
        have hFe : F e = an (fun k => decide (g k + g (row - e) = g (k - e) + g row)) e (row - e) := by
          rw [hF]
          dsimp only
          rw [decide_eq_false hq, Bool.false_or]
        rw [hFe] at h0 h3
        refine ll_up_k (k := e) hr hn h1 (by omega) hg (fun w => h0 (by rw [w]; rfl)) (row - e) rfl (Nat.le_refl _) (by omega) (fun w => w) (fun w => ?_)
        rw [w, Bool.false_or] at h0 h3
        exact ih (e + 1) (by omega) (by omega) (by omega) h0 h3
theorem S_ll_up {row : Nat} {g : Nat → Nat} (hr : row < n) (hn : n ≤ 7) (hg : ∀ i, i ≤ row → f1 i = nI (g i) ∧ g i ≤ 200) : lk_ev X (d + 1) 7 [.ref (44 + dyn.length), .int (nI row)] (hp x S L m (LH dyn n f1 f2 f3 s s2)) (some (.int (oI (lupB g row)))) (hp x S L m (LH dyn n f1 f2 f3 s s2)) := by
  refine E_ll_isLonelyUpTo ?_
  refine ll_up_e (e := 1) hr hn hg rfl row (by omega) (Nat.le_refl _) (by omega) (fun w => ?_) (fun w => ?_)
  · have : lupB g row = false := by
      unfold lupB
      rw [w]
      rfl
    rw [this]
    exact ⟨rfl, rfl⟩
  · have : lupB g row = true := by
      unfold lupB
      rw [w]
      rfl
    rw [this]
    exact ⟨rfl, rfl⟩
theorem ll_first_loop {g : Nat → Nat} (ho : OR n g) (hn : n ≤ 7) (hg : ∀ i, i < n → f1 i = nI (g i)) {Q : Option Value → lk_H → Prop} (hQ : ∀ f, Q (some (.int (oI (!(an (fun t => decide (codF (tnd n t g) n < codF g n)) 1 7))))) (hp x S L m (LH dyn n f1 f f3 s s2))) : ∀ (u t : Nat) (f2 : Nat → Int32), 8 - t = u → 1 ≤ t → t ≤ 8 → (an (fun t => decide (codF (tnd n t g) n < codF g n)) t u = an (fun t => decide (codF (tnd n t g) n < codF g n)) 1 7) → lk_wp X (d + 2) 9 10 [.ref (44 + dyn.length), .int (nI (codF g n)), .int (nI t)] [] (hp x S L m (LH dyn n f1 f2 f3 s s2)) Q := by
  have h8 : ∀ i, i < n → g i < 8 := fun i hi => by have := ho.2.2.1 i hi; omega
  have hc := codF_7 hn h8
  intro u
  induction u with
  | zero =>
    intro t f2 hu h1 ht hf
    refine F_ll_isFirstOfItsTurns_10 (br_t (nI_le (a := 8) (by omega) (by omega)) ?_)
    have := hQ f2
    rw [← hf] at this
    exact this
  | succ u ih =>
    intro t f2 hu h1 ht hf
    refine F_ll_isFirstOfItsTurns_10 (br_f (nI_ge (b := 8) (by omega) (by omega)) ?_)
    obtain ⟨f, ev, hfe⟩ := S_o_turnInto (X := X) (d := d) (t := t) (h := hp x S L m (LH dyn n f1 f2 f3 s s2)) (a := 44 + (dyn.length + 3)) (b := 44 + (dyn.length + 2)) (by omega) ll_3 ll_2 hg ho (by omega)
    rw [ll_s3] at ev
    have hto := tnd_or (t := t) ho
    have h8t : ∀ i, i < n → tnd n t g i < 8 := fun i hi => by have := hto.2.2.1 i hi; omega
    have hct := codF_7 hn h8t
    rw [ll_fR1, ll_fR0, ev.iffv, ll_fR1, (S_ll_code ll_3 hfe h8t hn).iffi, nI_leI (by omega) (by omega), nI_1]
    rw [an] at hf
    by_cases hq : codF (tnd n t g) n < codF g n
    · refine br_f (by omega) ?_
      have := hQ f
      rw [← hf, decide_eq_true hq] at this
      exact this
    · rw [decide_eq_false hq, Bool.false_or] at hf
      exact br_t (by omega) (ih (t + 1) f (by omega) (by omega) (by omega) hf)
theorem S_ll_first {l : List Nat} (hl : l.length = n) (ho : OR n (gl l)) (hn : n ≤ 7) (hg : ∀ i, i < n → f1 i = nI (gl l i)) : ∃ f, lk_ev X (d + 2) 9 [.ref (44 + dyn.length)] (hp x S L m (LH dyn n f1 f2 f3 s s2)) (some (.int (oI (frst n l)))) (hp x S L m (LH dyn n f1 f f3 s s2)) := by
  have h8 : ∀ i, i < n → gl l i < 8 := fun i hi => by have := ho.2.2.1 i hi; omega
  have hfr : frst n l = !(an (fun t => decide (codF (tnd n t (gl l)) n < codF (gl l) n)) 1 7) := by
    unfold frst
    rw [cod_eq l, hl]
    congr 2
    funext t
    rw [cod_map]
  have main : lk_wx X (d + 2) 9 [.ref (44 + dyn.length)] (hp x S L m (LH dyn n f1 f2 f3 s s2)) (fun v h' => ∃ f, v = some (.int (oI (frst n l))) ∧ h' = hp x S L m (LH dyn n f1 f f3 s s2)) := by
    refine E_ll_isFirstOfItsTurns ?_
    rw [ll_fR0, (S_ll_code ll_2 hg h8 hn).iffi]
    refine ll_first_loop (d := d) (t := 1) ho hn hg (fun f => ⟨f, ?_, rfl⟩) 7 f2 rfl (Nat.le_refl _) (by decide) rfl
    rw [hfr]
  obtain ⟨v, h', ev, f, rfl, rfl⟩ := main.ex
  exact ⟨f, ev⟩
theorem S_ll_keep {l : List Nat} {c c2 : Nat} (hl : l.length = n) (ho : OR n (gl l)) (hn : n ≤ 7) (hg : ∀ i, i < n → f1 i = nI (gl l i)) (hc : c < 200) : ∃ f, lk_ev X (d + 3) 8 [.ref (44 + dyn.length)] (hp x S L m (LH dyn n f1 f2 f3 (nI c) (nI c2))) none (hp x S L m (LH dyn n f1 f (upd f3 c (nI (cod l))) (nI (c + 1)) (nI (c2 + if frst n l = true then 1 else 0)))) := by
  have h8 : ∀ i, i < n → gl l i < 8 := fun i hi => by have := ho.2.2.1 i hi; omega
  obtain ⟨f, ev⟩ := S_ll_first (X := X) (d := d) (x := x) (S := S) (L := L) (m := m) (dyn := dyn) (f2 := f2) (f3 := upd f3 c (nI (cod l))) (s := nI (c + 1)) (s2 := nI c2) hl ho hn hg
  refine ⟨f, E_ll_keep ?_⟩
  rw [ll_fI3]
  refine br_t (by rw [show (200 : Int32) = nI 200 from rfl, nI_ltI (by omega) (by omega)]; exact hc) ?_
  rw [ll_fR2, ll_fI3, ll_fR0, (S_ll_code ll_2 hg h8 hn).iffi, ← hl, ← cod_eq l, hl]
  refine ll_as3 hc ?_
  rw [ll_fI3, nI_1]
  refine ll_pf3 ?_
  rw [ll_vc, ev.iffi]
  cases hf : frst n l with
  | false => exact br_t rfl ⟨rfl, rfl⟩
  | true =>
    refine br_f (by decide) ?_
    rw [ll_fI4, nI_1]
    exact ll_pf4 ⟨rfl, rfl⟩
end LLIST
