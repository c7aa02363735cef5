/-! each instruction of the small machine is followed by the machine -/
def lk_cz : va_E → Nat
  | .inl a => a.2.1
  | .inr o => o.2.length
def lk_sz (h : lk_H) : Nat := (h.map lk_cz).sum
theorem lk_sz_app (h : lk_H) (x : va_E) : lk_sz (h ++ [x]) = lk_sz h + lk_cz x := by simp [lk_sz]
theorem lk_sz_set {h : lk_H} {k : Nat} {x y : va_E} (hk : h[k]? = some x) (he : lk_cz y = lk_cz x) : lk_sz (h.set k y) = lk_sz h := by
  unfold lk_sz
  congr 1
  rw [List.map_set, he]
  apply List.ext_getElem?
  intro i
  rw [List.getElem?_set]
  by_cases hi : k = i
  · subst hi
    rw [if_pos rfl, List.length_map, if_pos (List.getElem?_eq_some_iff.mp hk).1, List.getElem?_map, hk]
    rfl
  · rw [if_neg hi]
/-! what a step's having come to something says -/
theorem lk_ldi_inv {lo : List Value} {i pc : Nat} {st : List Value} {h : lk_H} {q : lk_S} (e : lk_ldi lo i pc st h = some q) : ∃ x, lo[i]? = some (.int x) ∧ q = (pc, lo, .int x :: st, h) := by
  unfold lk_ldi at e
  split at e
  · rename_i x hx
    exact ⟨x, hx, (Option.some.inj e).symm⟩
  · cases e
theorem lk_ldl_inv {lo : List Value} {i pc : Nat} {st : List Value} {h : lk_H} {q : lk_S} (e : lk_ldl lo i pc st h = some q) : ∃ x, lo[i]? = some (.long x) ∧ q = (pc, lo, .long x :: st, h) := by
  unfold lk_ldl at e
  split at e
  · rename_i x hx
    exact ⟨x, hx, (Option.some.inj e).symm⟩
  · cases e
theorem lk_lda_inv {lo : List Value} {i pc : Nat} {st : List Value} {h : lk_H} {q : lk_S} (e : lk_lda lo i pc st h = some q) : ∃ v, lo[i]? = some v ∧ lk_v v = true ∧ ((∀ b z, ∃ x, lk_sv b z v = .ref x) ∨ v = .null) ∧ q = (pc, lo, v :: st, h) := by
  unfold lk_lda at e
  split at e
  · rename_i x hx
    exact ⟨_, hx, rfl, Or.inl (fun b z => ⟨_, rfl⟩), (Option.some.inj e).symm⟩
  · rename_i hx
    exact ⟨_, hx, rfl, Or.inr rfl, (Option.some.inj e).symm⟩
  · rename_i n hx
    exact ⟨_, hx, rfl, Or.inl (fun b z => ⟨_, rfl⟩), (Option.some.inj e).symm⟩
  · cases e
theorem lk_sti_inv {lo : List Value} {i pc : Nat} {st : List Value} {h : lk_H} {q : lk_S} (e : lk_sti lo i pc st h = some q) : ∃ x r lo', st = .int x :: r ∧ lk_set lo i (.int x) = some lo' ∧ q = (pc, lo', r, h) := by
  unfold lk_sti at e
  split at e
  · rename_i x r
    cases hs : lk_set lo i (.int x) with
    | none => rw [hs] at e; cases e
    | some lo' => rw [hs] at e; exact ⟨x, r, lo', rfl, hs, (Option.some.inj e).symm⟩
  · cases e
theorem lk_stl_inv {lo : List Value} {i pc : Nat} {st : List Value} {h : lk_H} {q : lk_S} (e : lk_stl lo i pc st h = some q) : ∃ x r lo', st = .long x :: r ∧ lk_set2 lo i (.long x) = some lo' ∧ q = (pc, lo', r, h) := by
  unfold lk_stl at e
  split at e
  · rename_i x r
    cases hs : lk_set2 lo i (.long x) with
    | none => rw [hs] at e; cases e
    | some lo' => rw [hs] at e; exact ⟨x, r, lo', rfl, hs, (Option.some.inj e).symm⟩
  · cases e
theorem lk_sta_inv {lo : List Value} {i pc : Nat} {st : List Value} {h : lk_H} {q : lk_S} (e : lk_sta lo i pc st h = some q) : ∃ v r lo', st = v :: r ∧ lk_set lo i v = some lo' ∧ ((∃ x, v = .ref x) ∨ v = .null) ∧ q = (pc, lo', r, h) := by
  unfold lk_sta at e
  split at e
  · rename_i x r
    cases hs : lk_set lo i (.ref x) with
    | none => rw [hs] at e; cases e
    | some lo' => rw [hs] at e; exact ⟨_, r, lo', rfl, hs, Or.inl ⟨x, rfl⟩, (Option.some.inj e).symm⟩
  · rename_i r
    cases hs : lk_set lo i .null with
    | none => rw [hs] at e; cases e
    | some lo' => rw [hs] at e; exact ⟨_, r, lo', rfl, hs, Or.inr rfl, (Option.some.inj e).symm⟩
  · cases e
theorem lk_inc_inv {lo : List Value} {i pc : Nat} {c : Value} {st : List Value} {h : lk_H} {q : lk_S} (e : lk_inc lo i pc c st h = some q) : ∃ x y lo', lo[i]? = some (.int x) ∧ c = .int y ∧ lk_set lo i (.int (x + y)) = some lo' ∧ q = (pc, lo', st, h) := by
  unfold lk_inc at e
  split at e
  · rename_i x hx
    split at e
    · rename_i y
      cases hs : lk_set lo i (.int (x + y)) with
      | none => rw [hs] at e; cases e
      | some lo' => rw [hs] at e; exact ⟨x, y, lo', hx, rfl, hs, (Option.some.inj e).symm⟩
    · cases e
  · cases e
theorem lk_ii_inv {f : Int32 → Int32 → Option Value} {pc : Nat} {lo st : List Value} {h : lk_H} {q : lk_S} (e : lk_ii f pc lo st h = some q) : ∃ x y r v, st = .int y :: .int x :: r ∧ f x y = some v ∧ q = (pc + 1, lo, v :: r, h) := by
  unfold lk_ii at e
  split at e
  · rename_i y x r
    cases hf : f x y with
    | none => rw [hf] at e; cases e
    | some v => rw [hf] at e; exact ⟨x, y, r, v, rfl, hf, (Option.some.inj e).symm⟩
  · cases e
theorem lk_ll_inv {f : Int64 → Int64 → Option Value} {pc : Nat} {lo st : List Value} {h : lk_H} {q : lk_S} (e : lk_ll f pc lo st h = some q) : ∃ x y r v, st = .long y :: .long x :: r ∧ f x y = some v ∧ q = (pc + 1, lo, v :: r, h) := by
  unfold lk_ll at e
  split at e
  · rename_i y x r
    cases hf : f x y with
    | none => rw [hf] at e; cases e
    | some v => rw [hf] at e; exact ⟨x, y, r, v, rfl, hf, (Option.some.inj e).symm⟩
  · cases e
theorem lk_i1_inv {f : Int32 → Value} {pc : Nat} {lo st : List Value} {h : lk_H} {q : lk_S} (e : lk_i1 f pc lo st h = some q) : ∃ x r, st = .int x :: r ∧ q = (pc + 1, lo, f x :: r, h) := by
  unfold lk_i1 at e
  split at e
  · rename_i x r
    exact ⟨x, r, rfl, (Option.some.inj e).symm⟩
  · cases e
theorem lk_in_of {i : Int32} {n : Nat} (h : ¬ (i < 0 ∨ n ≤ i.toNatClampNeg)) : vp_in i n := h
theorem lk_set_len {lo lo' : List Value} {i : Nat} {v : Value} (h : lk_set lo i v = some lo') : i < lo.length ∧ lo'.length = lo.length := by
  unfold lk_set at h
  split at h
  · rename_i hi
    cases h
    exact ⟨hi, by rw [List.length_set, lk_clr_len]⟩
  · cases h
theorem lk_set2_len {lo lo' : List Value} {i : Nat} {v : Value} (h : lk_set2 lo i v = some lo') : i + 1 < lo.length ∧ lo'.length = lo.length := by
  unfold lk_set2 at h
  split at h
  · rename_i hi
    cases h
    exact ⟨hi, by rw [List.length_set, List.length_set, lk_clr_len]⟩
  · cases h
/-! switches -/
theorem lk_sw_no {l : List (Nat × Nat)} {d : Nat} {x : Int32} (h : ∀ q ∈ l, ¬ x = Int32.ofNat q.1) : lk_sw l d x = d := by
  induction l with
  | nil => rfl
  | cons q r ih =>
    simp only [lk_sw]
    rw [if_neg (h q List.mem_cons_self)]
    exact ih (fun w hw => h w (List.mem_cons_of_mem _ hw))
theorem lk_sw_yes {l : List (Nat × Nat)} {d i t : Nat} {x : Int32} (hi : l[i]? = some (i, t)) (hx : x = Int32.ofNat i) (hl : ∀ (k v w : Nat), l[k]? = some (v, w) → k < i → ¬ Int32.ofNat i = Int32.ofNat v) : lk_sw l d x = t := by
  subst hx
  suffices h : ∀ (l : List (Nat × Nat)) (j : Nat), l[j]? = some (i, t) → (∀ (k v w : Nat), l[k]? = some (v, w) → k < j → ¬ Int32.ofNat i = Int32.ofNat v) → lk_sw l d (Int32.ofNat i) = t from h l i hi hl
  intro l
  induction l with
  | nil => intro j hj; cases hj
  | cons q r ih =>
    intro j hj hl
    simp only [lk_sw]
    cases j with
    | zero =>
      cases hj
      rw [if_pos rfl]
    | succ j =>
      rw [if_neg (hl 0 q.1 q.2 rfl (Nat.succ_pos _))]
      exact ih j hj (fun k v w hk hkj => hl (k + 1) v w hk (by omega))
theorem lk_sw_look {pc d : Nat} {dflt : Int} {x : Int32} (hd : (pc : Int) + dflt = (d : Int)) : ∀ (l : List (Nat × Nat)) (ps : List (Int × Int)), l.map (fun q => ((q.1 : Int), (q.2 : Int))) = ps.map (fun q => (q.1, (pc : Int) + q.2)) → (∀ q ∈ l, q.1 < 1000) → (pc : Int) + Op.lookupswitch.offset ps dflt x.toInt = ((lk_sw l d x : Nat) : Int) := by
  intro l
  induction l with
  | nil =>
    intro ps h _
    cases ps with
    | nil =>
      show (pc : Int) + Op.lookupswitch.offset [] dflt x.toInt = (d : Int)
      rw [show Op.lookupswitch.offset [] dflt x.toInt = dflt from rfl]
      exact hd
    | cons a b => cases h
  | cons q r ih =>
    intro ps h hb
    cases ps with
    | nil => cases h
    | cons a b =>
      simp only [List.map_cons, List.cons.injEq, Prod.mk.injEq] at h
      obtain ⟨⟨h1, h2⟩, h3⟩ := h
      have hq : q.1 < 1000 := hb q List.mem_cons_self
      obtain ⟨a1, a2⟩ := a
      have hi := ih b h3 (fun w hw => hb w (List.mem_cons_of_mem _ hw))
      rw [Op.lookupswitch.offset_cons]
      simp only [lk_sw]
      dsimp only at h1 h2
      have e1 : (Int32.ofNat q.1).toInt = (q.1 : Int) := nI_toInt (by omega)
      by_cases hx : x = Int32.ofNat q.1
      · rw [if_pos hx, if_pos (by rw [hx, e1]; exact h1.symm)]
        exact h2.symm
      · rw [if_neg hx, if_neg (fun q2 => hx (Int32.toInt_inj.mp (by rw [e1, h1]; exact q2.symm)))]
        exact hi
