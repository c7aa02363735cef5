/-! THE RUN of the small machine -/
def lk_pop : Nat → List Value → List Value → Option (List Value × List Value)
  | 0, acc, st => some (acc, st)
  | _ + 1, _, [] => none
  | n + 1, acc, v :: st => lk_pop n (v :: acc) st
theorem lk_pop_inv : ∀ (n : Nat) (acc st as r : List Value), lk_pop n acc st = some (as, r) → ∃ bs, as = bs ++ acc ∧ bs.length = n ∧ st = bs.reverse ++ r := by
  intro n
  induction n with
  | zero =>
    intro acc st as r h
    cases h
    exact ⟨[], rfl, rfl, rfl⟩
  | succ n ih =>
    intro acc st as r h
    cases st with
    | nil => cases h
    | cons v st =>
      obtain ⟨bs, h1, h2, h3⟩ := ih (v :: acc) st as r h
      refine ⟨bs ++ [v], by rw [h1]; simp, by simp [h2], by rw [h3]; simp⟩
/-- which method a call calls, with which arguments, and what is left on the stack -/
def lk_callee (I : Instr) (inf : lk_I) (st : List Value) (h : lk_H) : Option (Nat × List Value × List Value) := match inf.2.2 with
  | .ref xi => match lk_xn[xi]? with
    | some X => match I with
      | .invokestatic _ => match inf.2.1 with
        | q :: _ => (lk_pop X.2.2.1 [] st).map (fun a => (q.2, a.1, a.2))
        | [] => none
      | .invokevirtual _ => match lk_pop X.2.2.1 [] st with
        | some (as, .ref a :: r) => match h[a]? with
          | some (.inr (c, _)) => (lk_find inf.2.1 c).map (fun k => (k, .ref a :: as, r))
          | _ => none
        | _ => none
      | .invokespecial _ => match lk_pop X.2.2.1 [] st with
        | some (as, .ref a :: r) => match inf.2.1 with
          | q :: _ => (match h[a]? with
            | some (.inr _) => some (q.2, .ref a :: as, r)
            | _ => none)
          | [] => none
        | _ => none
      | _ => none
    | none => none
  | _ => none
def lk_ret (ret : Option FieldType) (I : Instr) (st : List Value) : Option (Option Value) := match I with
  | .ireturn => match st with
    | [.int v] => match ret with
      | some .int => some (some (.int v))
      | some .boolean => if v = 0 ∨ v = 1 then some (some (.int v)) else none
      | _ => none
    | _ => none
  | .areturn => match ret with
    | some (.object _) => match st with
      | [.ref a] => some (some (.ref a))
      | [.null] => some (some .null)
      | _ => none
    | some (.array _) => match st with
      | [.ref a] => some (some (.ref a))
      | [.null] => some (some .null)
      | _ => none
    | _ => none
  | .return_ => match st with
    | [] => match ret with
      | none => some none
      | _ => none
    | _ => none
  | _ => none
/-- n: how many instructions at most (of each call that stands open); d: how deep calls may go -/
noncomputable def lk_run (X : lk_X) : Nat → Nat → Nat → Nat → List Value → List Value → lk_H → Option (Option Value × lk_H)
  | 0, _, _, _, _, _, _ => none
  | n + 1, d, j, pc, lo, st, h => match lk_ins j pc with
    | none => none
    | some (I, len, inf) => match lk_mt[j]? with
      | none => none
      | some M => match lk_ret M.2.2.2 I st with
        | some r => some (r, h)
        | none => match lk_callee I inf st h with
          | some (k, as, rest) => match d with
            | 0 => none
            | d + 1 => if (rest.map fun v => v.category).sum ≤ 8 then (match lk_mt[k]? with
              | none => none
              | some K => if (lk_ex as).length ≤ K.2.2.1 then (match lk_run X n d k 0 (lk_ent K.2.2.1 as) [] h with
                | none => none
                | some (v, h1) => lk_run X n (d + 1) j (pc + 3) lo (v.toList ++ rest) h1) else none) else none
          | none => match lk_st1 X I len inf pc lo st h with
            | none => none
            | some (pc', lo', st', h') => lk_run X n d j pc' lo' st' h'
/-- a step keeps cells, or changes one in place, or makes one -/
theorem lk_st1_grow {X : lk_X} {I : Instr} {len : Nat} {inf : lk_I} {pc : Nat} {lo st : List Value} {h : lk_H} {q : lk_S} (hst : lk_st1 X I len inf pc lo st h = some q) :
    q.2.2.2 = h ∨ (∃ a x y, q.2.2.2 = h.set a y ∧ h[a]? = some x ∧ lk_cz y = lk_cz x) ∨ ∃ y, q.2.2.2 = h ++ [y] := by
  have same : ∀ {pc' : Nat} {lo' st' : List Value}, some (pc', lo', st', h) = some q → q.2.2.2 = h := fun e => by cases e; rfl
  cases I
  case iload i => obtain ⟨x, -, rfl⟩ := lk_ldi_inv hst; exact Or.inl rfl
  case iload_n i => obtain ⟨x, -, rfl⟩ := lk_ldi_inv hst; exact Or.inl rfl
  case lload i => obtain ⟨x, -, rfl⟩ := lk_ldl_inv hst; exact Or.inl rfl
  case lload_n i => obtain ⟨x, -, rfl⟩ := lk_ldl_inv hst; exact Or.inl rfl
  case aload i => obtain ⟨x, -, -, -, rfl⟩ := lk_lda_inv hst; exact Or.inl rfl
  case aload_n i => obtain ⟨x, -, -, -, rfl⟩ := lk_lda_inv hst; exact Or.inl rfl
  case istore i => obtain ⟨x, r, lo', rfl, -, rfl⟩ := lk_sti_inv hst; exact Or.inl rfl
  case istore_n i => obtain ⟨x, r, lo', rfl, -, rfl⟩ := lk_sti_inv hst; exact Or.inl rfl
  case lstore i => obtain ⟨x, r, lo', rfl, -, rfl⟩ := lk_stl_inv hst; exact Or.inl rfl
  case astore i => obtain ⟨x, r, lo', rfl, -, -, rfl⟩ := lk_sta_inv hst; exact Or.inl rfl
  case astore_n i => obtain ⟨x, r, lo', rfl, -, -, rfl⟩ := lk_sta_inv hst; exact Or.inl rfl
  case iinc i n => obtain ⟨x, y, lo', -, -, -, rfl⟩ := lk_inc_inv hst; exact Or.inl rfl
  case iadd => obtain ⟨x, y, r, v, rfl, -, rfl⟩ := lk_ii_inv hst; exact Or.inl rfl
  case isub => obtain ⟨x, y, r, v, rfl, -, rfl⟩ := lk_ii_inv hst; exact Or.inl rfl
  case imul => obtain ⟨x, y, r, v, rfl, -, rfl⟩ := lk_ii_inv hst; exact Or.inl rfl
  case idiv => obtain ⟨x, y, r, v, rfl, -, rfl⟩ := lk_ii_inv hst; exact Or.inl rfl
  case irem => obtain ⟨x, y, r, v, rfl, -, rfl⟩ := lk_ii_inv hst; exact Or.inl rfl
  case iand => obtain ⟨x, y, r, v, rfl, -, rfl⟩ := lk_ii_inv hst; exact Or.inl rfl
  case ior => obtain ⟨x, y, r, v, rfl, -, rfl⟩ := lk_ii_inv hst; exact Or.inl rfl
  case ishl => obtain ⟨x, y, r, v, rfl, -, rfl⟩ := lk_ii_inv hst; exact Or.inl rfl
  case ishr => obtain ⟨x, y, r, v, rfl, -, rfl⟩ := lk_ii_inv hst; exact Or.inl rfl
  case ladd => obtain ⟨x, y, r, v, rfl, -, rfl⟩ := lk_ll_inv hst; exact Or.inl rfl
  case lsub => obtain ⟨x, y, r, v, rfl, -, rfl⟩ := lk_ll_inv hst; exact Or.inl rfl
  case lmul => obtain ⟨x, y, r, v, rfl, -, rfl⟩ := lk_ll_inv hst; exact Or.inl rfl
  case lcmp => obtain ⟨x, y, r, v, rfl, -, rfl⟩ := lk_ll_inv hst; exact Or.inl rfl
  case i2l => obtain ⟨x, r, rfl, rfl⟩ := lk_i1_inv hst; exact Or.inl rfl
  case i2b => obtain ⟨x, r, rfl, rfl⟩ := lk_i1_inv hst; exact Or.inl rfl
  case i2s => obtain ⟨x, r, rfl, rfl⟩ := lk_i1_inv hst; exact Or.inl rfl
  case ifCond c off =>
    simp only [lk_st1] at hst
    split at hst
    · cases c <;> simp only [lk_if] at hst <;> split at hst <;> exact Or.inl (same hst)
    · cases hst
  case if_icmp c off =>
    simp only [lk_st1] at hst
    split at hst
    · cases c <;> simp only [lk_if] at hst <;> split at hst <;> exact Or.inl (same hst)
    · cases hst
  case newarray a =>
    cases a <;> simp only [lk_st1] at hst
    case int =>
      unfold lk_newa at hst
      split at hst
      · split at hst
        · cases hst
        · cases hst
          exact Or.inr (Or.inr ⟨_, rfl⟩)
      · cases hst
    case boolean =>
      unfold lk_newa at hst
      split at hst
      · split at hst
        · cases hst
        · cases hst
          exact Or.inr (Or.inr ⟨_, rfl⟩)
      · cases hst
    all_goals cases hst
  all_goals simp only [lk_st1] at hst
  all_goals (first | exact Or.inl (same hst) | skip)
  all_goals try cases hst
  all_goals try simp only [lk_aldi, lk_asti, lk_aldz, lk_astz, lk_alda, lk_asta, lk_len, lk_getf, lk_putf, lk_newq, lk_new, lk_inst, lk_cast, lk_obj, lk_cpy, lk_mm] at hst
  all_goals repeat' (split at hst)
  all_goals (first | (cases hst; done) | exact Or.inl (same hst) | (cases hst; exact Or.inr (Or.inr ⟨_, rfl⟩)) | (cases hst; refine Or.inr (Or.inl ⟨_, _, _, rfl, by assumption, ?_⟩); first | rfl | (simp [lk_cz]; done)) | (obtain ⟨w, -, rfl⟩ := Option.map_eq_some_iff.mp hst; exact Or.inl rfl))
theorem lk_st1_le {X : lk_X} {I : Instr} {len : Nat} {inf : lk_I} {pc : Nat} {lo st : List Value} {h : lk_H} {q : lk_S} (hst : lk_st1 X I len inf pc lo st h = some q) : h.length ≤ q.2.2.2.length ∧ lk_sz h ≤ lk_sz q.2.2.2 := by
  rcases lk_st1_grow hst with e | ⟨a, x, y, e, h1, h2⟩ | ⟨y, e⟩
  · rw [e]; exact ⟨Nat.le_refl _, Nat.le_refl _⟩
  · rw [e, lk_sz_set h1 h2, List.length_set]; exact ⟨Nat.le_refl _, Nat.le_refl _⟩
  · rw [e, lk_sz_app, List.length_append]; exact ⟨Nat.le_add_right _ _, Nat.le_add_right _ _⟩
/-- a run makes cells, and takes none away -/
theorem lk_run_le (X : lk_X) : ∀ (n d j pc : Nat) (lo st : List Value) (h : lk_H) (v : Option Value) (h' : lk_H), lk_run X n d j pc lo st h = some (v, h') → h.length ≤ h'.length ∧ lk_sz h ≤ lk_sz h' := by
  intro n
  induction n with
  | zero => intro d j pc lo st h v h' e; cases e
  | succ n ih =>
    intro d j pc lo st h v h' e
    rw [lk_run] at e
    split at e
    · cases e
    · rename_i I len inf hi
      split at e
      · cases e
      · rename_i M hM
        split at e
        · cases e; exact ⟨Nat.le_refl _, Nat.le_refl _⟩
        · split at e
          · rename_i k as rest hc
            cases d with
            | zero => cases e
            | succ d =>
              dsimp only at e
              split at e
              · split at e
                · cases e
                · rename_i K hK
                  split at e
                  · split at e
                    · cases e
                    · rename_i v1 h1 he
                      have a1 := ih _ _ _ _ _ _ _ _ he
                      have a2 := ih _ _ _ _ _ _ _ _ e
                      exact ⟨Nat.le_trans a1.1 a2.1, Nat.le_trans a1.2 a2.2⟩
                  · cases e
              · cases e
          · split at e
            · cases e
            · rename_i pc' lo' st' h1 he
              have a1 := lk_st1_le he
              have a2 := ih _ _ _ _ _ _ _ _ e
              exact ⟨Nat.le_trans a1.1 a2.1, Nat.le_trans a1.2 a2.2⟩
/-- more instructions, deeper calls: the same end -/
theorem lk_run_mono (X : lk_X) : ∀ (n d j pc : Nat) (lo st : List Value) (h : lk_H) (r : Option Value × lk_H), lk_run X n d j pc lo st h = some r → ∀ (n' d' : Nat), n ≤ n' → d ≤ d' → lk_run X n' d' j pc lo st h = some r := by
  intro n
  induction n with
  | zero => intro d j pc lo st h r e; cases e
  | succ n ih =>
    intro d j pc lo st h r e n' d' hn hd
    obtain ⟨n', rfl⟩ : ∃ k, n' = k + 1 := ⟨n' - 1, by omega⟩
    rw [lk_run] at e ⊢
    split at e
    · cases e
    · rename_i I len inf hi
      split at e
      · cases e
      · rename_i M hM
        split at e
        · rename_i rr hr
          try rw [hr]
          exact e
        · rename_i hr
          try rw [hr]
          try dsimp only
          split at e
          · rename_i k as rest hc
            try rw [hc]
            cases d with
            | zero => cases e
            | succ d =>
              obtain ⟨d', rfl⟩ : ∃ k, d' = k + 1 := ⟨d' - 1, by omega⟩
              try dsimp only at e ⊢
              split at e
              · rename_i hcs
                try rw [if_pos hcs]
                split at e
                · cases e
                · rename_i K hK
                  try rw [hK]
                  try dsimp only
                  split at e
                  · rename_i hle
                    try rw [if_pos hle]
                    split at e
                    · cases e
                    · rename_i v1 h1 he
                      rw [ih _ _ _ _ _ _ _ he n' d' (by omega) (by omega)]
                      exact ih _ _ _ _ _ _ _ e n' (d' + 1) (by omega) (by omega)
                  · cases e
              · cases e
          · rename_i hc
            try rw [hc]
            try dsimp only
            split at e
            · cases e
            · rename_i pc' lo' st' h1 he
              try rw [he]
              exact ih _ _ _ _ _ _ _ e n' d' (by omega) (by omega)
