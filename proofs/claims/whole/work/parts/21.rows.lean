/-! rows by kinds of instructions; what a row asks is said as a proposition on what is read -/
def lk_isp : Instr → Bool
  | .iconst _ | .bipush _ | .sipush _ | .ldc _ | .lconst _ | .ldc2_w _ | .aconst_null | .iload _ | .iload_n _ | .lload _ | .lload_n _ | .aload _ | .aload_n _ | .istore _ | .istore_n _ | .lstore _ | .astore _ | .astore_n _ | .iinc _ _ | .iadd | .isub | .imul | .iand | .ior | .ishl | .ishr | .ladd | .lsub | .lmul | .lcmp | .i2l | .i2b | .i2s | .l2i | .dup | .dup2 | .goto _ => true
  | _ => false
noncomputable def lk_pure (j : Nat) : Nat → Nat → List Value → List Value → Option (Nat × List Value × List Value)
  | 0, pc, lo, st => some (pc, lo, st)
  | n + 1, pc, lo, st => match lk_ins j pc with
    | some (I, len, inf) => if lk_isp I = true then (match lk_st1 (0, fun _ => 0) I len inf pc lo st [] with
      | some q => lk_pure j n q.1 q.2.1 q.2.2.1
      | none => none) else none
    | none => none
theorem lk_isp_st1 {X : lk_X} {I : Instr} {len : Nat} {inf : lk_I} {pc : Nat} {lo st : List Value} {h : lk_H} {q : lk_S} (hp : lk_isp I = true) (e : lk_st1 (0, fun _ => 0) I len inf pc lo st [] = some q) : lk_st1 X I len inf pc lo st h = some (q.1, q.2.1, q.2.2.1, h) ∧ (∀ ret, lk_ret ret I st = none) ∧ lk_callee I inf st h = none := by
  have hcal : (∀ xi, (match I with
      | .invokestatic _ => true
      | .invokevirtual _ => true
      | .invokespecial _ => true
      | _ => xi) = xi) → lk_callee I inf st h = none := by
    intro hI
    unfold lk_callee
    split
    · split
      · split
        · exact absurd (hI false) (by simp)
        · exact absurd (hI false) (by simp)
        · exact absurd (hI false) (by simp)
        · rfl
      · rfl
    · rfl
  cases I <;> first | (simp [lk_isp] at hp; done) | skip
  all_goals refine ⟨?_, fun _ => rfl, hcal (fun _ => rfl)⟩
  all_goals simp only [lk_st1, lk_ldi, lk_ldl, lk_lda, lk_sti, lk_sta, lk_stl, lk_inc, lk_ii, lk_ll, lk_i1] at e ⊢
  all_goals first | (cases e; rfl) | skip
  all_goals repeat' (split at e)
  all_goals first | (cases e; done) | (cases e; rfl) | (obtain ⟨w, hw, rfl⟩ := Option.map_eq_some_iff.mp e; first | rfl | (simp [*]; done) | (simp_all; done)) | (cases e; simp_all; done) | skip
theorem lk_wp_pure {X : lk_X} {d j : Nat} {h : lk_H} {Q : Option Value → lk_H → Prop} {M : lk_M} (hM : lk_mt[j]? = some M) : ∀ (n pc : Nat) (lo st : List Value) (pc' : Nat) (lo' st' : List Value), lk_pure j n pc lo st = some (pc', lo', st') → lk_wp X d j pc' lo' st' h Q → lk_wp X d j pc lo st h Q := by
  intro n
  induction n with
  | zero => intro pc lo st pc' lo' st' e k; cases e; exact k
  | succ n ih =>
    intro pc lo st pc' lo' st' e k
    rw [lk_pure] at e
    split at e
    · rename_i I len inf hi
      split at e
      · rename_i hp
        split at e
        · rename_i q hq
          obtain ⟨h1, h2, h3⟩ := lk_isp_st1 (X := X) (h := h) hp hq
          exact lk_wp_step hi hM (h2 _) h3 h1 (ih _ _ _ _ _ _ e k)
        · cases e
      · cases e
    · cases e
