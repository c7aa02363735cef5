/-! WHAT A RUN COMES TO: rows for proofs over the small machine -/
def lk_wp (X : lk_X) (d j pc : Nat) (lo st : List Value) (h : lk_H) (Q : Option Value → lk_H → Prop) : Prop := ∃ n v h', lk_run X n d j pc lo st h = some (v, h') ∧ Q v h'
def lk_wx (X : lk_X) (d k : Nat) (as : List Value) (h : lk_H) (Q : Option Value → lk_H → Prop) : Prop := ∃ K, lk_mt[k]? = some K ∧ (lk_ex as).length ≤ K.2.2.1 ∧ lk_wp X d k 0 (lk_ent K.2.2.1 as) [] h Q
theorem lk_wp.mono {X : lk_X} {d d' j pc : Nat} {lo st : List Value} {h : lk_H} {Q Q' : Option Value → lk_H → Prop} (hw : lk_wp X d j pc lo st h Q) (hd : d ≤ d') (hQ : ∀ v h, Q v h → Q' v h) : lk_wp X d' j pc lo st h Q' := by
  obtain ⟨n, v, h', e, q⟩ := hw
  exact ⟨n, v, h', lk_run_mono X n d j pc lo st h _ e n d' (Nat.le_refl _) hd, hQ _ _ q⟩
theorem lk_wx.mono {X : lk_X} {d d' k : Nat} {as : List Value} {h : lk_H} {Q Q' : Option Value → lk_H → Prop} (hw : lk_wx X d k as h Q) (hd : d ≤ d') (hQ : ∀ v h, Q v h → Q' v h) : lk_wx X d' k as h Q' := by
  obtain ⟨K, h1, h2, h3⟩ := hw
  exact ⟨K, h1, h2, h3.mono hd hQ⟩
theorem lk_wp_step {X : lk_X} {d j pc : Nat} {lo st : List Value} {h : lk_H} {Q : Option Value → lk_H → Prop} {I : Instr} {len : Nat} {inf : lk_I} {M : lk_M} {q : lk_S} (hi : lk_ins j pc = some (I, len, inf)) (hM : lk_mt[j]? = some M) (hr : lk_ret M.2.2.2 I st = none) (hc : lk_callee I inf st h = none) (hs : lk_st1 X I len inf pc lo st h = some q)
    (k : lk_wp X d j q.1 q.2.1 q.2.2.1 q.2.2.2 Q) : lk_wp X d j pc lo st h Q := by
  obtain ⟨n, v, h', e, hq⟩ := k
  refine ⟨n + 1, v, h', ?_, hq⟩
  rw [lk_run, hi]
  dsimp only
  rw [hM]
  dsimp only
  rw [hr]
  dsimp only
  rw [hc]
  dsimp only
  rw [hs]
  exact e
theorem lk_wp_ret {X : lk_X} {d j pc : Nat} {lo st : List Value} {h : lk_H} {Q : Option Value → lk_H → Prop} {I : Instr} {len : Nat} {inf : lk_I} {M : lk_M} {v : Option Value} (hi : lk_ins j pc = some (I, len, inf)) (hM : lk_mt[j]? = some M) (hr : lk_ret M.2.2.2 I st = some v) (k : Q v h) : lk_wp X d j pc lo st h Q := by
  refine ⟨1, v, h, ?_, k⟩
  rw [lk_run, hi]
  dsimp only
  rw [hM]
  dsimp only
  rw [hr]
theorem lk_wp_call {X : lk_X} {d j pc : Nat} {lo st : List Value} {h : lk_H} {Q : Option Value → lk_H → Prop} {I : Instr} {len : Nat} {inf : lk_I} {M : lk_M} {k : Nat} {as rest : List Value} (hi : lk_ins j pc = some (I, len, inf)) (hM : lk_mt[j]? = some M) (hr : lk_ret M.2.2.2 I st = none) (hc : lk_callee I inf st h = some (k, as, rest)) (hcs : (rest.map fun v => v.category).sum ≤ 8)
    (kk : lk_wx X d k as h (fun v h1 => lk_wp X (d + 1) j (pc + 3) lo (v.toList ++ rest) h1 Q)) : lk_wp X (d + 1) j pc lo st h Q := by
  obtain ⟨K, hK, hex, n1, v, h1, e1, n2, w, h2, e2, hq⟩ := kk
  refine ⟨n1 + n2 + 1, w, h2, ?_, hq⟩
  rw [lk_run, hi]
  dsimp only
  rw [hM]
  dsimp only
  rw [hr]
  dsimp only
  rw [hc]
  dsimp only
  rw [if_pos hcs, hK]
  dsimp only
  rw [if_pos hex, lk_run_mono X n1 d k 0 _ _ h _ e1 (n1 + n2) d (by omega) (Nat.le_refl _)]
  exact lk_run_mono X n2 (d + 1) j _ _ _ h1 _ e2 (n1 + n2) (d + 1) (by omega) (Nat.le_refl _)
/-! locals that are no more needed -/
def lk_le (lo' lo : List Value) : Prop := lo'.length = lo.length ∧ ∀ (k : Nat) (v : Value), lo'[k]? = some v → v = .retAddr 0 ∨ lo[k]? = some v
theorem lk_le.set {lo' lo l1 : List Value} {i : Nat} {v : Value} (h : lk_le lo' lo) (e : lk_set lo' i v = some l1) : ∃ l2, lk_set lo i v = some l2 ∧ lk_le l1 l2 := by
  unfold lk_set at e
  split at e
  · rename_i hi
    cases e
    refine ⟨(lk_clr lo i).set i v, by unfold lk_set; rw [if_pos (by rw [← h.1]; exact hi)], by rw [List.length_set, List.length_set, lk_clr_len, lk_clr_len]; exact h.1, fun k w hk => ?_⟩
    rw [List.getElem?_set, lk_clr_len] at hk ⊢
    by_cases hki : i = k
    · rw [if_pos hki] at hk ⊢
      rw [if_pos hi] at hk
      rw [if_pos (by rw [← h.1]; exact hi)]
      exact Or.inr hk
    · rw [if_neg hki] at hk ⊢
      by_cases hw : lk_v w = true
      · obtain ⟨h1, h2⟩ := lk_clr_at hk hw
        rcases h.2 k w h1 with h3 | h3
        · exact Or.inl h3
        · refine Or.inr ?_
          unfold lk_clr
          split
          · rename_i hp
            rw [List.getElem?_set]
            by_cases hk1 : i - 1 = k
            · exfalso
              cases i with
              | zero => cases hp
              | succ i =>
                have hik : i = k := by omega
                subst hik
                simp only [lk_pl, h3] at hp
                exact h2 rfl (beq_iff_eq.mp hp)
            · rw [if_neg hk1]
              exact h3
          · exact h3
      · refine Or.inl ?_
        unfold lk_v at hw
        split at hw
        · rfl
        · exact absurd rfl hw
  · cases e
theorem lk_le.set2 {lo' lo l1 : List Value} {i : Nat} {v : Value} (h : lk_le lo' lo) (e : lk_set2 lo' i v = some l1) : ∃ l2, lk_set2 lo i v = some l2 ∧ lk_le l1 l2 := by
  unfold lk_set2 at e
  split at e
  · rename_i hi
    cases e
    have e1 : lk_set lo' i v = some ((lk_clr lo' i).set i v) := by unfold lk_set; rw [if_pos (by omega)]
    obtain ⟨l2, e2, h2⟩ := h.set e1
    have e3 : l2 = (lk_clr lo i).set i v := by
      unfold lk_set at e2
      rw [if_pos (by rw [← h.1]; omega)] at e2
      exact (Option.some.inj e2).symm
    subst e3
    refine ⟨_, by unfold lk_set2; rw [if_pos (by rw [← h.1]; exact hi)], by rw [List.length_set, List.length_set, List.length_set, List.length_set, lk_clr_len, lk_clr_len]; exact h.1, fun k w hk => ?_⟩
    rw [List.getElem?_set] at hk ⊢
    by_cases hki : i + 1 = k
    · rw [if_pos hki] at hk
      split at hk
      · exact Or.inl (Option.some.inj hk).symm
      · cases hk
    · rw [if_neg hki] at hk ⊢
      exact h2.2 k w hk
  · cases e
theorem lk_le.at {lo' lo : List Value} {k : Nat} {v : Value} (h : lk_le lo' lo) (hk : lo'[k]? = some v) (hv : lk_v v = true) : lo[k]? = some v := by
  rcases h.2 k v hk with h1 | h1
  · subst h1; cases hv
  · exact h1
theorem lk_le.st1 {X : lk_X} {I : Instr} {len : Nat} {inf : lk_I} {pc : Nat} {lo' lo st : List Value} {h : lk_H} {q : lk_S} (hl : lk_le lo' lo) (hst : lk_st1 X I len inf pc lo' st h = some q) : ∃ l2, lk_st1 X I len inf pc lo st h = some (q.1, l2, q.2.2.1, q.2.2.2) ∧ lk_le q.2.1 l2 := by
  cases I
  case iload i => obtain ⟨x, h1, rfl⟩ := lk_ldi_inv hst; exact ⟨lo, by simp only [lk_st1, lk_ldi, hl.at h1 rfl], hl⟩
  case iload_n i => obtain ⟨x, h1, rfl⟩ := lk_ldi_inv hst; exact ⟨lo, by simp only [lk_st1, lk_ldi, hl.at h1 rfl], hl⟩
  case lload i => obtain ⟨x, h1, rfl⟩ := lk_ldl_inv hst; exact ⟨lo, by simp only [lk_st1, lk_ldl, hl.at h1 rfl], hl⟩
  case lload_n i => obtain ⟨x, h1, rfl⟩ := lk_ldl_inv hst; exact ⟨lo, by simp only [lk_st1, lk_ldl, hl.at h1 rfl], hl⟩
  case aload i =>
    simp only [lk_st1, lk_lda] at hst ⊢
    split at hst
    · rename_i h1; cases hst; exact ⟨lo, by rw [hl.at h1 rfl], hl⟩
    · rename_i h1; cases hst; exact ⟨lo, by rw [hl.at h1 rfl], hl⟩
    · rename_i h1; cases hst; exact ⟨lo, by rw [hl.at h1 rfl], hl⟩
    · cases hst
  case aload_n i =>
    simp only [lk_st1, lk_lda] at hst ⊢
    split at hst
    · rename_i h1; cases hst; exact ⟨lo, by rw [hl.at h1 rfl], hl⟩
    · rename_i h1; cases hst; exact ⟨lo, by rw [hl.at h1 rfl], hl⟩
    · rename_i h1; cases hst; exact ⟨lo, by rw [hl.at h1 rfl], hl⟩
    · cases hst
  case istore i => obtain ⟨x, r, l1, rfl, h1, rfl⟩ := lk_sti_inv hst; obtain ⟨l2, e2, h2⟩ := hl.set h1; exact ⟨l2, by simp only [lk_st1, lk_sti, e2]; rfl, h2⟩
  case istore_n i => obtain ⟨x, r, l1, rfl, h1, rfl⟩ := lk_sti_inv hst; obtain ⟨l2, e2, h2⟩ := hl.set h1; exact ⟨l2, by simp only [lk_st1, lk_sti, e2]; rfl, h2⟩
  case lstore i => obtain ⟨x, r, l1, rfl, h1, rfl⟩ := lk_stl_inv hst; obtain ⟨l2, e2, h2⟩ := hl.set2 h1; exact ⟨l2, by simp only [lk_st1, lk_stl, e2]; rfl, h2⟩
  case astore i =>
    obtain ⟨x, r, l1, rfl, h1, h3, rfl⟩ := lk_sta_inv hst
    obtain ⟨l2, e2, h2⟩ := hl.set h1
    rcases h3 with ⟨y, rfl⟩ | rfl <;> exact ⟨l2, by simp only [lk_st1, lk_sta, e2]; rfl, h2⟩
  case astore_n i =>
    obtain ⟨x, r, l1, rfl, h1, h3, rfl⟩ := lk_sta_inv hst
    obtain ⟨l2, e2, h2⟩ := hl.set h1
    rcases h3 with ⟨y, rfl⟩ | rfl <;> exact ⟨l2, by simp only [lk_st1, lk_sta, e2]; rfl, h2⟩
  case iinc i n => obtain ⟨x, y, l1, h0, h3, h1, rfl⟩ := lk_inc_inv hst; obtain ⟨l2, e2, h2⟩ := hl.set h1; exact ⟨l2, by simp only [lk_st1, lk_inc, hl.at h0 rfl, h3, e2]; rfl, h2⟩
  case ifCond c off =>
    simp only [lk_st1] at hst ⊢
    split at hst
    · cases c <;> simp only [lk_if] at hst ⊢ <;> split at hst <;> (rename_i hc; cases hst; exact ⟨lo, by first | rw [if_pos hc] | rw [if_neg hc], hl⟩)
    · cases hst
  case if_icmp c off =>
    simp only [lk_st1] at hst ⊢
    split at hst
    · cases c <;> simp only [lk_if] at hst ⊢ <;> split at hst <;> (rename_i hc; cases hst; exact ⟨lo, by first | rw [if_pos hc] | rw [if_neg hc], hl⟩)
    · cases hst
  case newarray a =>
    cases a <;> simp only [lk_st1, lk_newa] at hst ⊢
    case int =>
      split at hst
      · split at hst
        · cases hst
        · rename_i hc; cases hst; exact ⟨lo, by rw [if_neg hc], hl⟩
      · cases hst
    case boolean =>
      split at hst
      · split at hst
        · cases hst
        · rename_i hc; cases hst; exact ⟨lo, by rw [if_neg hc], hl⟩
      · cases hst
    all_goals cases hst
  case putfield i =>
    simp only [lk_st1, lk_putf] at hst ⊢
    split at hst
    · split at hst
      · split at hst
        · rename_i c1
          split at hst
          · rename_i c2
            split at hst
            · rename_i c3
              cases hst
              exact ⟨lo, by first | rfl | rw [if_pos c1, if_pos c2, if_pos c3], hl⟩
            · cases hst
          · cases hst
        · cases hst
      · cases hst
    · cases hst
  case new i =>
    simp only [lk_st1, lk_new] at hst ⊢
    split at hst
    · rename_i fs hf
      cases hst
      exact ⟨lo, by first | rfl | rw [hf], hl⟩
    · cases hst
  all_goals simp only [lk_st1] at hst ⊢
  all_goals (first | (cases hst; exact ⟨lo, rfl, hl⟩) | (cases hst; done) | skip)
  all_goals try simp only [lk_ii, lk_ll, lk_i1, lk_aldi, lk_asti, lk_aldz, lk_astz, lk_alda, lk_asta, lk_len, lk_getf, lk_putf, lk_newq, lk_new, lk_inst, lk_cast, lk_obj, lk_cpy, lk_mm] at hst ⊢
  all_goals repeat' (split at hst)
  all_goals (first | (cases hst; done) | skip)
  all_goals (first | (cases hst; refine ⟨lo, ?_, hl⟩; first | rfl | (simp [*]; done) | (simp_all; done)) | (obtain ⟨w, hw, rfl⟩ := Option.map_eq_some_iff.mp hst; refine ⟨lo, ?_, hl⟩; first | (simp [*]; done) | (simp_all; done)))
theorem lk_run_le2 (X : lk_X) : ∀ (n d j pc : Nat) (lo' lo st : List Value) (h : lk_H) (r : Option Value × lk_H), lk_le lo' lo → lk_run X n d j pc lo' st h = some r → lk_run X n d j pc lo st h = some r := by
  intro n
  induction n with
  | zero => intro d j pc lo' lo st h r _ e; cases e
  | succ n ih =>
    intro d j pc lo' lo st h r hl e
    rw [lk_run] at e ⊢
    split at e
    · cases e
    · rename_i I len inf hi
      split at e
      · cases e
      · rename_i M hM
        split at e
        · exact e
        · split at e
          · rename_i k as rest hc
            cases d with
            | zero => cases e
            | succ d =>
              try dsimp only at e ⊢
              split at e
              · rename_i hcs
                try rw [if_pos hcs]
                split at e
                · cases e
                · rename_i K hK
                  split at e
                  · rename_i hle
                    try rw [if_pos hle]
                    split at e
                    · cases e
                    · rename_i v1 h1 he
                      exact ih _ _ _ _ _ _ _ _ hl e
                  · cases e
              · cases e
          · rename_i hc
            split at e
            · cases e
            · rename_i pc' l1 st' h1 he
              obtain ⟨l2, e2, h2⟩ := hl.st1 he
              rw [e2]
              exact ih _ _ _ _ _ _ _ _ h2 e
theorem lk_wp.forget {X : lk_X} {d j pc : Nat} {lo' lo st : List Value} {h : lk_H} {Q : Option Value → lk_H → Prop} (hw : lk_wp X d j pc lo' st h Q) (hl : lk_le lo' lo) : lk_wp X d j pc lo st h Q := by
  obtain ⟨n, v, h', e, q⟩ := hw
  exact ⟨n, v, h', lk_run_le2 X n d j pc lo' lo st h _ hl e, q⟩
