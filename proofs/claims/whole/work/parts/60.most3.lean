/-! most and together, tied -/
section MOST3
variable {X : lk_X} {d : Nat} {x : Nat → Nat → Int32} {S L : Nat → Option Nat} {m : Nat → Nat → Int32} {dyn : lk_H}
theorem Rel.x34 (h : Rel x S L m dyn) {x' : Nat → Nat → Int32} (hx : ∀ q, ¬ q = 3 → ¬ q = 4 → x' q = x q) : Rel x' S L m dyn := by
  obtain ⟨r1, r2, r3, r4, r5⟩ := h
  exact ⟨r1.congr (fun c hc => hx c (by omega) (by omega)) rfl rfl rfl, r2.congr (by rw [hx 0 (by decide) (by decide)]; exact r2.1) (hx 1 (by decide) (by decide)) (hx 2 (by decide) (by decide)) rfl rfl, r3, r4, r5.congr (hx 5 (by decide) (by decide)) (hx 6 (by decide) (by decide)) (hx 7 (by decide) (by decide)) rfl rfl⟩
theorem OR.g15 {n : Nat} {g : Nat → Nat} (h : OR n g) {i : Nat} (hi : i < n) : g i ≤ 15 := by
  have := h.2.2.1 i hi
  have := h.2.1
  omega
theorem self_eq {n c c' : Nat} {g : Nat → Nat} (ho : OR n g) (h1 : MX (fun r' s => 1 ≤ r' ∧ r' < n ∧ -15 ≤ s ∧ s ≤ 15) (Mt n n g g) c) (h2 : MX (fun r' s' => -16 ≤ r' ∧ r' < 17 ∧ -16 ≤ s' ∧ s' ≤ 16) (Gm true (Mt n n g g)) c') : c = c' := by
  have hn := ho.2.1
  have h1' : MX (fun r' s => 1 ≤ r' ∧ r' < n ∧ -15 ≤ s ∧ s ≤ 15) (Gm true (Mt n n g g)) c := by
    have e : ∀ r s : Int, 1 ≤ r → Gm true (Mt n n g g) r s = Mt n n g g r s := fun r s hr => by
      unfold Gm
      rw [if_neg (by omega)]
    refine ⟨fun r s q => by rw [e r s q.1]; exact h1.1 r s q, ?_⟩
    rcases h1.2 with q | ⟨r, s, q1, q2⟩
    · exact Or.inl q
    · exact Or.inr ⟨r, s, q1, by rw [e r s q1.1]; exact q2⟩
  refine h1'.eq h2 (fun r s q => Or.inr ⟨r, s, by omega, rfl⟩) (fun r s q => ?_)
  unfold Gm
  by_cases hs : -15 ≤ s ∧ s ≤ 15
  · rcases Int.lt_trichotomy r 0 with hr | hr | hr
    · rw [if_neg (by omega)]
      by_cases hf : r < 1 - (n : Int)
      · exact Or.inl (Mt_far (Or.inl hf))
      · refine Or.inr ⟨-r, -s, by omega, ?_⟩
        rw [if_neg (by omega)]
        obtain ⟨p, hp⟩ : ∃ p : Nat, (p : Int) = -r := ⟨(-r).toNat, by omega⟩
        rw [show r = -(p : Int) by omega, Int.neg_neg, Mt_sym]
    · subst hr
      by_cases hs0 : s = 0
      · rw [if_pos ⟨rfl, rfl, hs0⟩]
        exact Or.inl rfl
      · rw [if_neg (fun w => hs0 w.2.2)]
        left
        unfold Mt
        refine cn_zero fun j _ hj => ?_
        unfold Mf
        rw [decide_eq_true_iff, Int.add_zero, Int.toNat_natCast]
        omega
    · rw [if_neg (by omega)]
      by_cases hf : (n : Int) ≤ r
      · exact Or.inl (Mt_far (Or.inr hf))
      · exact Or.inr ⟨r, s, by omega, by rw [if_neg (by omega)]⟩
  · rw [if_neg (by omega)]
    exact Or.inl (Mt_wide (fun i hi => ho.g15 hi) (fun i hi => ho.g15 hi) (by omega))
theorem two_eq {na nb c c' : Nat} {ga gb : Nat → Nat} (ha : OR na ga) (hb : OR nb gb) (h1 : MX (fun r' s => 1 - (nb : Int) ≤ r' ∧ r' < na ∧ -15 ≤ s ∧ s ≤ 15) (Mt na nb ga gb) c) (h2 : MX (fun r' s' => -16 ≤ r' ∧ r' < 17 ∧ -16 ≤ s' ∧ s' ≤ 16) (Gm false (Mt na nb ga gb)) c') : c = c' := by
  have hna := ha.2.1
  have hnb := hb.2.1
  have e : Gm false (Mt na nb ga gb) = Mt na nb ga gb := by
    funext r s
    unfold Gm
    rw [if_neg (by simp)]
  rw [e] at h2
  refine h1.eq h2 (fun r s q => Or.inr ⟨r, s, by omega, rfl⟩) (fun r s q => ?_)
  by_cases hs : -15 ≤ s ∧ s ≤ 15
  · by_cases hf : r < 1 - (nb : Int) ∨ (na : Int) ≤ r
    · exact Or.inl (Mt_far hf)
    · exact Or.inr ⟨r, s, by omega, rfl⟩
  · exact Or.inl (Mt_wide (fun i hi => ha.g15 hi) (fun i hi => hb.g15 hi) (by omega))
theorem T_most (h : Rel x S L m dyn) (a : Int32) : TE X (d + 5) 87 161 [.int a] x S L m dyn := by
  by_cases ha : 0 ≤ a.toInt ∧ a.toInt ≤ 9
  · obtain ⟨p, rfl, hp1, -⟩ := i32_nat ha.1
    have hp10 : p < 10 := by omega
    rcases h.ord hp10 with ⟨f, hf, o1, o2, o3⟩ | ⟨a1, c1, b1, n1, g1, s1, t1, or1, m1, o1, o3⟩
    · refine TE.mk0 (r := -1000010 - f) (E_x_most ?_) (E_m_most ?_) (h.st f)
      · rw [S_x_isPlace.iffi]
        refine br_n1 (bI_t ha) ?_
        rw [hp_v0, (o1 X (d + 3)).iffn, hp_v0, (o2 X (d + 3)).iffi, hp_v0, S_x_found.iffi]
        exact ⟨rfl, rfl⟩
      · rw [S_m_isPlace.iffi]
        refine br_n1 (bI_t ha) ?_
        rw [hp_v29, (o3 X (d + 2) _ _ _ _ m rfl).iffi]
        rcases hf with rfl | rfl
        · exact br_f (by decide) ⟨rfl, rfl⟩
        · exact br_f (by decide) ⟨rfl, rfl⟩
    · have t1' : ∀ x', tr (hp x' S L m dyn) (44 + a1) c1 (44 + b1) n1 g1 := fun x' => by
        have := t1 x' S L m []
        rw [List.append_nil] at this
        exact this
      obtain ⟨x1, c, e1, e2, e3⟩ := C_self (X := X) (d := d + 1) (x := x) (fun x' => (t1' x').2.2) (fun i hi => or1.g15 hi) or1.1
      obtain ⟨c', f1, f2⟩ := M_greatest (X := X) (d := d + 1) (x := ms x1 0 0 0) (S := S) (L := L) (dyn := dyn) (mv := true) m1 m1
      have hcc := self_eq or1 e3 f2
      subst hcc
      refine TE.mk0 (r := nI c) (E_x_most ?_) (E_m_most ?_) ((h.x34 (fun q h3 _ => e2 q h3)).st 0)
      · rw [S_x_isPlace.iffi]
        refine br_n1 (bI_t ha) ?_
        rw [hp_v0, (o1 X (d + 3)).iffr, hp_f0_3, (t1' x).fR has5, hp_v5, e1.iffi, hp_v0, S_x_settled.iffi]
        exact ⟨rfl, rfl⟩
      · rw [S_m_isPlace.iffi]
        refine br_n1 (bI_t ha) ?_
        rw [hp_v29, (o3 X (d + 2) _ _ _ _ m rfl).iffi]
        refine br_t rfl ?_
        rw [hp_v29, show (Value.int 1) = Value.int (oI true) from rfl, f1.iffi, hp_v29, S_m_well.iffi]
        exact ⟨rfl, rfl⟩
  · refine TE.mk0 (r := -1000001) (E_x_most ?_) (E_m_most ?_) h
    · rw [S_x_isPlace.iffi]
      exact br_n2 (bI_f ha) ⟨rfl, rfl⟩
    · rw [S_m_isPlace.iffi]
      exact br_n2 (bI_f ha) ⟨rfl, rfl⟩
theorem T_together (h : Rel x S L m dyn) (a b : Int32) : TE X (d + 5) 88 162 [.int a, .int b] x S L m dyn := by
  by_cases ha : 0 ≤ a.toInt ∧ a.toInt ≤ 9
  · by_cases hb : 0 ≤ b.toInt ∧ b.toInt ≤ 9
    · obtain ⟨p, rfl, hp1, -⟩ := i32_nat ha.1
      obtain ⟨q, rfl, hq1, -⟩ := i32_nat hb.1
      have hp10 : p < 10 := by omega
      have hq10 : q < 10 := by omega
      rcases h.ord hp10 with ⟨f, hf, o1, o2, o3⟩ | ⟨a1, c1, b1, n1, g1, s1, t1, or1, m1, o1, o3⟩
      · refine TE.mk0 (r := -1000010 - f) (E_x_together ?_) (E_m_together ?_) (h.st f)
        · rw [S_x_isPlace.iffi]
          refine br_f (bI_t ha) ?_
          rw [S_x_isPlace.iffi]
          refine br_n1 (bI_t hb) ?_
          rw [hp_v0, (o1 X (d + 3)).iffn, hp_v0, (o2 X (d + 3)).iffi, hp_v0, S_x_found.iffi]
          exact ⟨rfl, rfl⟩
        · rw [S_m_isPlace.iffi]
          refine br_f (bI_t ha) ?_
          rw [S_m_isPlace.iffi]
          refine br_n1 (bI_t hb) ?_
          rw [hp_v29, (o3 X (d + 2) _ _ _ _ m rfl).iffi]
          rcases hf with rfl | rfl
          · exact br_n1 (by decide) (br_f (by decide) ⟨rfl, rfl⟩)
          · exact br_n1 (by decide) (br_f (by decide) ⟨rfl, rfl⟩)
      · rcases h.ord hq10 with ⟨f, hf, o4, o5, o6⟩ | ⟨a2, c2, b2, n2, g2, s2, t2, or2, m2, o4, o6⟩
        · refine TE.mk0 (r := -1000010 - f) (E_x_together ?_) (E_m_together ?_) (h.st f)
          · rw [S_x_isPlace.iffi]
            refine br_f (bI_t ha) ?_
            rw [S_x_isPlace.iffi]
            refine br_n1 (bI_t hb) ?_
            rw [hp_v0, (o1 X (d + 3)).iffr, hp_v0, (o4 X (d + 3)).iffn, hp_v0, (o5 X (d + 3)).iffi, hp_v0, S_x_found.iffi]
            exact ⟨rfl, rfl⟩
          · rw [S_m_isPlace.iffi]
            refine br_f (bI_t ha) ?_
            rw [S_m_isPlace.iffi]
            refine br_n1 (bI_t hb) ?_
            rw [hp_v29, (o3 X (d + 2) _ _ _ _ m rfl).iffi]
            refine br_n2 rfl ?_
            rw [hp_v29, (o6 X (d + 2) _ _ _ _ m rfl).iffi]
            rcases hf with rfl | rfl
            · exact br_f (by decide) ⟨rfl, rfl⟩
            · exact br_f (by decide) ⟨rfl, rfl⟩
        · have t1' : ∀ x', tr (hp x' S L m dyn) (44 + a1) c1 (44 + b1) n1 g1 := fun x' => by
            have := t1 x' S L m []
            rw [List.append_nil] at this
            exact this
          have t2' : ∀ x', tr (hp x' S L m dyn) (44 + a2) c2 (44 + b2) n2 g2 := fun x' => by
            have := t2 x' S L m []
            rw [List.append_nil] at this
            exact this
          obtain ⟨x1, c, e1, e2, e3⟩ := C_two (X := X) (d := d + 1) (x := x) (fun x' => (t1' x').2.2) (fun x' => (t2' x').2.2) (fun i hi => or1.g15 hi) (fun i hi => or2.g15 hi) or1.1
          obtain ⟨c', f1, f2⟩ := M_greatest (X := X) (d := d + 1) (x := ms x1 0 0 0) (S := S) (L := L) (dyn := dyn) (mv := false) m1 m2
          have hcc := two_eq or1 or2 e3 f2
          subst hcc
          refine TE.mk0 (r := nI c) (E_x_together ?_) (E_m_together ?_) ((h.x34 (fun q h3 _ => e2 q h3)).st 0)
          · rw [S_x_isPlace.iffi]
            refine br_f (bI_t ha) ?_
            rw [S_x_isPlace.iffi]
            refine br_n1 (bI_t hb) ?_
            rw [hp_v0, (o1 X (d + 3)).iffr, hp_v0, (o4 X (d + 3)).iffr, hp_f0_3, (t1' x).fR has5, (t2' x).fR has5, hp_v5, e1.iffi, hp_v0, S_x_settled.iffi]
            exact ⟨rfl, rfl⟩
          · rw [S_m_isPlace.iffi]
            refine br_f (bI_t ha) ?_
            rw [S_m_isPlace.iffi]
            refine br_n1 (bI_t hb) ?_
            rw [hp_v29, (o3 X (d + 2) _ _ _ _ m rfl).iffi]
            refine br_n2 rfl ?_
            rw [hp_v29, (o6 X (d + 2) _ _ _ _ m rfl).iffi]
            refine br_t rfl ?_
            rw [hp_v29, show (Value.int 0) = Value.int (oI false) from rfl, f1.iffi, hp_v29, S_m_well.iffi]
            exact ⟨rfl, rfl⟩
    · refine TE.mk0 (r := -1000001) (E_x_together ?_) (E_m_together ?_) h
      · rw [S_x_isPlace.iffi]
        refine br_f (bI_t ha) ?_
        rw [S_x_isPlace.iffi]
        exact br_n2 (bI_f hb) ⟨rfl, rfl⟩
      · rw [S_m_isPlace.iffi]
        refine br_f (bI_t ha) ?_
        rw [S_m_isPlace.iffi]
        exact br_n2 (bI_f hb) ⟨rfl, rfl⟩
  · refine TE.mk0 (r := -1000001) (E_x_together ?_) (E_m_together ?_) h
    · rw [S_x_isPlace.iffi]
      exact br_t (bI_f ha) ⟨rfl, rfl⟩
    · rw [S_m_isPlace.iffi]
      exact br_t (bI_f ha) ⟨rfl, rfl⟩
end MOST3
