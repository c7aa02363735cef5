/-! THE LAW over the small machine -/
theorem sz_num (z : Nat) : 7 + (8 + (10 + (2 + (16 + (2 + (31 + (441 + (8 + (4 + (7 + (6 + (201 + (4 + (60 + (4 + (60 + (4 + (60 + (4 + (60 + (4 + (60 + (4 + (60 + (4 + (60 + (4 + (60 + (17 + (8 + (8 + (480 + (60 + (11 + (11 + (176 + (16 + (4 + (16 + (8 + (8 + (7 + (6 + (z)))))))))))))))))))))))))))))))))))))))))))) = 2091 + z := by omega
theorem sz_hp (x : Nat → Nat → Int32) (S L : Nat → Option Nat) (m : Nat → Nat → Int32) (dyn : lk_H) : lk_sz (hp x S L m dyn) = 2091 + lk_sz dyn := sz_num (lk_sz dyn)
theorem law_st {t a b k : Nat} (h1 : a ≤ k * t) (h2 : b ≤ k) : a + b ≤ k * (t + 1) := by
  rw [Nat.mul_add, Nat.mul_one]
  exact Nat.add_le_add h1 h2
theorem law_bd {t a b c : Nat} (hX : c ≤ 3072) (ht : 6 * t ≤ c) (hl : a ≤ 8 * t) (hs : b ≤ 400 * t) : 44 + a ≤ 5000 ∧ 2091 + b ≤ 300000 := by omega
section LAW
variable {X : lk_X} {d : Nat}
theorem law_loop (hX : X.1 ≤ 3072) {Q : Option Value → lk_H → Prop} (hQ : ∀ h : lk_H, h.length ≤ 5000 → lk_sz h ≤ 300000 → Q (some (.int 1)) h) : ∀ (u t : Nat) (x : Nat → Nat → Int32) (S L : Nat → Option Nat) (m : Nat → Nat → Int32) (dyn : lk_H), X.1 ≤ 6 * t + 6 * u + 5 → 6 * t ≤ X.1 → Rel x S L m dyn → dyn.length ≤ 8 * t → lk_sz dyn ≤ 400 * t → lk_wp X (d + 15) 174 18 [.retAddr 1, .ref 0, .ref 29, .int (nI (6 * t))] [] (hp x S L m dyn) Q := by
  have eL : ∀ t : Nat, t ≤ 4000 → (((Int32.ofNat X.1) - 6) < nI t ↔ X.1 < t + 6) := by
    intro t ht
    rw [show (Int32.ofNat X.1) = nI X.1 from rfl, show (6 : Int32) = nI 6 from rfl, i32_lt, pk_sub_toInt (by omega) (by omega), i32_nI (by omega)]
    omega
  intro u
  induction u with
  | zero =>
    intro t x S L m dyn hu ht hR hl hs
    refine F_law_law_18 (br_t ((eL _ (by omega)).mpr (by omega)) (hQ _ ?_ ?_))
    · rw [hp_length]
      exact (law_bd hX ht hl hs).1
    · rw [sz_hp]
      exact (law_bd hX ht hl hs).2
  | succ u ih =>
    intro t x S L m dyn hu ht hR hl hs
    by_cases hend : X.1 < 6 * t + 6
    · refine F_law_law_18 (br_t ((eL _ (by omega)).mpr hend) (hQ _ ?_ ?_))
      · rw [hp_length]
        exact (law_bd hX ht hl hs).1
      · rw [sz_hp]
        exact (law_bd hX ht hl hs).2
    · have v0 : vp_in (nI (6 * t)) X.1 := vp_in_nI (by omega) (by omega)
      have v1 : vp_in (nI (6 * t) + 1) X.1 := by rw [show (1 : Int32) = nI 1 from rfl, nI_add]; exact vp_in_nI (by omega) (by omega)
      have v2 : vp_in (nI (6 * t) + 2) X.1 := by rw [show (2 : Int32) = nI 2 from rfl, nI_add]; exact vp_in_nI (by omega) (by omega)
      have v3 : vp_in (nI (6 * t) + 3) X.1 := by rw [show (3 : Int32) = nI 3 from rfl, nI_add]; exact vp_in_nI (by omega) (by omega)
      have v4 : vp_in (nI (6 * t) + 4) X.1 := by rw [show (4 : Int32) = nI 4 from rfl, nI_add]; exact vp_in_nI (by omega) (by omega)
      have v5 : vp_in (nI (6 * t) + 5) X.1 := by rw [show (5 : Int32) = nI 5 from rfl, nI_add]; exact vp_in_nI (by omega) (by omega)
      have e6 : nI (6 * t) + 6 = nI (6 * (t + 1)) := by rw [show (6 : Int32) = nI 6 from rfl, nI_add]; rfl
      have next : ∀ x' S' L' m' l, Rel x' S' L' m' (dyn ++ l) → l.length ≤ 8 → lk_sz l ≤ 400 → lk_wp X (d + 15) 174 18 [.retAddr 1, .ref 0, .ref 29, .int (nI (6 * (t + 1)))] [] (hp x' S' L' m' (dyn ++ l)) Q := by
        intro x' S' L' m' l hR' h1 h2
        refine ih (t + 1) x' S' L' m' (dyn ++ l) (by omega) (by omega) hR' (by rw [List.length_append]; exact law_st hl h1) ?_
        have e : lk_sz (dyn ++ l) = lk_sz dyn + lk_sz l := by simp [lk_sz]
        rw [e]
        exact law_st hs h2
      have go : ∀ (kx km : Nat) (as : List Value), TE X (d + 14) kx km as x S L m dyn → lk_vc (hp x S L m dyn) 0 [(10, kx)] (fun k6 => lk_wxi X (d + 14) k6 (.ref 0 :: as) (hp x S L m dyn) (fun r2 h1 => lk_vc h1 29 [(11, km)] (fun k5 => lk_wxi X (d + 14) k5 (.ref 29 :: as) h1 (fun r4 h3 => (r2 = r4 → lk_wp X (d + 15) 174 18 [.retAddr 1, .ref 0, .ref 29, .int (nI (6 * (t + 1)))] [] h3 Q) ∧ (¬ r2 = r4 → Q (some (.int 0)) h3))))) := by
        intro kx km as hT
        obtain ⟨r, x', S', L', m', l, e1, e2, hR', h1, h2⟩ := hT
        rw [hp_v0, e1.iffi, hp_v29, e2.iffi]
        exact br_t rfl (next x' S' L' m' l hR' h1 h2)
      have gov : ∀ (V : Prop) (kx km : Nat) (as : List Value), V → TE X (d + 14) kx km as x S L m dyn → lk_vc (hp x S L m dyn) 0 [(10, kx)] (fun k6 => lk_wxi X (d + 14) k6 (.ref 0 :: as) (hp x S L m dyn) (fun r2 h1 => V ∧ lk_vc h1 29 [(11, km)] (fun k5 => lk_wxi X (d + 14) k5 (.ref 29 :: as) h1 (fun r4 h3 => (r2 = r4 → lk_wp X (d + 15) 174 18 [.retAddr 1, .ref 0, .ref 29, .int (nI (6 * (t + 1)))] [] h3 Q) ∧ (¬ r2 = r4 → Q (some (.int 0)) h3))))) := by
        intro V kx km as hV hT
        obtain ⟨r, x', S', L', m', l, e1, e2, hR', h1, h2⟩ := hT
        rw [hp_v0, e1.iffi]
        refine ⟨hV, ?_⟩
        rw [hp_v29, e2.iffi]
        exact br_t rfl (next x' S' L' m' l hR' h1 h2)
      refine F_law_law_18 (br_f (fun w => hend ((eL _ (by omega)).mp w)) ⟨v0, ?_⟩)
      rw [e6]
      refine ⟨fun _ => ?_, fun _ => ⟨fun _ => ?_, fun _ => ⟨fun _ => ?_, fun _ => ⟨fun _ => ?_, fun _ => ⟨fun _ => ?_, fun _ => ⟨fun _ => ?_, fun _ => ⟨fun _ => ?_, fun _ => ⟨fun _ => ?_, fun _ => ⟨fun _ => ?_, fun _ => ⟨fun _ => ?_, fun _ => ⟨fun _ => ?_, fun _ => ⟨fun _ => ?_, fun _ => ⟨fun _ => ?_, fun _ => ⟨fun _ => ?_, fun _ => ⟨fun _ => ?_, fun _ => ⟨fun _ => ?_, fun _ => ⟨fun _ => ?_, fun _ => ⟨fun _ => ?_, fun _ => ⟨fun _ => ?_, fun _ => ⟨fun _ => ?_, fun _ => ⟨fun _ => ?_, fun _ => ⟨fun _ => ?_, fun _ => ⟨fun _ => ?_, fun _ => ⟨fun _ => ?_, fun _ => ⟨fun _ => ?_, fun _ => ⟨fun _ => ?_, fun _ => ⟨fun _ => ?_, fun _ => ⟨fun _ => ?_, fun _ => ?_⟩⟩⟩⟩⟩⟩⟩⟩⟩⟩⟩⟩⟩⟩⟩⟩⟩⟩⟩⟩⟩⟩⟩⟩⟩⟩⟩⟩
      · refine ⟨v1, v2, v3, ?_⟩
        obtain ⟨r, x', S', L', m', l, e1, e2, hR', h1, h2⟩ := TE.ti hR (T_sheet (X := X) (d := d + 10) hR.1 hR.2.1.1 (X.2 (nI (6 * t) + 1).toNatClampNeg) (X.2 (nI (6 * t) + 2).toNatClampNeg) (X.2 (nI (6 * t) + 3).toNatClampNeg))
        rw [hp_v0, e1.iffi]
        refine ⟨v1, v2, v3, ?_⟩
        rw [hp_v29, e2.iffi]
        exact br_t rfl (next x' S' L' m' l hR' h1 h2)
      · refine ⟨v1, v2, v3, ?_⟩
        obtain ⟨r, x', S', L', m', l, e1, e2, hR', h1, h2⟩ := TE.ti hR (T_set (X := X) (d := d + 10) hR.1 hR.2.1.1 (X.2 (nI (6 * t) + 1).toNatClampNeg) (X.2 (nI (6 * t) + 2).toNatClampNeg) (X.2 (nI (6 * t) + 3).toNatClampNeg))
        rw [hp_v0, e1.iffi]
        refine ⟨v1, v2, v3, ?_⟩
        rw [hp_v29, e2.iffi]
        exact br_t rfl (next x' S' L' m' l hR' h1 h2)
      · refine ⟨v1, v2, v3, v4, v5, ?_⟩
        obtain ⟨r, x', S', L', m', l, e1, e2, hR', h1, h2⟩ := TE.ti hR (T_copy (X := X) (d := d + 10) hR.1 hR.2.1.1 (X.2 (nI (6 * t) + 1).toNatClampNeg) (X.2 (nI (6 * t) + 2).toNatClampNeg) (X.2 (nI (6 * t) + 3).toNatClampNeg) (X.2 (nI (6 * t) + 4).toNatClampNeg) (X.2 (nI (6 * t) + 5).toNatClampNeg))
        rw [hp_v0, e1.iffi]
        refine ⟨v1, v2, v3, v4, v5, ?_⟩
        rw [hp_v29, e2.iffi]
        exact br_t rfl (next x' S' L' m' l hR' h1 h2)
      · exact ⟨v1, gov _ _ _ _ v1 (TE.ti hR (T_drop (X := X) (d := d + 10) hR.1 hR.2.1.1 (X.2 (nI (6 * t) + 1).toNatClampNeg)))⟩
      · refine ⟨v1, v2, v3, v4, ?_⟩
        obtain ⟨r, x', S', L', m', l, e1, e2, hR', h1, h2⟩ := T_order (X := X) (d := d + 8) hR (X.2 (nI (6 * t) + 1).toNatClampNeg) (X.2 (nI (6 * t) + 2).toNatClampNeg) (X.2 (nI (6 * t) + 3).toNatClampNeg) (X.2 (nI (6 * t) + 4).toNatClampNeg)
        rw [hp_v0, e1.iffi]
        refine ⟨v1, v2, v3, v4, ?_⟩
        rw [hp_v29, e2.iffi]
        exact br_t rfl (next x' S' L' m' l hR' h1 h2)
      · refine ⟨v1, v2, v3, v4, ?_⟩
        obtain ⟨r, x', S', L', m', l, e1, e2, hR', h1, h2⟩ := T_marks (X := X) (d := d + 8) hR (X.2 (nI (6 * t) + 1).toNatClampNeg) (X.2 (nI (6 * t) + 2).toNatClampNeg) (X.2 (nI (6 * t) + 3).toNatClampNeg) (X.2 (nI (6 * t) + 4).toNatClampNeg)
        rw [hp_v0, e1.iffi]
        refine ⟨v1, v2, v3, v4, ?_⟩
        rw [hp_v29, e2.iffi]
        exact br_t rfl (next x' S' L' m' l hR' h1 h2)
      · refine ⟨v1, v2, v3, v4, ?_⟩
        obtain ⟨r, x', S', L', m', l, e1, e2, hR', h1, h2⟩ := T_powers (X := X) (d := d + 8) hR (X.2 (nI (6 * t) + 1).toNatClampNeg) (X.2 (nI (6 * t) + 2).toNatClampNeg) (X.2 (nI (6 * t) + 3).toNatClampNeg) (X.2 (nI (6 * t) + 4).toNatClampNeg)
        rw [hp_v0, e1.iffi]
        refine ⟨v1, v2, v3, v4, ?_⟩
        rw [hp_v29, e2.iffi]
        exact br_t rfl (next x' S' L' m' l hR' h1 h2)
      · refine ⟨v1, v2, v3, v4, ?_⟩
        obtain ⟨r, x', S', L', m', l, e1, e2, hR', h1, h2⟩ := T_sums (X := X) (d := d + 8) hR (X.2 (nI (6 * t) + 1).toNatClampNeg) (X.2 (nI (6 * t) + 2).toNatClampNeg) (X.2 (nI (6 * t) + 3).toNatClampNeg) (X.2 (nI (6 * t) + 4).toNatClampNeg)
        rw [hp_v0, e1.iffi]
        refine ⟨v1, v2, v3, v4, ?_⟩
        rw [hp_v29, e2.iffi]
        exact br_t rfl (next x' S' L' m' l hR' h1 h2)
      · refine ⟨v1, v2, v3, ?_⟩
        obtain ⟨r, x', S', L', m', l, e1, e2, hR', h1, h2⟩ := T_take (X := X) (d := d + 8) hR (X.2 (nI (6 * t) + 1).toNatClampNeg) (X.2 (nI (6 * t) + 2).toNatClampNeg) (X.2 (nI (6 * t) + 3).toNatClampNeg)
        rw [hp_v0, e1.iffi]
        refine ⟨v1, v2, v3, ?_⟩
        rw [hp_v29, e2.iffi]
        exact br_t rfl (next x' S' L' m' l hR' h1 h2)
      · refine ⟨v1, v2, v3, ?_⟩
        obtain ⟨r, x', S', L', m', l, e1, e2, hR', h1, h2⟩ := T_put (X := X) (d := d + 8) hR (X.2 (nI (6 * t) + 1).toNatClampNeg) (X.2 (nI (6 * t) + 2).toNatClampNeg) (X.2 (nI (6 * t) + 3).toNatClampNeg)
        rw [hp_v0, e1.iffi]
        refine ⟨v1, v2, v3, ?_⟩
        rw [hp_v29, e2.iffi]
        exact br_t rfl (next x' S' L' m' l hR' h1 h2)
      · refine ⟨v1, v2, v3, ?_⟩
        obtain ⟨r, x', S', L', m', l, e1, e2, hR', h1, h2⟩ := T_turn (X := X) (d := d + 8) hR (X.2 (nI (6 * t) + 1).toNatClampNeg) (X.2 (nI (6 * t) + 2).toNatClampNeg) (X.2 (nI (6 * t) + 3).toNatClampNeg)
        rw [hp_v0, e1.iffi]
        refine ⟨v1, v2, v3, ?_⟩
        rw [hp_v29, e2.iffi]
        exact br_t rfl (next x' S' L' m' l hR' h1 h2)
      · refine ⟨v1, v2, v3, ?_⟩
        obtain ⟨r, x', S', L', m', l, e1, e2, hR', h1, h2⟩ := T_nth (X := X) (d := d + 0) hR (X.2 (nI (6 * t) + 1).toNatClampNeg) (X.2 (nI (6 * t) + 2).toNatClampNeg) (X.2 (nI (6 * t) + 3).toNatClampNeg)
        rw [hp_v0, e1.iffi]
        refine ⟨v1, v2, v3, ?_⟩
        rw [hp_v29, e2.iffi]
        exact br_t rfl (next x' S' L' m' l hR' h1 h2)
      · exact ⟨v1, gov _ _ _ _ v1 (T_clear (X := X) (d := d + 10) hR (X.2 (nI (6 * t) + 1).toNatClampNeg))⟩
      · exact ⟨v1, gov _ _ _ _ v1 (T_kind (X := X) (d := d + 10) hR (X.2 (nI (6 * t) + 1).toNatClampNeg))⟩
      · refine ⟨v1, v2, ?_⟩
        obtain ⟨r, x', S', L', m', l, e1, e2, hR', h1, h2⟩ := T_is (X := X) (d := d + 8) hR (X.2 (nI (6 * t) + 1).toNatClampNeg) (X.2 (nI (6 * t) + 2).toNatClampNeg)
        rw [hp_v0, e1.iffi]
        refine ⟨v1, v2, ?_⟩
        rw [hp_v29, e2.iffi]
        exact br_t rfl (next x' S' L' m' l hR' h1 h2)
      · refine ⟨v1, v2, ?_⟩
        obtain ⟨r, x', S', L', m', l, e1, e2, hR', h1, h2⟩ := T_as (X := X) (d := d + 8) hR (X.2 (nI (6 * t) + 1).toNatClampNeg) (X.2 (nI (6 * t) + 2).toNatClampNeg)
        rw [hp_v0, e1.iffi]
        refine ⟨v1, v2, ?_⟩
        rw [hp_v29, e2.iffi]
        exact br_t rfl (next x' S' L' m' l hR' h1 h2)
      · refine ⟨v1, v2, ?_⟩
        obtain ⟨r, x', S', L', m', l, e1, e2, hR', h1, h2⟩ := T_ask (X := X) (d := d + 7) hR (X.2 (nI (6 * t) + 1).toNatClampNeg) (X.2 (nI (6 * t) + 2).toNatClampNeg)
        rw [hp_v0, e1.iffi]
        refine ⟨v1, v2, ?_⟩
        rw [hp_v29, e2.iffi]
        exact br_t rfl (next x' S' L' m' l hR' h1 h2)
      · exact ⟨v1, gov _ _ _ _ v1 (T_trace (X := X) (d := d + 10) hR (X.2 (nI (6 * t) + 1).toNatClampNeg))⟩
      · refine ⟨v1, v2, ?_⟩
        obtain ⟨r, x', S', L', m', l, e1, e2, hR', h1, h2⟩ := T_at (X := X) (d := d + 8) hR (X.2 (nI (6 * t) + 1).toNatClampNeg) (X.2 (nI (6 * t) + 2).toNatClampNeg)
        rw [hp_v0, e1.iffi]
        refine ⟨v1, v2, ?_⟩
        rw [hp_v29, e2.iffi]
        exact br_t rfl (next x' S' L' m' l hR' h1 h2)
      · refine ⟨v1, v2, ?_⟩
        obtain ⟨r, x', S', L', m', l, e1, e2, hR', h1, h2⟩ := T_alike (X := X) (d := d + 8) hR (X.2 (nI (6 * t) + 1).toNatClampNeg) (X.2 (nI (6 * t) + 2).toNatClampNeg)
        rw [hp_v0, e1.iffi]
        refine ⟨v1, v2, ?_⟩
        rw [hp_v29, e2.iffi]
        exact br_t rfl (next x' S' L' m' l hR' h1 h2)
      · refine ⟨v1, v2, v3, v4, ?_⟩
        obtain ⟨r, x', S', L', m', l, e1, e2, hR', h1, h2⟩ := T_meeting (X := X) (d := d + 9) hR (X.2 (nI (6 * t) + 1).toNatClampNeg) (X.2 (nI (6 * t) + 2).toNatClampNeg) (X.2 (nI (6 * t) + 3).toNatClampNeg) (X.2 (nI (6 * t) + 4).toNatClampNeg)
        rw [hp_v0, e1.iffi]
        refine ⟨v1, v2, v3, v4, ?_⟩
        rw [hp_v29, e2.iffi]
        exact br_t rfl (next x' S' L' m' l hR' h1 h2)
      · exact ⟨v1, gov _ _ _ _ v1 (T_most (X := X) (d := d + 9) hR (X.2 (nI (6 * t) + 1).toNatClampNeg))⟩
      · refine ⟨v1, v2, ?_⟩
        obtain ⟨r, x', S', L', m', l, e1, e2, hR', h1, h2⟩ := T_together (X := X) (d := d + 9) hR (X.2 (nI (6 * t) + 1).toNatClampNeg) (X.2 (nI (6 * t) + 2).toNatClampNeg)
        rw [hp_v0, e1.iffi]
        refine ⟨v1, v2, ?_⟩
        rw [hp_v29, e2.iffi]
        exact br_t rfl (next x' S' L' m' l hR' h1 h2)
      · refine ⟨v1, v2, v3, v4, v5, ?_⟩
        obtain ⟨r, x', S', L', m', l, e1, e2, hR', h1, h2⟩ := T_echo (X := X) (d := d + 9) hR (X.2 (nI (6 * t) + 1).toNatClampNeg) (X.2 (nI (6 * t) + 2).toNatClampNeg) (X.2 (nI (6 * t) + 3).toNatClampNeg) (X.2 (nI (6 * t) + 4).toNatClampNeg) (X.2 (nI (6 * t) + 5).toNatClampNeg)
        rw [hp_v0, e1.iffi]
        refine ⟨v1, v2, v3, v4, v5, ?_⟩
        rw [hp_v29, e2.iffi]
        exact br_t rfl (next x' S' L' m' l hR' h1 h2)
      · refine ⟨v1, v2, ?_⟩
        obtain ⟨r, x', S', L', m', l, e1, e2, hR', h1, h2⟩ := T_lonely (X := X) (d := d + 0) hR (X.2 (nI (6 * t) + 1).toNatClampNeg) (X.2 (nI (6 * t) + 2).toNatClampNeg)
        rw [hp_v0, e1.iffi]
        refine ⟨v1, v2, ?_⟩
        rw [hp_v29, e2.iffi]
        exact br_t rfl (next x' S' L' m' l hR' h1 h2)
      · exact ⟨v1, gov _ _ _ _ v1 (T_shortest (X := X) (d := d + 5) hR (X.2 (nI (6 * t) + 1).toNatClampNeg))⟩
      · exact ⟨v1, gov _ _ _ _ v1 (T_count (X := X) (d := d + 10) hR (X.2 (nI (6 * t) + 1).toNatClampNeg))⟩
      · exact go _ _ _ (T_status (X := X) (d := d + 10) hR )
      · have := next x S L m [] (by rw [List.append_nil]; exact hR) (by decide) (by decide)
        rw [List.append_nil] at this
        exact this
theorem law_run (hX : X.1 ≤ 3072) : lk_wx X (d + 15) 174 [.retAddr 1] [] (fun v h => v = some (.int 1) ∧ h.length ≤ 5000 ∧ lk_sz h ≤ 300000) := by
  refine E_law_law ⟨⟨_, rfl⟩, ?_⟩
  refine (C_init (d := d + 11)).iffv.mpr ⟨⟨_, rfl⟩, ?_⟩
  refine (M_init (d := d + 13)).iffv.mpr ?_
  exact law_loop (d := d) hX (fun h h1 h2 => ⟨rfl, h1, h2⟩) 512 0 xz no no mz [] (by omega) (by omega) Rel0 (by decide) (by decide)
end LAW
