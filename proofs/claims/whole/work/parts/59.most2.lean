/-! most and together: both sides' loops -/
section MOST
variable {X : lk_X} {d : Nat} {x : Nat → Nat → Int32} {S L : Nat → Option Nat} {m : Nat → Nat → Int32} {dyn : lk_H}
theorem nI_max {a b : Nat} (ha : a < 2 ^ 31) (hb : b < 2 ^ 31) : (if nI a < nI b then nI b else nI a) = nI (max a b) := by
  by_cases h : a < b
  · rw [if_pos ((nI_ltI ha hb).mpr h), Nat.max_eq_right (by omega)]
  · rw [if_neg (fun q => h ((nI_ltI ha hb).mp q)), Nat.max_eq_left (by omega)]
/-- what is known of the tallies -/
def TL (na : Nat) (ga gb : Nat → Nat) (r : Int) (i : Nat) (x : Nat → Nat → Int32) (c : Nat) : Prop := (∀ j : Nat, j < 31 → x 3 j = nI (cn (Mf na ga gb r ((j : Int) - 15)) 0 i)) ∧ (∀ j : Nat, j < 31 → cn (Mf na ga gb r ((j : Int) - 15)) 0 i ≤ c) ∧ (c = 0 ∨ ∃ j : Nat, j < 31 ∧ cn (Mf na ga gb r ((j : Int) - 15)) 0 i = c) ∧ c ≤ i
theorem x_moved_loop {ba na bb nb : Nat} {ga gb : Nat → Nat} {r : Int} (ha : ∀ x', ar (hp x' S L m dyn) ba na ga) (hb : ∀ x', ar (hp x' S L m dyn) bb nb gb) (ga15 : ∀ i, i < na → ga i ≤ 15) (gb15 : ∀ i, i < nb → gb i ≤ 15) (hr : -20 ≤ r ∧ r ≤ 20) {Q : Option Value → lk_H → Prop} : ∀ (k i c : Nat) (x : Nat → Nat → Int32), nb - i = k → i ≤ nb → TL na ga gb r i x c → (∀ x' c', (∀ q, ¬ q = 3 → x' q = x q) → TL na ga gb r nb x' c' → Q (some (.int (nI c'))) (hp x' S L m dyn)) → lk_wp X (d + 1) 23 14 [.ref 5, .ref ba, .ref bb, .int (iI r), .int (nI c), .int (nI i), .retAddr 0, .retAddr 0] [] (hp x S L m dyn) Q := by
  have hna := (ha (fun _ _ => 0)).1
  have hnb := (hb (fun _ _ => 0)).1
  have e0 : (0 : Int32).toInt = 0 := rfl
  have er : (iI r).toInt = r := iI_toInt (by omega)
  intro k
  induction k with
  | zero =>
    intro i c x hk hi ht hQ
    refine F_mv_mostMovedByRows_14 ?_
    rw [(hb x).al]
    refine br_t (nI_le (by omega) (by omega)) (hQ x c (fun _ _ => rfl) ?_)
    rw [show nb = i by omega]
    exact ht
  | succ k ih =>
    intro i c x hk hi ht hQ
    refine F_mv_mostMovedByRows_14 ?_
    have ei : (nI i + iI r).toInt = (i : Int) + r := by rw [nI_addI (by rw [er]; exact hr) (by omega), er]
    rw [(hb x).al]
    refine br_f (nI_ge (by omega) (by omega)) ?_
    rw [nI_1]
    have skip : ¬ (0 ≤ (i : Int) + r ∧ (i : Int) + r < na) → lk_wp X (d + 1) 23 14 [.ref 5, .ref ba, .ref bb, .int (iI r), .int (nI c), .int (nI (i + 1)), .retAddr 0, .retAddr 0] [] (hp x S L m dyn) Q := by
      intro hno
      refine ih (i + 1) c x (by omega) (by omega) ?_ hQ
      have e : ∀ s, cn (Mf na ga gb r s) 0 (i + 1) = cn (Mf na ga gb r s) 0 i := fun s => by
        have hn : ¬ Mf na ga gb r s (0 + i) = true := by
          unfold Mf
          rw [decide_eq_true_iff, Nat.zero_add]
          exact fun q => hno ⟨q.1, q.2.1⟩
        rw [cn_snoc, if_neg hn]
        rfl
      obtain ⟨t1, t2, t3, t4⟩ := ht
      refine ⟨fun j hj => by rw [e]; exact t1 j hj, fun j hj => by rw [e]; exact t2 j hj, ?_, by omega⟩
      rcases t3 with t3 | ⟨j, hj, t3⟩
      · exact Or.inl t3
      · exact Or.inr ⟨j, hj, by rw [e]; exact t3⟩
    by_cases h1 : (i : Int) + r < 0
    · exact br_t (by rw [i32_lt]; omega) (skip (by omega))
    · refine br_f (by rw [i32_lt]; omega) ?_
      rw [(ha x).al]
      by_cases h2 : (na : Int) ≤ (i : Int) + r
      · exact br_t (by rw [i32_le, i32_nI (by omega)]; omega) (skip (by omega))
      · refine br_f (by rw [i32_le, i32_nI (by omega)]; omega) ?_
        obtain ⟨j, hj⟩ : ∃ j : Nat, (j : Int) = (i : Int) + r := ⟨((i : Int) + r).toNat, by omega⟩
        have ej : nI i + iI r = nI j := by rw [i32_eq, ei, i32_nI (by omega), hj]
        have hjn : j < na := by omega
        have hin : i < nb := by omega
        have l1 := ga15 j hjn
        have l2 := gb15 i hin
        obtain ⟨q, hq⟩ : ∃ q : Nat, q + gb i = ga j + 15 := ⟨ga j + 15 - gb i, by omega⟩
        have eq : nI (ga j) - nI (gb i) + 16 - 1 = nI q := by
          have e1 : (nI (ga j) - nI (gb i)).toInt = (ga j : Int) - gb i := pk_sub_toInt (by omega) (by omega)
          have e2 : (nI (ga j) - nI (gb i) + 16).toInt = (ga j : Int) - gb i + 16 := by
            rw [Int32.toInt_add, e1, show (16 : Int32).toInt = 16 from rfl]
            apply Int.bmod_eq_of_le <;> omega
          rw [i32_eq, Int32.toInt_sub, e2, show (1 : Int32).toInt = 1 from rfl, i32_nI (by omega)]
          rw [Int.bmod_eq_of_le (by omega) (by omega)]
          omega
        have hq31 : q < 31 := by omega
        have t1 := ht.1
        have t2 := ht.2.1
        have t4 := ht.2.2.2
        have hT := t2 q hq31
        rw [ej, (ha x).ai hjn, (hb x).ai hin, hp_f5_0, hp_a6, eq, nI_clamp (by omega), t1 q hq31]
        refine ⟨vp_in_nI hq31 (by omega), ?_⟩
        rw [hp_w6, nI_clamp (by omega), nI_1]
        refine ⟨vp_in_nI hq31 (by omega), ?_⟩
        rw [hp_f5_0, hp_a6, nI_clamp (by omega), ms_same, pk_us, nI_max (by omega) (by omega)]
        refine ⟨vp_in_nI hq31 (by omega), ?_⟩
        have eT : ∀ s : Nat, s < 31 → cn (Mf na ga gb r ((s : Int) - 15)) 0 (i + 1) = cn (Mf na ga gb r ((s : Int) - 15)) 0 i + (if s = q then 1 else 0) := fun s hs => by
          rw [cn_snoc]
          congr 1
          have : Mf na ga gb r ((s : Int) - 15) (0 + i) = true ↔ s = q := by
            unfold Mf
            rw [decide_eq_true_iff, Nat.zero_add, ← hj, Int.toNat_natCast]
            omega
          by_cases hsq : s = q
          · rw [if_pos (this.mpr hsq), if_pos hsq]
          · rw [if_neg (fun w => hsq (this.mp w)), if_neg hsq]
        refine ih (i + 1) _ _ (by omega) (by omega) ⟨fun s hs => ?_, fun s hs => ?_, ?_, ?_⟩ (fun x' c' h1 h2 => hQ x' c' (fun w hw => by rw [h1 w hw, ms_ne hw]) h2)
        · rw [ms_same, eT s hs]
          by_cases hsq : s = q
          · subst hsq
            rw [pk_us, if_pos rfl]
          · rw [pk_un hsq, if_neg hsq, t1 s hs]
            rfl
        · rw [eT s hs]
          have := t2 s hs
          split
          · rename_i hsq
            subst hsq
            omega
          · omega
        · by_cases hc : cn (Mf na ga gb r ((q : Int) - 15)) 0 i + 1 ≤ c
          · rw [Nat.max_eq_left hc]
            rcases ht.2.2.1 with t3 | ⟨s, hs, t3⟩
            · omega
            · refine Or.inr ⟨s, hs, ?_⟩
              rw [eT s hs, if_neg]
              · exact t3
              · intro w
                subst w
                omega
          · rw [Nat.max_eq_right (by omega)]
            exact Or.inr ⟨q, hq31, by rw [eT q hq31, if_pos rfl]⟩
        · omega
theorem C_moved {ba na bb nb : Nat} {ga gb : Nat → Nat} {r : Int} (ha : ∀ x', ar (hp x' S L m dyn) ba na ga) (hb : ∀ x', ar (hp x' S L m dyn) bb nb gb) (ga15 : ∀ i, i < na → ga i ≤ 15) (gb15 : ∀ i, i < nb → gb i ≤ 15) (hr : -20 ≤ r ∧ r ≤ 20) : ∃ x' c, lk_ev X (d + 2) 23 [.ref 5, .ref ba, .ref bb, .int (iI r)] (hp x S L m dyn) (some (.int (nI c))) (hp x' S L m dyn) ∧ (∀ q, ¬ q = 3 → x' q = x q) ∧ MX (fun r' s => r' = r ∧ -15 ≤ s ∧ s ≤ 15) (Mt na nb ga gb) c ∧ c ≤ 16 := by
  have hnb := (hb x).1
  have main : lk_wx X (d + 2) 23 [.ref 5, .ref ba, .ref bb, .int (iI r)] (hp x S L m dyn) (fun v h' => ∃ x' c, v = some (.int (nI c)) ∧ h' = hp x' S L m dyn ∧ (∀ q, ¬ q = 3 → x' q = x q) ∧ TL na ga gb r nb x' c) := by
    refine E_mv_mostMovedByRows ?_
    rw [hp_f5_0, (S_ja_fill (by decide) hp_6).iffv]
    have e : (hp x S L m dyn).set 6 (.inl (0, (31, .inl (fun q => if q < 31 then 0 else x 3 q)))) = hp (mr x 3 (fun q => if q < 31 then 0 else x 3 q)) S L m dyn := rfl
    rw [e]
    refine x_moved_loop ha hb ga15 gb15 hr nb 0 0 _ rfl (Nat.zero_le _) ⟨fun j hj => ?_, fun j hj => Nat.le_refl _, Or.inl rfl, Nat.le_refl _⟩ (fun x' c' h1 h2 => ⟨x', c', rfl, rfl, fun q hq => by rw [h1 q hq, mr_ne hq], h2⟩)
    rw [mr_same, if_pos hj]
    rfl
  obtain ⟨v, h', h1, x', c, rfl, rfl, h2, t1, t2, t3, t4⟩ := main.ex
  refine ⟨x', c, h1, h2, ⟨?_, ?_⟩, by omega⟩
  · rintro r' s ⟨rfl, hs1, hs2⟩
    have := t2 (s + 15).toNat (by omega)
    rw [show ((s + 15).toNat : Int) - 15 = s by omega] at this
    exact this
  · rcases t3 with t3 | ⟨j, hj, t3⟩
    · exact Or.inl t3
    · exact Or.inr ⟨r, (j : Int) - 15, ⟨rfl, by omega, by omega⟩, t3⟩
theorem MX.max {P P' P2 : Int → Int → Prop} {M : Int → Int → Nat} {c c' : Nat} (h : MX P M c) (h' : MX P' M c') (h2 : ∀ r s, P2 r s ↔ P r s ∨ P' r s) : MX P2 M (max c c') := by
  refine ⟨fun r s q => ?_, ?_⟩
  · rcases (h2 r s).mp q with q | q
    · have := h.1 r s q; omega
    · have := h'.1 r s q; omega
  · by_cases hc : c ≤ c'
    · rw [Nat.max_eq_right hc]
      rcases h'.2 with q | ⟨r, s, q1, q2⟩
      · exact Or.inl q
      · exact Or.inr ⟨r, s, (h2 r s).mpr (Or.inr q1), q2⟩
    · rw [Nat.max_eq_left (by omega)]
      rcases h.2 with q | ⟨r, s, q1, q2⟩
      · exact Or.inl q
      · exact Or.inr ⟨r, s, (h2 r s).mpr (Or.inl q1), q2⟩
theorem x_two_loop {ba na bb nb : Nat} {ga gb : Nat → Nat} (ha : ∀ x', ar (hp x' S L m dyn) ba na ga) (hb : ∀ x', ar (hp x' S L m dyn) bb nb gb) (ga15 : ∀ i, i < na → ga i ≤ 15) (gb15 : ∀ i, i < nb → gb i ≤ 15) {Q : Option Value → lk_H → Prop} : ∀ (k : Nat) (r : Int) (c : Nat) (x : Nat → Nat → Int32), (na : Int) - r = k → 1 - (nb : Int) ≤ r → MX (fun r' s => 1 - (nb : Int) ≤ r' ∧ r' < r ∧ -15 ≤ s ∧ s ≤ 15) (Mt na nb ga gb) c → c ≤ 16 → (∀ x' c', (∀ q, ¬ q = 3 → x' q = x q) → MX (fun r' s => 1 - (nb : Int) ≤ r' ∧ r' < na ∧ -15 ≤ s ∧ s ≤ 15) (Mt na nb ga gb) c' → Q (some (.int (nI c'))) (hp x' S L m dyn)) → lk_wp X (d + 3) 21 8 [.ref 5, .ref ba, .ref bb, .int (nI c), .int (iI r)] [] (hp x S L m dyn) Q := by
  have hna := (ha (fun _ _ => 0)).1
  have hnb := (hb (fun _ _ => 0)).1
  intro k
  induction k with
  | zero =>
    intro r c x hk hr hc h16 hQ
    refine F_mv_mostOfTwo_8 ?_
    rw [(ha x).al]
    refine br_t (by rw [i32_le, i32_nI (by omega), iI_toInt (by omega)]; omega) (hQ x c (fun _ _ => rfl) ?_)
    rw [show (na : Int) = r by omega]
    exact hc
  | succ k ih =>
    intro r c x hk hr hc h16 hQ
    refine F_mv_mostOfTwo_8 ?_
    rw [(ha x).al]
    refine br_f (by rw [i32_le, i32_nI (by omega), iI_toInt (by omega)]; omega) ?_
    obtain ⟨x1, c1, v1, v2, v3, v4⟩ := C_moved (X := X) (d := d) (x := x) ha hb ga15 gb15 (r := r) (by omega)
    rw [hp_v5, v1.iffi, nI_max (by omega) (by omega), iI_1 (by omega)]
    refine ih (r + 1) _ x1 (by omega) (by omega) (hc.max v3 fun r' s => ?_) (by omega) (fun x' c' w1 w2 => hQ x' c' (fun q hq => by rw [w1 q hq, v2 q hq]) w2)
    omega
theorem C_two {ba na bb nb : Nat} {ga gb : Nat → Nat} (ha : ∀ x', ar (hp x' S L m dyn) ba na ga) (hb : ∀ x', ar (hp x' S L m dyn) bb nb gb) (ga15 : ∀ i, i < na → ga i ≤ 15) (gb15 : ∀ i, i < nb → gb i ≤ 15) (hn1 : 1 ≤ na) : ∃ x' c, lk_ev X (d + 3) 21 [.ref 5, .ref ba, .ref bb] (hp x S L m dyn) (some (.int (nI c))) (hp x' S L m dyn) ∧ (∀ q, ¬ q = 3 → x' q = x q) ∧ MX (fun r' s => 1 - (nb : Int) ≤ r' ∧ r' < na ∧ -15 ≤ s ∧ s ≤ 15) (Mt na nb ga gb) c := by
  have hna := (ha x).1
  have hnb := (hb x).1
  have main : lk_wx X (d + 3) 21 [.ref 5, .ref ba, .ref bb] (hp x S L m dyn) (fun v h' => ∃ x' c, v = some (.int (nI c)) ∧ h' = hp x' S L m dyn ∧ (∀ q, ¬ q = 3 → x' q = x q) ∧ MX (fun r' s => 1 - (nb : Int) ≤ r' ∧ r' < na ∧ -15 ≤ s ∧ s ≤ 15) (Mt na nb ga gb) c) := by
    refine E_mv_mostOfTwo ?_
    rw [(hb x).al]
    have e : 1 - nI nb = iI (1 - (nb : Int)) := by
      rw [i32_eq, show (1 : Int32) = nI 1 from rfl, pk_sub_toInt (by omega) (by omega), iI_toInt (by omega)]
      omega
    rw [e]
    refine x_two_loop ha hb ga15 gb15 ((na : Int) - (1 - (nb : Int))).toNat _ 0 x (by omega) (by omega) ⟨fun r s q => ?_, Or.inl rfl⟩ (by omega) (fun x' c' w1 w2 => ⟨x', c', rfl, rfl, w1, w2⟩)
    omega
  obtain ⟨v, h', h1, x', c, rfl, rfl, h2, h3⟩ := main.ex
  exact ⟨x', c, h1, h2, h3⟩
theorem x_self_loop {ba na : Nat} {ga : Nat → Nat} (ha : ∀ x', ar (hp x' S L m dyn) ba na ga) (ga15 : ∀ i, i < na → ga i ≤ 15) {Q : Option Value → lk_H → Prop} : ∀ (k : Nat) (r : Int) (c : Nat) (x : Nat → Nat → Int32), (na : Int) - r = k → 1 ≤ r → MX (fun r' s => 1 ≤ r' ∧ r' < r ∧ -15 ≤ s ∧ s ≤ 15) (Mt na na ga ga) c → c ≤ 16 → (∀ x' c', (∀ q, ¬ q = 3 → x' q = x q) → MX (fun r' s => 1 ≤ r' ∧ r' < na ∧ -15 ≤ s ∧ s ≤ 15) (Mt na na ga ga) c' → Q (some (.int (nI c'))) (hp x' S L m dyn)) → lk_wp X (d + 3) 22 4 [.ref 5, .ref ba, .int (nI c), .int (iI r)] [] (hp x S L m dyn) Q := by
  have hna := (ha (fun _ _ => 0)).1
  intro k
  induction k with
  | zero =>
    intro r c x hk hr hc h16 hQ
    refine F_mv_mostWithItself_4 ?_
    rw [(ha x).al]
    refine br_t (by rw [i32_le, i32_nI (by omega), iI_toInt (by omega)]; omega) (hQ x c (fun _ _ => rfl) ?_)
    rw [show (na : Int) = r by omega]
    exact hc
  | succ k ih =>
    intro r c x hk hr hc h16 hQ
    refine F_mv_mostWithItself_4 ?_
    rw [(ha x).al]
    refine br_f (by rw [i32_le, i32_nI (by omega), iI_toInt (by omega)]; omega) ?_
    obtain ⟨x1, c1, v1, v2, v3, v4⟩ := C_moved (X := X) (d := d) (x := x) ha ha ga15 ga15 (r := r) (by omega)
    rw [hp_v5, v1.iffi, nI_max (by omega) (by omega), iI_1 (by omega)]
    refine ih (r + 1) _ x1 (by omega) (by omega) (hc.max v3 fun r' s => ?_) (by omega) (fun x' c' w1 w2 => hQ x' c' (fun q hq => by rw [w1 q hq, v2 q hq]) w2)
    omega
theorem C_self {ba na : Nat} {ga : Nat → Nat} (ha : ∀ x', ar (hp x' S L m dyn) ba na ga) (ga15 : ∀ i, i < na → ga i ≤ 15) (hn1 : 1 ≤ na) : ∃ x' c, lk_ev X (d + 3) 22 [.ref 5, .ref ba] (hp x S L m dyn) (some (.int (nI c))) (hp x' S L m dyn) ∧ (∀ q, ¬ q = 3 → x' q = x q) ∧ MX (fun r' s => 1 ≤ r' ∧ r' < na ∧ -15 ≤ s ∧ s ≤ 15) (Mt na na ga ga) c := by
  have hna := (ha x).1
  have main : lk_wx X (d + 3) 22 [.ref 5, .ref ba] (hp x S L m dyn) (fun v h' => ∃ x' c, v = some (.int (nI c)) ∧ h' = hp x' S L m dyn ∧ (∀ q, ¬ q = 3 → x' q = x q) ∧ MX (fun r' s => 1 ≤ r' ∧ r' < na ∧ -15 ≤ s ∧ s ≤ 15) (Mt na na ga ga) c) := by
    refine E_mv_mostWithItself ?_
    refine x_self_loop (r := 1) ha ga15 ((na : Int) - 1).toNat 0 x (by omega) (by omega) ⟨fun r s q => ?_, Or.inl rfl⟩ (by omega) (fun x' c' w1 w2 => ⟨x', c', rfl, rfl, w1, w2⟩)
    omega
  obtain ⟨v, h', h1, x', c, rfl, rfl, h2, h3⟩ := main.ex
  exact ⟨x', c, h1, h2, h3⟩
/-! the reference's -/
def Gm (mv : Bool) (M : Int → Int → Nat) (r s : Int) : Nat := if mv = true ∧ r = 0 ∧ s = 0 then 0 else M r s
theorem m_gre_s {a na b nb : Nat} {ga gb : Nat → Nat} {mv : Bool} {r : Int} (ha : mth m a na ga) (hb : mth m b nb gb) (hr : -16 ≤ r ∧ r ≤ 16) {Q : Option Value → lk_H → Prop} : ∀ (k : Nat) (s : Int) (c : Nat), 17 - s = k → -16 ≤ s → MX (fun r' s' => (-16 ≤ r' ∧ r' < r ∧ -16 ≤ s' ∧ s' ≤ 16) ∨ (r' = r ∧ -16 ≤ s' ∧ s' < s)) (Gm mv (Mt na nb ga gb)) c → c ≤ 16 → (∀ c', c' ≤ 16 → MX (fun r' s' => -16 ≤ r' ∧ r' < r + 1 ∧ -16 ≤ s' ∧ s' ≤ 16) (Gm mv (Mt na nb ga gb)) c' → lk_wp X (d + 3) 160 7 [.ref 29, .int (nI a), .int (nI b), .int (oI mv), .int (nI c'), .int (iI (r + 1)), .retAddr 0, .retAddr 0] [] (hp x S L m dyn) Q) → lk_wp X (d + 3) 160 18 [.ref 29, .int (nI a), .int (nI b), .int (oI mv), .int (nI c), .int (iI r), .int (iI s), .retAddr 0] [] (hp x S L m dyn) Q := by
  have e17 : (17 : Int32).toInt = 17 := rfl
  have hnb := hb.2.1
  have er : (iI r).toInt = r := iI_toInt (by omega)
  intro k
  induction k with
  | zero =>
    intro s c hk hs hc h16 hQ
    refine F_m_greatest_18 (br_t (by rw [i32_le, iI_toInt (by omega)]; omega) ?_)
    rw [iI_1 (by omega)]
    refine hQ c h16 ⟨fun r' s' q => hc.1 r' s' (by omega), ?_⟩
    rcases hc.2 with q | ⟨r', s', q1, q2⟩
    · exact Or.inl q
    · exact Or.inr ⟨r', s', by omega, q2⟩
  | succ k ih =>
    intro s c hk hs hc h16 hQ
    refine F_m_greatest_18 (br_f (by rw [i32_le, iI_toInt (by omega)]; omega) ?_)
    have es : (iI s).toInt = s := iI_toInt (by omega)
    have go : ∀ v, v ≤ 16 → v = Gm mv (Mt na nb ga gb) r s → lk_wp X (d + 3) 160 18 [.ref 29, .int (nI a), .int (nI b), .int (oI mv), .int (nI (max c v)), .int (iI r), .int (iI (s + 1)), .retAddr 0] [] (hp x S L m dyn) Q := by
      intro v hv hve
      refine ih (s + 1) _ (by omega) (by omega) ?_ (by omega) hQ
      have h1 : MX (fun r' s' => r' = r ∧ s' = s) (Gm mv (Mt na nb ga gb)) v := by
        refine ⟨?_, Or.inr ⟨r, s, ⟨rfl, rfl⟩, hve.symm⟩⟩
        rintro r' s' ⟨rfl, rfl⟩
        rw [hve]
        exact Nat.le_refl _
      exact hc.max h1 fun r' s' => by omega
    have call : ∀ v, v = Mt na nb ga gb r s → v = Gm mv (Mt na nb ga gb) r s → ((nI v ≤ nI c → lk_wp X (d + 3) 160 18 [.ref 29, .int (nI a), .int (nI b), .int (oI mv), .int (nI c), .int (iI r), .int (iI s + 1), .retAddr 0] [] (hp x S L m dyn) Q) ∧ (¬ nI v ≤ nI c → lk_wp X (d + 3) 160 18 [.ref 29, .int (nI a), .int (nI b), .int (oI mv), .int (nI v), .int (iI r), .int (iI s + 1), .retAddr 0] [] (hp x S L m dyn) Q)) := by
      intro v hv1 hv2
      have hv16 : v ≤ 16 := by rw [hv1]; exact Nat.le_trans Mt_le hnb
      have hg := go v hv16 hv2
      rw [iI_1 (by omega), nI_leI (by omega) (by omega)]
      refine ⟨fun q => ?_, fun q => ?_⟩
      · rw [Nat.max_eq_left q] at hg
        exact hg
      · rw [Nat.max_eq_right (by omega)] at hg
        exact hg
    have hmeet : lk_ev X (d + 2) 157 [.ref 29, .int (nI a), .int (nI b), .int (iI r), .int (iI s)] (hp x S L m dyn) (some (.int (nI (Mt na nb ga gb r s)))) (hp x S L m dyn) := by
      have := S_m_meet (X := X) (d := d) (x := x) (S := S) (L := L) (dyn := dyn) (r := iI r) (s := iI s) ha hb (by rw [er]; omega) (by rw [es]; omega)
      rw [er, es] at this
      exact this
    cases mv with
    | false =>
      refine br_t rfl ?_
      rw [hp_v29, hmeet.iffi]
      exact call _ rfl (by unfold Gm; rw [if_neg (by simp)])
    | true =>
      refine br_f (by decide) ?_
      by_cases h1 : r = 0
      · have e1 : iI r = 0 := by rw [h1]; rfl
        refine br_n2 e1 ?_
        by_cases h2 : s = 0
        · have e2 : iI s = 0 := by rw [h2]; rfl
          refine br_n2 e2 (br_t (nI_le (a := 0) (by omega) (by omega)) ?_)
          have hg := go 0 (by omega) (by unfold Gm; rw [if_pos ⟨rfl, h1, h2⟩])
          rw [Nat.max_eq_left (by omega)] at hg
          rw [iI_1 (by omega)]
          exact hg
        · refine br_n1 (fun q => h2 (by rw [← es, q]; rfl)) ?_
          rw [hp_v29, hmeet.iffi]
          exact call _ rfl (by unfold Gm; rw [if_neg (fun q => h2 q.2.2)])
      · refine br_n1 (fun q => h1 (by rw [← er, q]; rfl)) ?_
        rw [hp_v29, hmeet.iffi]
        exact call _ rfl (by unfold Gm; rw [if_neg (fun q => h1 q.2.1)])
theorem m_gre_r {a na b nb : Nat} {ga gb : Nat → Nat} {mv : Bool} (ha : mth m a na ga) (hb : mth m b nb gb) {Q : Option Value → lk_H → Prop} : ∀ (k : Nat) (r : Int) (c : Nat), 17 - r = k → -16 ≤ r → c ≤ 16 → MX (fun r' s' => -16 ≤ r' ∧ r' < r ∧ -16 ≤ s' ∧ s' ≤ 16) (Gm mv (Mt na nb ga gb)) c → (∀ c', MX (fun r' s' => -16 ≤ r' ∧ r' < 17 ∧ -16 ≤ s' ∧ s' ≤ 16) (Gm mv (Mt na nb ga gb)) c' → Q (some (.int (nI c'))) (hp x S L m dyn)) → lk_wp X (d + 3) 160 7 [.ref 29, .int (nI a), .int (nI b), .int (oI mv), .int (nI c), .int (iI r), .retAddr 0, .retAddr 0] [] (hp x S L m dyn) Q := by
  have e17 : (17 : Int32).toInt = 17 := rfl
  intro k
  induction k with
  | zero =>
    intro r c hk hr h16 hc hQ
    refine F_m_greatest_7 (br_t (by rw [i32_le, iI_toInt (by omega)]; omega) (hQ c ?_))
    rw [show (17 : Int) = r by omega]
    exact hc
  | succ k ih =>
    intro r c hk hr h16 hc hQ
    refine F_m_greatest_7 (br_f (by rw [i32_le, iI_toInt (by omega)]; omega) ?_)
    refine m_gre_s (r := r) (s := -16) ha hb (by omega) 33 c (by omega) (by omega) ⟨fun r' s' q => hc.1 r' s' (by omega), ?_⟩ h16 (fun c' h1 h2 => ih (r + 1) c' (by omega) (by omega) h1 h2 hQ)
    rcases hc.2 with q | ⟨r', s', q1, q2⟩
    · exact Or.inl q
    · exact Or.inr ⟨r', s', by omega, q2⟩
theorem M_greatest {a na b nb : Nat} {ga gb : Nat → Nat} {mv : Bool} (ha : mth m a na ga) (hb : mth m b nb gb) : ∃ c, lk_ev X (d + 3) 160 [.ref 29, .int (nI a), .int (nI b), .int (oI mv)] (hp x S L m dyn) (some (.int (nI c))) (hp x S L m dyn) ∧ MX (fun r' s' => -16 ≤ r' ∧ r' < 17 ∧ -16 ≤ s' ∧ s' ≤ 16) (Gm mv (Mt na nb ga gb)) c := by
  have main : lk_wx X (d + 3) 160 [.ref 29, .int (nI a), .int (nI b), .int (oI mv)] (hp x S L m dyn) (fun v h' => ∃ c, v = some (.int (nI c)) ∧ h' = hp x S L m dyn ∧ MX (fun r' s' => -16 ≤ r' ∧ r' < 17 ∧ -16 ≤ s' ∧ s' ≤ 16) (Gm mv (Mt na nb ga gb)) c) := by
    refine E_m_greatest ?_
    refine m_gre_r (r := -16) ha hb 33 0 (by omega) (by omega) (by omega) ⟨fun r s q => ?_, Or.inl rfl⟩ ?_
    · omega
    · intro c' w
      exact ⟨c', rfl, rfl, w⟩
  obtain ⟨v, h', h1, c, rfl, rfl, h2⟩ := main.ex
  exact ⟨c, h1, h2⟩
end MOST
