/-! echo: both sides' loops -/
theorem d21 {r s : Nat} (hs : s < 21) : (21 * r + s) / 21 = r := by omega
theorem m21 {r s : Nat} (hs : s < 21) : (21 * r + s) % 21 = s := by omega
theorem fitF_le {N : Nat} {g : Nat → Nat} {R C : Nat → Int32} {n t : Nat} : fitF N g R C n t ≤ n := cn_le
theorem fb_s {F : Nat → Nat} {t : Nat} : fb F (t + 1) = if F (fb F t) < F t then t else fb F t := rfl
section ECHO2
variable {X : lk_X} {d : Nat} {x : Nat → Nat → Int32} {S L : Nat → Option Nat} {m : Nat → Nat → Int32} {dyn : lk_H}
theorem x_best_loop {F : Nat → Nat} (hF : ∀ t, F t ≤ 100) (hx : ∀ t, t < 441 → x 4 t = nI (F t)) {Q : Option Value → lk_H → Prop} : ∀ (k t : Nat), 441 - t = k → 1 ≤ t → t ≤ 441 → Q (some (.int (nI (fb F 441)))) (hp x S L m dyn) → lk_wp X (d + 1) 26 4 [.ref 5, .int (nI (fb F t)), .int (nI t)] [] (hp x S L m dyn) Q := by
  intro k
  induction k with
  | zero =>
    intro t hk h1 ht hQ
    refine F_mv_firstBest_4 ?_
    rw [hp_f5_1, hp_l7, show t = 441 by omega]
    exact br_t (by decide) hQ
  | succ k ih =>
    intro t hk h1 ht hQ
    refine F_mv_firstBest_4 ?_
    have hb : fb F t ≤ t - 1 := by
      obtain ⟨t', rfl⟩ : ∃ t', t = t' + 1 := ⟨t - 1, by omega⟩
      exact fb_lt t'
    have f1 := hF t
    have f2 := hF (fb F t)
    rw [hp_f5_1, hp_l7]
    refine br_f (nI_ge (b := 441) (by omega) (by omega)) ?_
    rw [hp_f5_1, hp_a7, nI_clamp (by omega), hx t (by omega), hp_f5_1, hp_a7, nI_clamp (by omega), hx (fb F t) (by omega), nI_leI (by omega) (by omega), nI_1]
    refine ⟨vp_in_nI (by omega) (by omega), vp_in_nI (by omega) (by omega), fun q => ?_, fun q => ?_⟩
    · have := ih (t + 1) (by omega) (by omega) (by omega) hQ
      rw [fb_s, if_neg (by omega)] at this
      exact this
    · have := ih (t + 1) (by omega) (by omega) (by omega) hQ
      rw [fb_s, if_pos (by omega)] at this
      exact this
theorem S_mv_firstBest {F : Nat → Nat} (hF : ∀ t, F t ≤ 100) (hx : ∀ t, t < 441 → x 4 t = nI (F t)) : lk_ev X (d + 1) 26 [.ref 5] (hp x S L m dyn) (some (.int (nI (fb F 441)))) (hp x S L m dyn) := by
  refine E_mv_firstBest ?_
  have := x_best_loop (X := X) (d := d) (S := S) (L := L) (m := m) (dyn := dyn) (Q := fun w g => w = some (.int (nI (fb F 441))) ∧ g = hp x S L m dyn) hF hx 440 1 rfl (by omega) (by omega) ⟨rfl, rfl⟩
  rw [fb_s, show fb F 0 = 0 from rfl, if_neg (Nat.lt_irrefl _)] at this
  exact this
/-- which part of the best is told -/
def ep (w : Nat) (F : Nat → Nat) : Nat := if w = 0 then fb F 441 / 21 else if w = 1 then fb F 441 % 21 else F (fb F 441)
theorem div21 : ∀ t : Nat, t < 441 → nI t / 21 = nI (t / 21) ∧ nI t - nI t / 21 * 21 = nI (t % 21) := by decide +kernel
theorem x_echo_loop {bb N k i n w : Nat} {g : Nat → Nat} (hk : k < 8) (hi : i + 2 * n ≤ 60) (hn : n ≤ 30) (hw : w < 3) (hb : ∀ x', ar (hp x' S L m dyn) bb N g) {R C : Nat → Int32} {Q : Option Value → lk_H → Prop} : ∀ (u j : Nat) (x : Nat → Nat → Int32), n - j = u → j ≤ n → (∀ j, j < n → x (10 + k) (i + 2 * j) = R j ∧ x (10 + k) (i + 2 * j + 1) = C j) → (∀ t, t < 441 → x 4 t = nI (fitF N g R C j t)) → (∀ x', (∀ q, ¬ q = 4 → x' q = x q) → Q (some (.int (nI (ep w (fitF N g R C n))))) (hp x' S L m dyn)) → lk_wp X (d + 2) 24 11 [.ref 5, .int (nI w), .ref bb, .ref (14 + 2 * k), .int (nI i), .int (nI n), .int (nI j)] [] (hp x S L m dyn) Q := by
  intro u
  induction u with
  | zero =>
    intro j x hu hj hx hf hQ
    refine F_mv_partOfEcho_11 (br_t (nI_le (by omega) (by omega)) ?_)
    rw [show j = n by omega] at hf
    have hF : ∀ t, fitF N g R C n t ≤ 100 := fun t => Nat.le_trans fitF_le (by omega)
    have hb441 : fb (fitF N g R C n) 441 < 441 := Nat.lt_succ_of_le (fb_lt (F := fitF N g R C n) 440)
    rw [hp_v5, (S_mv_firstBest hF hf).iffi]
    have hq := hQ x (fun _ _ => rfl)
    have dv := div21 _ hb441
    match w, hw, hq with
    | 0, _, hq =>
      refine br_t rfl ⟨by decide, ?_⟩
      rw [dv.1]
      exact hq
    | 1, _, hq =>
      refine br_f (by decide) (br_t rfl ⟨by decide, ?_⟩)
      rw [dv.2]
      exact hq
    | 2, _, hq =>
      refine br_f (by decide) (br_f (by decide) ?_)
      rw [hp_f5_1, hp_a7, nI_clamp (by omega), hf _ hb441]
      exact ⟨vp_in_nI hb441 (by omega), hq⟩
  | succ u ih =>
    intro j x hu hj hx hf hQ
    have hjn : j < n := by omega
    refine F_mv_partOfEcho_11 (br_f (nI_ge hjn (by omega)) ?_)
    have e1 : nI i + 2 * nI j = nI (i + 2 * j) := by rw [show (2 : Int32) = nI 2 from rfl, pk_mul, nI_add]
    rw [e1, nI_1, nI_1, hp_sa hk, nI_clamp (by omega), hp_sa hk, nI_clamp (by omega), (hx j hjn).1, (hx j hjn).2]
    refine ⟨vp_in_nI (by omega) (by omega), vp_in_nI (by omega) (by omega), ?_⟩
    have main : lk_wx X (d + 1) 25 [.ref 5, .ref bb, .int (R j), .int (C j)] (hp x S L m dyn) (fun v h' => ∃ x', v = none ∧ h' = hp x' S L m dyn ∧ (∀ q, ¬ q = 4 → x' q = x q) ∧ ∀ r s, r < 21 → s < 21 → x' 4 (21 * r + s) = nI (fitF N g R C j (21 * r + s) + if ef N g (R j).toInt (C j).toInt r s = true then 1 else 0)) := by
      refine E_mv_tallyFits ?_
      refine x_tally_loop (i := 0) (B := fitF N g R C j) hb (fun t => Nat.le_trans fitF_le (by omega)) N x rfl (Nat.zero_le _) (fun r s hr hs => ?_) (fun x' h1 h2 => ⟨x', rfl, rfl, h1, h2⟩)
      rw [hf _ (by omega), if_neg]
      · rfl
      · unfold ef
        rw [decide_eq_true_iff]
        omega
    obtain ⟨v, h', ev, x', rfl, rfl, h1, h2⟩ := main.ex
    rw [hp_v5, ev.iffv]
    refine ih (j + 1) x' (by omega) (by omega) (fun j' hj' => by rw [h1 (10 + k) (by omega)]; exact hx j' hj') (fun t ht => ?_) (fun x'' h3 => hQ x'' (fun q hq => by rw [h3 q hq, h1 q hq]))
    have h3 := h2 (t / 21) (t % 21) (by omega) (by omega)
    rw [show 21 * (t / 21) + t % 21 = t by omega] at h3
    rw [h3]
    unfold fitF
    rw [cn_snoc, Nat.zero_add]
theorem C_echo {bb N k i n w : Nat} {g : Nat → Nat} (hk : k < 8) (hi : i + 2 * n ≤ 60) (hn : n ≤ 30) (hw : w < 3) (hb : ∀ x', ar (hp x' S L m dyn) bb N g) : ∃ x', lk_ev X (d + 2) 24 [.ref 5, .int (nI w), .ref bb, .ref (14 + 2 * k), .int (nI i), .int (nI n)] (hp x S L m dyn) (some (.int (nI (ep w (fitF N g (fun j => x (10 + k) (i + 2 * j)) (fun j => x (10 + k) (i + 2 * j + 1)) n))))) (hp x' S L m dyn) ∧ ∀ q, ¬ q = 4 → x' q = x q := by
  have main : lk_wx X (d + 2) 24 [.ref 5, .int (nI w), .ref bb, .ref (14 + 2 * k), .int (nI i), .int (nI n)] (hp x S L m dyn) (fun v h' => ∃ x', v = some (.int (nI (ep w (fitF N g (fun j => x (10 + k) (i + 2 * j)) (fun j => x (10 + k) (i + 2 * j + 1)) n)))) ∧ h' = hp x' S L m dyn ∧ ∀ q, ¬ q = 4 → x' q = x q) := by
    refine E_mv_partOfEcho ?_
    rw [hp_f5_1, (S_ja_fill (by decide) hp_7).iffv]
    have e : (hp x S L m dyn).set 7 (.inl (0, (441, .inl (fun q => if q < 441 then 0 else x 4 q)))) = hp (mr x 4 (fun q => if q < 441 then 0 else x 4 q)) S L m dyn := rfl
    rw [e]
    refine x_echo_loop (R := fun j => x (10 + k) (i + 2 * j)) (C := fun j => x (10 + k) (i + 2 * j + 1)) hk hi hn hw hb n 0 _ rfl (Nat.zero_le _) (fun j hj => by rw [mr_ne (by omega)]; exact ⟨rfl, rfl⟩) (fun t ht => ?_) (fun x' h1 => ⟨x', rfl, rfl, fun q hq => by rw [h1 q hq, mr_ne hq]⟩)
    rw [mr_same, if_pos ht]
    rfl
  obtain ⟨v, h', ev, x', rfl, rfl, h1⟩ := main.ex
  exact ⟨x', ev, h1⟩
end ECHO2
