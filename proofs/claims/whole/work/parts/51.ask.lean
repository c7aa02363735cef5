/-! clear, kind, is, as, at, alike, trace, status -/
/-- is a thing of that class of the kind -/
def ok5 (c k : Nat) : Bool := if k = 0 then true else if k = 1 then (c == 0 || c == 4) else if k = 2 then c == 0 else if k = 3 then (c == 2 || c == 5 || c == 6) else if k = 4 then (c == 5 || c == 6) else c == 5
section ASK
variable {X : lk_X} {d : Nat} {x : Nat → Nat → Int32} {S L : Nat → Option Nat} {m : Nat → Nat → Int32} {dyn : lk_H}
theorem kc_pos {c : Nat} : 1 ≤ kc c ∧ kc c ≤ 5 := by
  unfold kc
  repeat' split
  all_goals omega
theorem S_m_isOf {c k : Nat} {h : lk_H} (hc : isC c) (hk : k < 6) : lk_ev X (d + 1) 121 [.int (nI (kc c)), .int (nI k)] h (some (.int (bI (ok5 c k = true)))) h := by
  refine E_m_isOf ?_
  rcases hc with rfl | rfl | rfl | rfl | rfl <;> (match k, hk with
    | 0, _ => simp (decide := true) [kc, lk_ev, ok5, bI]
    | 1, _ => simp (decide := true) [kc, lk_ev, ok5, bI]
    | 2, _ => simp (decide := true) [kc, lk_ev, ok5, bI]
    | 3, _ => simp (decide := true) [kc, lk_ev, ok5, bI]
    | 4, _ => simp (decide := true) [kc, lk_ev, ok5, bI]
    | 5, _ => simp (decide := true) [kc, lk_ev, ok5, bI])
theorem io5 {h : lk_H} {a c b n : Nat} {g : Nat → Nat} (ht : tr h a c b n g) {e0 e2 e4 e5 e6 : Nat} {A B : Prop} (u : Bool) (hu : (if c = 0 then e0 else if c = 2 then e2 else if c = 4 then e4 else if c = 5 then e5 else e6) = (if u = true then 1 else 0)) (hq : if u = true then A else B) : lk_io h a [(0, e0), (2, e2), (4, e4), (5, e5), (6, e6)] A B := by
  refine ⟨c, _, ht.1, ?_⟩
  have hf : lk_find [(0, e0), (2, e2), (4, e4), (5, e5), (6, e6)] c = some (if c = 0 then e0 else if c = 2 then e2 else if c = 4 then e4 else if c = 5 then e5 else e6) := by
    rcases ht.2.1 with rfl | rfl | rfl | rfl | rfl <;> rfl
  rw [hf, hu]
  cases u with
  | true => exact Or.inl ⟨rfl, hq⟩
  | false => exact Or.inr ⟨rfl, hq⟩
theorem S_x_isOfKind {h : lk_H} {a c b n k : Nat} {g : Nat → Nat} (ht : tr h a c b n g) (hk : k < 6) : lk_ev X (d + 1) 102 [.ref a, .int (nI k)] h (some (.int (bI (ok5 c k = true)))) h := by
  refine E_x_isOfKind ?_
  have hc := ht.2.1
  match k, hk with
  | 0, _ => exact br_t rfl ⟨rfl, rfl⟩
  | 1, _ =>
    refine br_f (by decide) (br_t rfl (io5 ht (ok5 c 1) ?_ ?_))
    · rcases hc with rfl | rfl | rfl | rfl | rfl <;> rfl
    · rcases hc with rfl | rfl | rfl | rfl | rfl <;> exact ⟨rfl, rfl⟩
  | 2, _ =>
    refine br_f (by decide) (br_f (by decide) (br_t rfl (io5 ht (ok5 c 2) ?_ ?_)))
    · rcases hc with rfl | rfl | rfl | rfl | rfl <;> rfl
    · rcases hc with rfl | rfl | rfl | rfl | rfl <;> exact ⟨rfl, rfl⟩
  | 3, _ =>
    refine br_f (by decide) (br_f (by decide) (br_f (by decide) (br_t rfl (io5 ht (ok5 c 3) ?_ ?_))))
    · rcases hc with rfl | rfl | rfl | rfl | rfl <;> rfl
    · rcases hc with rfl | rfl | rfl | rfl | rfl <;> exact ⟨rfl, rfl⟩
  | 4, _ =>
    refine br_f (by decide) (br_f (by decide) (br_f (by decide) (br_f (by decide) (br_t rfl (io5 ht (ok5 c 4) ?_ ?_)))))
    · rcases hc with rfl | rfl | rfl | rfl | rfl <;> rfl
    · rcases hc with rfl | rfl | rfl | rfl | rfl <;> exact ⟨rfl, rfl⟩
  | 5, _ =>
    refine br_f (by decide) (br_f (by decide) (br_f (by decide) (br_f (by decide) (br_f (by decide) (br_t rfl (io5 ht (ok5 c 5) ?_ ?_))))))
    · rcases hc with rfl | rfl | rfl | rfl | rfl <;> rfl
    · rcases hc with rfl | rfl | rfl | rfl | rfl <;> exact ⟨rfl, rfl⟩
theorem S_x_isOfKind_n {h : lk_H} {v : Int32} : lk_ev X (d + 1) 102 [.null, .int v] h (some (.int 0)) h := E_x_isOfKind_n ⟨fun _ => ⟨rfl, rfl⟩, fun _ => ⟨fun _ => ⟨rfl, rfl⟩, fun _ => ⟨fun _ => ⟨rfl, rfl⟩, fun _ => ⟨fun _ => ⟨rfl, rfl⟩, fun _ => ⟨fun _ => ⟨rfl, rfl⟩, fun _ => ⟨fun _ => ⟨rfl, rfl⟩, fun _ => ⟨rfl, rfl⟩⟩⟩⟩⟩⟩⟩
theorem ra_n {i p : Nat} (e : i = p) (hp10 : p < 10) {A : Prop} {B : Nat → Prop} (hS : S p = none) (q : A) : lk_ra (hp x S L m dyn) 2 (nI i) A B := by
  subst e
  rw [hp_ra2, nI_clamp (by omega)]
  exact ⟨vp_in_nI hp10 (by omega), fun _ => q, fun a w => by rw [hS] at w; cases w⟩
theorem ra_s {p a : Nat} (hp10 : p < 10) {A : Prop} {B : Nat → Prop} (hS : S p = some a) (q : B a) : lk_ra (hp x S L m dyn) 2 (nI p) A B := by
  rw [hp_ra2, nI_clamp (by omega)]
  refine ⟨vp_in_nI hp10 (by omega), fun w => ?_, fun a' w => ?_⟩
  · rw [hS] at w
    cases w
  · rw [hS] at w
    cases w
    exact q
theorem T_status (h : Rel x S L m dyn) : TE X (d + 4) 93 169 [] x S L m dyn := by
  refine TE.mk0 (r := x 0 0) (E_x_status ?_) (E_m_status ?_) h
  · rw [hp_f0_6]
    exact ⟨rfl, rfl⟩
  · rw [hp_f29_7, ← h.2.1.1]
    exact ⟨rfl, rfl⟩
theorem T_clear (h : Rel x S L m dyn) (v : Int32) : TE X (d + 4) 78 145 [.int v] x S L m dyn := by
  by_cases hv : 0 ≤ v.toInt ∧ v.toInt ≤ 9
  · obtain ⟨p, rfl, hp1, -⟩ := i32_nat hv.1
    have hp10 : p < 10 := by omega
    have hrel : Rel x (va_up S p none) L (ms m 4 p 0) dyn := by
      obtain ⟨r1, r2, r3, r4, r5⟩ := h
      refine ⟨r1.congr (fun _ _ => rfl) (ms_ne (by decide)) (ms_ne (by decide)) (ms_ne (by decide)), r2.congr (by rw [ms_ne (by decide)]; exact r2.1) rfl rfl (ms_ne (by decide)) (ms_ne (by decide)), ?_, r4.congr (fun _ _ q => q) (ms_ne (by decide)) (ms_ne (by decide)), r5.congr rfl rfl rfl (ms_ne (by decide)) (ms_ne (by decide))⟩
      intro q hq
      by_cases hqp : q = p
      · subst hqp
        exact Or.inl ⟨va_up_self _ _ _, by rw [ms_same, pk_us]⟩
      · rw [va_up_ne _ _ hqp, ms_same, pk_un hqp, ms_ne (by decide), ms_ne (by decide)]
        exact r3 q hq
    rcases h.2.2.1.get hp10 with ⟨q1, q2⟩ | ⟨a, c, b, n, g, q1, q2, q3, q4, q5⟩
    · refine TE.mk0 (r := 0) (E_x_clear ?_) (E_m_clear ?_) hrel
      · rw [S_x_isPlace.iffi]
        refine br_n1 (bI_t hv) ?_
        rw [hp_f0_1]
        refine ra_n rfl hp10 q1 ?_
        rw [hp_f0_1, hp_rn2, nI_clamp (by omega)]
        exact ⟨vp_in_nI hp10 (by omega), rfl, rfl⟩
      · rw [S_m_isPlace.iffi]
        refine br_n1 (bI_t hv) ?_
        rw [hp_f29_4, hp_a34, nI_clamp (by omega), q2]
        refine ⟨vp_in_nI (by omega) (by omega), br_t (by decide) ?_⟩
        rw [hp_f29_4, hp_w34, nI_clamp (by omega)]
        exact ⟨vp_in_nI (by omega) (by omega), rfl, rfl⟩
    · refine TE.mk0 (r := 1) (E_x_clear ?_) (E_m_clear ?_) hrel
      · rw [S_x_isPlace.iffi]
        refine br_n1 (bI_t hv) ?_
        rw [hp_f0_1]
        refine ra_s hp10 q1 ?_
        rw [hp_f0_1, hp_rn2, nI_clamp (by omega)]
        exact ⟨vp_in_nI hp10 (by omega), rfl, rfl⟩
      · rw [S_m_isPlace.iffi]
        refine br_n1 (bI_t hv) ?_
        have hk := kc_pos (c := c)
        rw [hp_f29_4, hp_a34, nI_clamp (by omega), q4]
        refine ⟨vp_in_nI (by omega) (by omega), br_f (nI_ge (a := 0) (by omega) (by omega)) ?_⟩
        rw [hp_f29_4, hp_w34, nI_clamp (by omega)]
        exact ⟨vp_in_nI (by omega) (by omega), rfl, rfl⟩
  · refine TE.mk0 (r := -1000001) (E_x_clear ?_) (E_m_clear ?_) h
    · rw [S_x_isPlace.iffi]
      exact br_n2 (bI_f hv) ⟨rfl, rfl⟩
    · rw [S_m_isPlace.iffi]
      exact br_n2 (bI_f hv) ⟨rfl, rfl⟩
theorem T_kind (h : Rel x S L m dyn) (v : Int32) : TE X (d + 4) 79 146 [.int v] x S L m dyn := by
  by_cases hv : 0 ≤ v.toInt ∧ v.toInt ≤ 9
  · obtain ⟨p, rfl, hp1, -⟩ := i32_nat hv.1
    have hp10 : p < 10 := by omega
    rcases h.2.2.1.get hp10 with ⟨q1, q2⟩ | ⟨a, c, b, n, g, q1, q2, q3, q4, q5⟩
    · refine TE.mk0 (r := -1000010 - 1) (E_x_kind ?_) (E_m_kind ?_) (h.st 1)
      · rw [S_x_isPlace.iffi]
        refine br_n1 (bI_t hv) ?_
        rw [hp_f0_1]
        refine ra_n rfl hp10 q1 ?_
        rw [hp_v0, S_x_found.iffi]
        exact ⟨rfl, rfl⟩
      · rw [S_m_isPlace.iffi]
        refine br_n1 (bI_t hv) ?_
        rw [hp_f29_4, hp_a34, nI_clamp (by omega), q2]
        refine ⟨vp_in_nI (by omega) (by omega), br_n2 rfl ?_⟩
        rw [hp_v29, S_m_finds.iffi]
        exact ⟨rfl, rfl⟩
    · have hk := kc_pos (c := c)
      have q2' := q2 x S L m []
      rw [List.append_nil] at q2'
      refine TE.mk0 (r := nI (kc c)) (E_x_kind ?_) (E_m_kind ?_) (h.st 0)
      · rw [S_x_isPlace.iffi]
        refine br_n1 (bI_t hv) ?_
        rw [hp_f0_1]
        refine ra_s hp10 q1 ?_
        rw [S_kind q2', hp_v0, S_x_settled.iffi]
        exact ⟨rfl, rfl⟩
      · rw [S_m_isPlace.iffi]
        refine br_n1 (bI_t hv) ?_
        rw [hp_f29_4, hp_a34, nI_clamp (by omega), q4]
        refine ⟨vp_in_nI (by omega) (by omega), br_n1 (nI_ne0 (by omega) (by omega)) ?_⟩
        rw [hp_f29_4, hp_a34, nI_clamp (by omega), q4]
        refine ⟨vp_in_nI (by omega) (by omega), ?_⟩
        rw [hp_v29, S_m_well.iffi]
        exact ⟨rfl, rfl⟩
  · refine TE.mk0 (r := -1000001) (E_x_kind ?_) (E_m_kind ?_) h
    · rw [S_x_isPlace.iffi]
      exact br_n2 (bI_f hv) ⟨rfl, rfl⟩
    · rw [S_m_isPlace.iffi]
      exact br_n2 (bI_f hv) ⟨rfl, rfl⟩
end ASK
