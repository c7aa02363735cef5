/-! the class's search for the shortest ruler -/
def rsg (l : List Nat) : Prop := 1 ≤ l.length ∧ (∀ i j, i < j → j < l.length → gl l i < gl l j) ∧ ∀ i, i < l.length → gl l i ≤ 200
theorem rsg.last {l : List Nat} (h : rsg l) {i : Nat} (hi : i < l.length) : gl l i ≤ gl l (l.length - 1) := by
  by_cases hq : i = l.length - 1
  · rw [hq]
    exact Nat.le_refl _
  · exact Nat.le_of_lt (h.2.1 i (l.length - 1) (by omega) (by omega))
theorem rsg.go {l : List Nat} {q : Nat} (h : rsg l) (hq : gl l (l.length - 1) < q) (h2 : q ≤ 200) : rsg (l ++ [q]) := by
  have hlen : (l ++ [q]).length = l.length + 1 := by rw [List.length_append]; rfl
  refine ⟨by omega, fun i j hij hj => ?_, fun i hi => ?_⟩
  · rw [hlen] at hj
    rw [gl_app (show i < l.length by omega)]
    by_cases hjl : j = l.length
    · rw [hjl, gl_last]
      have := h.last (show i < l.length by omega)
      omega
    · rw [gl_app (show j < l.length by omega)]
      exact h.2.1 i j hij (by omega)
  · rw [hlen] at hi
    by_cases hil : i = l.length
    · rw [hil, gl_last]
      exact h2
    · rw [gl_app (by omega)]
      exact h.2.2 i (by omega)
theorem tk_iff {l : List Nat} {v : Nat} : tkB l v = true ↔ ∃ a b, a < b ∧ b < l.length ∧ gl l b = gl l a + v := by
  unfold tkB
  rw [an_iff]
  constructor
  · rintro ⟨a, h1, h2, h3⟩
    obtain ⟨b, h4, h5, h6⟩ := an_iff.mp h3
    exact ⟨a, b, by omega, by omega, of_decide_eq_true h6⟩
  · rintro ⟨a, b, h1, h2, h3⟩
    exact ⟨a, Nat.zero_le _, by omega, an_iff.mpr ⟨b, by omega, by omega, decide_eq_true h3⟩⟩
/-- is v a distance of the new mark to one of the first k -/
def hitB (l : List Nat) (q k v : Nat) : Bool := an (fun j => decide (v = q - gl l j)) 0 k
theorem hit_iff {l : List Nat} {q k v : Nat} : hitB l q k v = true ↔ ∃ j, j < k ∧ v = q - gl l j := by
  unfold hitB
  rw [an_iff]
  constructor
  · rintro ⟨j, h1, h2, h3⟩
    exact ⟨j, by omega, of_decide_eq_true h3⟩
  · rintro ⟨j, h1, h2⟩
    exact ⟨j, Nat.zero_le _, by omega, decide_eq_true h2⟩
theorem tk_app {l : List Nat} {q v : Nat} (hq : ∀ k, k < l.length → gl l k < q) : tkB (l ++ [q]) v = true ↔ tkB l v = true ∨ hitB l q l.length v = true := by
  have hlen : (l ++ [q]).length = l.length + 1 := by rw [List.length_append]; rfl
  rw [tk_iff, tk_iff, hit_iff, hlen]
  constructor
  · rintro ⟨a, b, h1, h2, h3⟩
    rw [gl_app (show a < l.length by omega)] at h3
    by_cases hb : b = l.length
    · rw [hb, gl_last] at h3
      exact Or.inr ⟨a, by omega, by omega⟩
    · rw [gl_app (show b < l.length by omega)] at h3
      exact Or.inl ⟨a, b, h1, by omega, h3⟩
  · rintro (⟨a, b, h1, h2, h3⟩ | ⟨j, h1, h2⟩)
    · exact ⟨a, b, h1, by omega, by rw [gl_app h2, gl_app (show a < l.length by omega)]; exact h3⟩
    · refine ⟨j, l.length, h1, by omega, ?_⟩
      rw [gl_last, gl_app h1]
      have := hq j h1
      omega
theorem lpS_le {s : Nat → Nat → Nat} {l : List Nat} (hs : ∀ q lv, q ≤ 200 → lv ≤ 201 → s q lv ≤ 201) : ∀ k q lv, q + k ≤ 201 → lv ≤ 201 → lpS s l k q lv ≤ 201 := by
  intro k
  induction k with
  | zero => intro q lv _ h; exact h
  | succ k ih =>
    intro q lv h1 h2
    rw [lpS]
    split
    · refine ih _ _ (by omega) ?_
      split
      · exact hs q lv (by omega) h2
      · exact h2
    · exact h2
theorem sea_le : ∀ (f : Nat) (l : List Nat) (lv : Nat), 1 ≤ l.length → (∀ i, i < l.length → gl l i ≤ 200) → lv ≤ 201 → sea f l lv ≤ 201 := by
  intro f
  induction f with
  | zero =>
    intro l lv h1 h2 h3
    rw [sea]
    have := h2 (l.length - 1) (by omega)
    omega
  | succ f ih =>
    intro l lv h1 h2 h3
    rw [sea]
    have := h2 (l.length - 1) (by omega)
    refine lpS_le (fun q lv hq hl => ?_) _ _ _ (by omega) h3
    have hlen : (l ++ [q]).length = l.length + 1 := by rw [List.length_append]; rfl
    refine ih (l ++ [q]) lv (by omega) (fun i hi => ?_) hl
    by_cases hil : i = l.length
    · rw [hil, gl_last]
      exact hq
    · rw [gl_app (by omega)]
      exact h2 i (by omega)
/-- the search's cells at a beginning l -/
def RQ (x : Nat → Nat → Int32) (l : List Nat) (lv : Nat) : Prop := (∀ i, i < l.length → x 6 i = nI (gl l i)) ∧ (∀ v, v < 201 → x 7 v = oI (tkB l v)) ∧ x 8 0 = nI lv
def XS (x x' : Nat → Nat → Int32) : Prop := ∀ c, ¬ c = 6 → ¬ c = 7 → ¬ c = 8 → x' c = x c
section RSEARCH
variable {X : lk_X} {d : Nat} {x : Nat → Nat → Int32} {S L : Nat → Option Nat} {m : Nat → Nat → Int32} {dyn : lk_H} {n : Nat}
theorem rs_new_loop {l : List Nat} {q : Nat} (h6 : l.length ≤ 6) (hq : ∀ k, k < l.length → gl l k < q) (hq2 : q ≤ 200) (hx6 : ∀ i, i < l.length → x 6 i = nI (gl l i)) (hx7 : ∀ v, v < 201 → x 7 v = oI (tkB l v)) {Q : Option Value → lk_H → Prop} : ∀ (u k : Nat), l.length - k = u → k ≤ l.length → Q (some (.int (oI (!(an (fun k => tkB l (q - gl l k)) k u))))) (hp x S L m dyn) → lk_wp X (d + 1) 48 2 [.ref 9, .int (nI q), .int (nI l.length), .int (nI k)] [] (hp x S L m dyn) Q := by
  intro u
  induction u with
  | zero =>
    intro k hu hk hQ
    exact F_rs_hasNewDistances_2 (br_t (nI_le (by omega) (by omega)) hQ)
  | succ u ih =>
    intro k hu hk hQ
    have hkl : k < l.length := by omega
    have h1 := hq k hkl
    refine F_rs_hasNewDistances_2 (br_f (nI_ge hkl (by omega)) ?_)
    rw [hp_f9_2, hp_f9_1, hp_a11, nI_clamp (by omega), hx6 k hkl]
    refine ⟨vp_in_nI (by omega) (by omega), ?_⟩
    rw [nI_sub (by omega) (by omega), hp_a12, nI_clamp (by omega), hx7 _ (by omega), nI_1]
    refine ⟨vp_in_nI (by omega) (by omega), ?_⟩
    rw [an] at hQ
    cases ht : tkB l (q - gl l k) with
    | false =>
      rw [ht, Bool.false_or] at hQ
      exact br_t rfl (ih (k + 1) (by omega) (by omega) hQ)
    | true =>
      rw [ht, Bool.true_or] at hQ
      exact br_f (by decide) hQ
theorem S_rs_new {l : List Nat} {q : Nat} (h6 : l.length ≤ 6) (hq : ∀ k, k < l.length → gl l k < q) (hq2 : q ≤ 200) (hx6 : ∀ i, i < l.length → x 6 i = nI (gl l i)) (hx7 : ∀ v, v < 201 → x 7 v = oI (tkB l v)) : lk_ev X (d + 1) 48 [.ref 9, .int (nI q), .int (nI l.length)] (hp x S L m dyn) (some (.int (oI (nwB l q)))) (hp x S L m dyn) := by
  refine E_rs_hasNewDistances ?_
  exact rs_new_loop (k := 0) h6 hq hq2 hx6 hx7 l.length rfl (Nat.zero_le _) ⟨rfl, rfl⟩
theorem rs_mind_loop {l : List Nat} {q : Nat} {b : Bool} (h6 : l.length ≤ 6) (hq : ∀ k, k < l.length → gl l k < q) (hq2 : q ≤ 200) (hx6 : ∀ i, i < l.length → x 6 i = nI (gl l i)) {Q : Option Value → lk_H → Prop} (hQ : ∀ x', (∀ c, ¬ c = 7 → x' c = x c) → (∀ v, v < 201 → x' 7 v = if hitB l q l.length v = true then oI b else x 7 v) → Q none (hp x' S L m dyn)) : ∀ (u k : Nat) (x' : Nat → Nat → Int32), l.length - k = u → k ≤ l.length → (∀ c, ¬ c = 7 → x' c = x c) → (∀ v, v < 201 → x' 7 v = if hitB l q k v = true then oI b else x 7 v) → lk_wp X (d + 1) 49 3 [.ref 9, .int (nI q), .int (nI l.length), .int (oI b), .int (nI k)] [] (hp x' S L m dyn) Q := by
  intro u
  induction u with
  | zero =>
    intro k x' hu hk h1 h2
    rw [show k = l.length by omega] at h2
    exact F_rs_mindDistances_3 (br_t (nI_le (by omega) (by omega)) (hQ x' h1 h2))
  | succ u ih =>
    intro k x' hu hk h1 h2
    have hkl : k < l.length := by omega
    have h3 := hq k hkl
    refine F_rs_mindDistances_3 (br_f (nI_ge hkl (by omega)) ?_)
    rw [hp_f9_2, hp_f9_1, hp_a11, nI_clamp (by omega), h1 6 (by decide), hx6 k hkl]
    refine ⟨vp_in_nI (by omega) (by omega), ?_⟩
    have eb : vp_nar .boolean (oI b) = oI b := by cases b <;> rfl
    rw [nI_sub (by omega) (by omega), hp_w12, nI_clamp (by omega), nI_1, eb]
    refine ⟨vp_in_nI (by omega) (by omega), ih (k + 1) _ (by omega) (by omega) (fun c hc => by rw [ms_ne hc]; exact h1 c hc) (fun v hv => ?_)⟩
    rw [ms_same]
    by_cases hvq : v = q - gl l k
    · rw [hvq, pk_us, if_pos (hit_iff.mpr ⟨k, by omega, rfl⟩)]
    · rw [pk_un hvq, h2 v hv]
      by_cases hh : hitB l q k v = true
      · obtain ⟨j, j1, j2⟩ := hit_iff.mp hh
        rw [if_pos hh, if_pos (hit_iff.mpr ⟨j, by omega, j2⟩)]
      · rw [if_neg hh, if_neg]
        intro w
        obtain ⟨j, j1, j2⟩ := hit_iff.mp w
        by_cases hjk : j = k
        · rw [hjk] at j2
          exact hvq j2
        · exact hh (hit_iff.mpr ⟨j, by omega, j2⟩)
theorem S_rs_mind {l : List Nat} {q : Nat} (b : Bool) (h6 : l.length ≤ 6) (hq : ∀ k, k < l.length → gl l k < q) (hq2 : q ≤ 200) (hx6 : ∀ i, i < l.length → x 6 i = nI (gl l i)) : ∃ x', lk_ev X (d + 1) 49 [.ref 9, .int (nI q), .int (nI l.length), .int (oI b)] (hp x S L m dyn) none (hp x' S L m dyn) ∧ (∀ c, ¬ c = 7 → x' c = x c) ∧ ∀ v, v < 201 → x' 7 v = if hitB l q l.length v = true then oI b else x 7 v := by
  have main : lk_wx X (d + 1) 49 [.ref 9, .int (nI q), .int (nI l.length), .int (oI b)] (hp x S L m dyn) (fun v h' => ∃ x', v = none ∧ h' = hp x' S L m dyn ∧ (∀ c, ¬ c = 7 → x' c = x c) ∧ ∀ v, v < 201 → x' 7 v = if hitB l q l.length v = true then oI b else x 7 v) := by
    refine E_rs_mindDistances ?_
    refine rs_mind_loop (k := 0) h6 hq hq2 hx6 (fun x' w1 w2 => ⟨x', rfl, rfl, w1, w2⟩) l.length x rfl (Nat.zero_le _) (fun _ _ => rfl) (fun v hv => ?_)
    rw [if_neg]
    intro w
    obtain ⟨j, j1, -⟩ := hit_iff.mp w
    omega
  obtain ⟨v, h', ev, x', rfl, rfl, e1, e2⟩ := main.ex
  exact ⟨x', ev, e1, e2⟩
def CR (X : lk_X) (D : Nat) (S L : Nat → Option Nat) (m : Nat → Nat → Int32) (dyn : lk_H) (n f : Nat) (l : List Nat) : Prop :=
  ∀ (x : Nat → Nat → Int32) (lv : Nat), RQ x l lv → lv ≤ 201 → ∃ x', lk_ev X D 47 [.ref 9, .int (nI l.length), .int (nI n)] (hp x S L m dyn) none (hp x' S L m dyn) ∧ XS x x' ∧ RQ x' l (sea f l lv)
theorem rsearch_loop {f : Nat} {l : List Nat} (h6 : n ≤ 6) (hl : l.length + (f + 1) = n) (hg : rsg l) (ih : ∀ q, gl l (l.length - 1) < q → q ≤ 200 → CR X (d + 2 + f) S L m dyn n f (l ++ [q])) {Q : Option Value → lk_H → Prop} : ∀ (k q : Nat) (x : Nat → Nat → Int32) (lv : Nat), q + k = 201 → gl l (l.length - 1) < q → RQ x l lv → lv ≤ 201 → (∀ x', XS x x' → RQ x' l (lpS (fun q lv => sea f (l ++ [q]) lv) l k q lv) → Q none (hp x' S L m dyn)) → lk_wp X (d + 2 + f + 1) 47 25 [.ref 9, .int (nI l.length), .int (nI n), .retAddr 0, .int (nI q)] [] (hp x S L m dyn) Q := by
  intro k
  induction k with
  | zero =>
    intro q x lv hk hq hx hlv hQ
    refine F_rs_search_25 ?_
    rw [hp_f9_3, hx.2.2]
    exact br_t (nI_le (by omega) (by omega)) (hQ x (fun _ _ _ _ => rfl) hx)
  | succ k ihk =>
    intro q x lv hk hq hx hlv hQ
    have hlt : ∀ k, k < l.length → gl l k < q := fun k hk => by have := hg.last hk; omega
    refine F_rs_search_25 ?_
    rw [hp_f9_3, hx.2.2]
    rw [lpS] at hQ
    by_cases hqv : q < lv
    · rw [if_pos hqv] at hQ
      refine br_f (nI_ge hqv (by omega)) ?_
      have evn := S_rs_new (X := X) (d := d + 1 + f) (x := x) (S := S) (L := L) (m := m) (dyn := dyn) (l := l) (q := q) (by omega) hlt (by omega) hx.1 hx.2.1
      rw [show d + 1 + f + 1 = d + 2 + f by omega] at evn
      rw [hp_v9, evn.iffi, nI_1]
      cases hn : nwB l q with
      | false =>
        rw [hn, if_neg (by decide)] at hQ
        exact br_t rfl (ihk (q + 1) x lv (by omega) (by omega) hx hlv hQ)
      | true =>
        rw [hn, if_pos rfl] at hQ
        refine br_f (by decide) ?_
        rw [hp_f9_1, hp_w11, nI_clamp (by omega)]
        refine ⟨vp_in_nI (by omega) (by omega), ?_⟩
        have hlen : (l ++ [q]).length = l.length + 1 := by rw [List.length_append]; rfl
        obtain ⟨x2, ev2, a1, a2⟩ := S_rs_mind (X := X) (d := d + 1 + f) (x := ms x 6 l.length (nI q)) (S := S) (L := L) (m := m) (dyn := dyn) (l := l) (q := q) true (by omega) hlt (by omega) (fun i hi => by rw [ms_same, pk_un (by omega)]; exact hx.1 i hi)
        rw [show d + 1 + f + 1 = d + 2 + f by omega] at ev2
        have ev2' : lk_ev X (d + 2 + f) 49 [.ref 9, .int (nI q), .int (nI l.length), .int 1] (hp (ms x 6 l.length (nI q)) S L m dyn) none (hp x2 S L m dyn) := ev2
        rw [hp_v9, ev2'.iffv]
        have hx2 : RQ x2 (l ++ [q]) lv := by
          refine ⟨fun i hi => ?_, fun v hv => ?_, ?_⟩
          · rw [a1 6 (by decide), ms_same]
            by_cases hil : i = l.length
            · rw [hil, pk_us, gl_last]
            · rw [pk_un hil, gl_app (by omega)]
              exact hx.1 i (by omega)
          · rw [a2 v hv, ms_ne (by decide), hx.2.1 v hv]
            by_cases hh : hitB l q l.length v = true
            · rw [if_pos hh, (tk_app hlt).mpr (Or.inr hh)]
            · rw [if_neg hh]
              have : tkB (l ++ [q]) v = tkB l v := by
                rw [Bool.eq_iff_iff, tk_app hlt]
                exact ⟨fun w => w.resolve_right hh, Or.inl⟩
              rw [this]
          · rw [a1 8 (by decide), ms_ne (by decide)]
            exact hx.2.2
        obtain ⟨x3, ev3, b1, b2⟩ := ih q hq (by omega) x2 lv hx2 hlv
        rw [hlen] at ev3
        rw [nI_1, ev3.iffv]
        have hx36 : ∀ i, i < l.length → x3 6 i = nI (gl l i) := fun i hi => by
          rw [b2.1 i (by omega), gl_app hi]
        obtain ⟨x4, ev4, c1, c2⟩ := S_rs_mind (X := X) (d := d + 1 + f) (x := x3) (S := S) (L := L) (m := m) (dyn := dyn) (l := l) (q := q) false (by omega) hlt (by omega) hx36
        rw [show d + 1 + f + 1 = d + 2 + f by omega] at ev4
        have ev4' : lk_ev X (d + 2 + f) 49 [.ref 9, .int (nI q), .int (nI l.length), .int 0] (hp x3 S L m dyn) none (hp x4 S L m dyn) := ev4
        rw [hp_v9, ev4'.iffv]
        have hx4 : RQ x4 l (sea f (l ++ [q]) lv) := by
          refine ⟨fun i hi => by rw [c1 6 (by decide)]; exact hx36 i hi, fun v hv => ?_, by rw [c1 8 (by decide)]; exact b2.2.2⟩
          rw [c2 v hv]
          by_cases hh : hitB l q l.length v = true
          · rw [if_pos hh]
            have : tkB l v = false := by
              obtain ⟨j, j1, j2⟩ := hit_iff.mp hh
              cases ht : tkB l v with
              | false => rfl
              | true =>
                unfold nwB at hn
                have w : an (fun k => tkB l (q - gl l k)) 0 l.length = true := an_iff.mpr ⟨j, Nat.zero_le _, by omega, by rw [← j2]; exact ht⟩
                rw [w] at hn
                cases hn
            rw [this]
          · rw [if_neg hh, b2.2.1 v hv]
            have : tkB (l ++ [q]) v = tkB l v := by
              rw [Bool.eq_iff_iff, tk_app hlt]
              exact ⟨fun w => w.resolve_right hh, Or.inl⟩
            rw [this]
        have hgo := hg.go hq (show q ≤ 200 by omega)
        refine ihk (q + 1) x4 _ (by omega) (by omega) hx4 (sea_le f (l ++ [q]) lv hgo.1 hgo.2.2 hlv) (fun x' w1 w2 => hQ x' (fun c h1 h2 h3 => ?_) w2)
        rw [w1 c h1 h2 h3, c1 c h2, b1 c h1 h2 h3, a1 c h2, ms_ne h1]
    · rw [if_neg hqv] at hQ
      exact br_t (nI_le (by omega) (by omega)) (hQ x (fun _ _ _ _ => rfl) hx)
theorem C_rsearch (h6 : n ≤ 6) : ∀ (f : Nat) (l : List Nat), l.length + f = n → rsg l → CR X (d + 2 + f) S L m dyn n f l := by
  intro f
  induction f with
  | zero =>
    intro l hl hg x lv hx hlv
    have h1 := hg.1
    refine ⟨ms x 8 0 (nI (gl l (l.length - 1))), E_rs_search ?_, fun c _ _ h8 => ms_ne h8, fun i hi => by rw [ms_ne (by decide)]; exact hx.1 i hi, fun v hv => by rw [ms_ne (by decide)]; exact hx.2.1 v hv, by rw [ms_same]; exact pk_us⟩
    rw [hp_f9_1, nI_sub1 h1 (by omega), hp_a11, nI_clamp (by omega), hx.1 _ (by omega)]
    refine ⟨vp_in_nI (by omega) (by omega), br_f (by rw [nI_ltI (by omega) (by omega)]; omega) ?_⟩
    rw [hp_p9_3]
    exact ⟨rfl, rfl⟩
  | succ f ih =>
    intro l hl hg x lv hx hlv
    have h1 := hg.1
    have h2 := hg.2.2 (l.length - 1) (by omega)
    have main : lk_wx X (d + 2 + (f + 1)) 47 [.ref 9, .int (nI l.length), .int (nI n)] (hp x S L m dyn) (fun v h' => ∃ x', v = none ∧ h' = hp x' S L m dyn ∧ XS x x' ∧ RQ x' l (sea (f + 1) l lv)) := by
      refine E_rs_search ?_
      rw [hp_f9_1, nI_sub1 h1 (by omega), hp_a11, nI_clamp (by omega), hx.1 _ (by omega)]
      refine ⟨vp_in_nI (by omega) (by omega), br_t (by rw [nI_ltI (by omega) (by omega)]; omega) ?_⟩
      rw [nI_1]
      exact rsearch_loop (d := d) h6 hl hg (fun q hq hq2 => ih (l ++ [q]) (by rw [List.length_append]; show l.length + 1 + f = n; omega) (hg.go hq hq2)) (200 - gl l (l.length - 1)) (gl l (l.length - 1) + 1) x lv (by omega) (by omega) hx hlv (fun x' w1 w2 => ⟨x', rfl, rfl, w1, w2⟩)
    obtain ⟨v, h', ev, x', rfl, rfl, e1, e2⟩ := main.ex
    exact ⟨x', ev, e1, e2⟩
theorem sea_sho : ∀ n : Nat, 1 ≤ n → n ≤ 6 → sea (n - 1) [0] 201 = sho n := by
  intro n h1 h6
  match n, h1, h6 with
  | 1, _, _ => exact sea_1
  | 2, _, _ => exact sea_2
  | 3, _, _ => exact sea_3
  | 4, _, _ => exact sea_4
  | 5, _, _ => exact sea_5
  | 6, _, _ => exact sea_6
theorem sho_le : ∀ n : Nat, n ≤ 6 → sho n ≤ 17 := by decide
theorem C_least (h1 : 1 ≤ n) (h6 : n ≤ 6) (hR : RR x m) : ∃ x', lk_ev X (d + 8) 46 [.ref 9, .int (nI n)] (hp x S L m dyn) (some (.int (nI (sho n)))) (hp x' S L m dyn) ∧ (∀ c, ¬ c = 5 → ¬ c = 6 → ¬ c = 7 → ¬ c = 8 → x' c = x c) ∧ RR x' m := by
  obtain ⟨r1, r2, r3, r4⟩ := hR
  rcases r3 n h1 h6 with hm1 | hsho
  · have hx0 : RQ (ms x 8 0 201) [0] 201 := by
      refine ⟨fun i hi => ?_, fun v hv => ?_, by rw [ms_same]; exact pk_us⟩
      · have : i = 0 := by
          have : i < 1 := hi
          omega
        subst this
        rw [ms_ne (by decide), r1]
        rfl
      · rw [ms_ne (by decide), r2 v hv]
        rfl
    have hg0 : rsg [0] := by
      refine ⟨by decide, fun i j hij hj => ?_, fun i hi => ?_⟩
      · have : j < 1 := hj
        omega
      · have : i < 1 := hi
        have : i = 0 := by omega
        subst this
        decide
    obtain ⟨x1, ev, a1, a2⟩ := C_rsearch (X := X) (d := d + (6 - n)) (S := S) (L := L) (m := m) (dyn := dyn) h6 (n - 1) [0] (by show 1 + (n - 1) = n; omega) hg0 (ms x 8 0 201) 201 hx0 (Nat.le_refl _)
    rw [show d + (6 - n) + 2 + (n - 1) = d + 7 by omega] at ev
    have ev' : lk_ev X (d + 7) 47 [.ref 9, .int 1, .int (nI n)] (hp (ms x 8 0 201) S L m dyn) none (hp x1 S L m dyn) := ev
    rw [sea_sho n h1 h6] at a2
    refine ⟨ms x1 5 n (nI (sho n)), E_rs_leastGreatestMark ?_, fun c h5 h66 h7 h8 => by rw [ms_ne h5, a1 c h66 h7 h8, ms_ne h8], ?_, fun i hi => ?_, fun n' h1' h6' => ?_, r4⟩
    · rw [hp_f9_0, hp_a10, nI_clamp (by omega), hm1]
      refine ⟨vp_in_nI (by omega) (by omega), br_n2 rfl ?_⟩
      rw [hp_p9_3, ev'.iffv, hp_f9_0, hp_f9_3, a2.2.2, hp_w10, nI_clamp (by omega)]
      refine ⟨vp_in_nI (by omega) (by omega), ?_⟩
      rw [hp_f9_0, hp_a10, nI_clamp (by omega), ms_same, pk_us]
      exact ⟨vp_in_nI (by omega) (by omega), rfl, rfl⟩
    · rw [ms_ne (by decide), a2.1 0 (by decide)]
      rfl
    · rw [ms_ne (by decide), a2.2.1 i hi]
      rfl
    · rw [ms_same]
      by_cases hn : n' = n
      · rw [hn, pk_us]
        exact Or.inr rfl
      · rw [pk_un hn, a1 5 (by decide) (by decide) (by decide), ms_ne (by decide)]
        exact r3 n' h1' h6'
  · refine ⟨x, E_rs_leastGreatestMark ?_, fun _ _ _ _ _ => rfl, r1, r2, r3, r4⟩
    have hs := sho_le n h6
    rw [hp_f9_0, hp_a10, nI_clamp (by omega), hsho]
    refine ⟨vp_in_nI (by omega) (by omega), br_n1 (fun w => ?_) ?_⟩
    · rw [i32_eq, i32_nI (by omega), show (-1 : Int32).toInt = -1 from rfl] at w
      omega
    · rw [hp_f9_0, hp_a10, nI_clamp (by omega), hsho]
      exact ⟨vp_in_nI (by omega) (by omega), rfl, rfl⟩
end RSEARCH
