/-! the class's search for lonely orders -/
theorem lup_congr {g g' : Nat → Nat} {row : Nat} (h : ∀ k, k ≤ row → g k = g' k) : lupB g row = lupB g' row := by
  rw [Bool.eq_iff_iff, lup_iff, lup_iff]
  constructor
  · intro w e h1 h2
    rw [← h row (Nat.le_refl _), ← h (row - e) (by omega)]
    refine ⟨(w e h1 h2).1, fun k h3 h4 => ?_⟩
    rw [← h k (by omega), ← h (k - e) (by omega)]
    exact (w e h1 h2).2 k h3 h4
  · intro w e h1 h2
    rw [h row (Nat.le_refl _), h (row - e) (by omega)]
    refine ⟨(w e h1 h2).1, fun k h3 h4 => ?_⟩
    rw [h k (by omega), h (k - e) (by omega)]
    exact (w e h1 h2).2 k h3 h4
/-- a beginning that may go on -/
def okp (n : Nat) (l : List Nat) : Prop := ∀ i, i < l.length → gl l i < n ∧ lupB (gl l) i = true
theorem okp.go {n c : Nat} {l : List Nat} (h : okp n l) (hc : c < n) (hu : lupB (gl (l ++ [c])) l.length = true) : okp n (l ++ [c]) := by
  intro i hi
  rw [List.length_append] at hi
  have hi2 : i < l.length + 1 := hi
  by_cases hil : i = l.length
  · subst hil
    rw [gl_last]
    exact ⟨hc, hu⟩
  · have hlt : i < l.length := by omega
    rw [gl_app hlt, lup_congr (g' := gl l) (fun k hk => gl_app (by omega))]
    exact h i hlt
theorem okp.or {n : Nat} {l : List Nat} (h : okp n l) (hl : l.length = n) (h1 : 1 ≤ n) (h7 : n ≤ 7) : OR n (gl l) := by
  have ne : ∀ i j, i < j → j < n → ¬ gl l i = gl l j := by
    intro i j hij hj w
    have := (lup_iff.mp (h j (by omega)).2 (j - i) (by omega) (by omega)).1
    rw [show j - (j - i) = i by omega] at this
    exact this w.symm
  refine ⟨h1, by omega, fun i hi => (h i (by omega)).1, fun i j hi hj w => ?_⟩
  rcases Nat.lt_trichotomy i j with q | q | q
  · exact absurd w (ne i j q hj)
  · exact q
  · exact absurd w.symm (ne j i q hi)
/-- the codes of r have been put from s on -/
def PK (r : List (List Nat)) (f3 : Nat → Int32) (s : Nat) (f3' : Nat → Int32) : Prop := (∀ i, i < s → f3' i = f3 i) ∧ ∀ (i : Nat) (w : List Nat), r[i]? = some w → f3' (s + i) = nI (cod w)
theorem PK.nil {f3 : Nat → Int32} {s : Nat} : PK [] f3 s f3 := ⟨fun _ _ => rfl, fun i w h => by cases h⟩
theorem PK.app {r1 r2 : List (List Nat)} {f a b : Nat → Int32} {s : Nat} (h1 : PK r1 f s a) (h2 : PK r2 a (s + r1.length) b) : PK (r1 ++ r2) f s b := by
  refine ⟨fun i hi => by rw [h2.1 i (by omega), h1.1 i hi], fun i w hw => ?_⟩
  by_cases hi : i < r1.length
  · rw [List.getElem?_append_left hi] at hw
    rw [h2.1 (s + i) (by omega)]
    exact h1.2 i w hw
  · rw [List.getElem?_append_right (by omega)] at hw
    have := h2.2 (i - r1.length) w hw
    rw [show s + r1.length + (i - r1.length) = s + i by omega] at this
    exact this
/-- what comes of the columns from c on -/
def sc (n f : Nat) (l : List Nat) (c u : Nat) : List (List Nat) := (List.range' c u).flatMap (fun c => if lupB (gl (l ++ [c])) l.length = true then srch n f (l ++ [c]) else [])
theorem sc_succ {n f c u : Nat} {l : List Nat} : sc n f l c (u + 1) = (if lupB (gl (l ++ [c])) l.length = true then srch n f (l ++ [c]) else []) ++ sc n f l (c + 1) u := by
  unfold sc
  rw [List.range'_succ, List.flatMap_cons]
theorem srch_succ {n f : Nat} {l : List Nat} : srch n (f + 1) l = sc n f l 0 n := by
  rw [srch, sc, List.range_eq_range']
section SEARCH
variable {X : lk_X} {d : Nat} {x : Nat → Nat → Int32} {S L : Nat → Option Nat} {m : Nat → Nat → Int32} {dyn : lk_H} {n : Nat}
/-- what the search of a beginning comes to -/
def CS (X : lk_X) (D : Nat) (x : Nat → Nat → Int32) (S L : Nat → Option Nat) (m : Nat → Nat → Int32) (dyn : lk_H) (n f : Nat) (l : List Nat) : Prop :=
  ∀ (f1 f2 f3 : Nat → Int32) (s s2 : Nat), (∀ i, i < l.length → f1 i = nI (gl l i)) → s + (srch n f l).length ≤ 200 → ∃ f1' f2' f3', lk_ev X D 6 [.ref (44 + dyn.length), .int (nI l.length)] (hp x S L m (LH dyn n f1 f2 f3 (nI s) (nI s2))) none (hp x S L m (LH dyn n f1' f2' f3' (nI (s + (srch n f l).length)) (nI (s2 + ((srch n f l).filter (frst n)).length)))) ∧ (∀ i, i < l.length → f1' i = f1 i) ∧ PK (srch n f l) f3 s f3'
theorem search_loop {f : Nat} {l : List Nat} (h7 : n ≤ 7) (hl : l.length + (f + 1) = n) (hok : okp n l) (ih : ∀ c, c < n → lupB (gl (l ++ [c])) l.length = true → CS X (d + 4 + f) x S L m dyn n f (l ++ [c])) {Q : Option Value → lk_H → Prop} : ∀ (u c : Nat) (f1 f2 f3 : Nat → Int32) (s s2 : Nat), n - c = u → c ≤ n → (∀ i, i < l.length → f1 i = nI (gl l i)) → s + (sc n f l c u).length ≤ 200 → (∀ f1' f2' f3', (∀ i, i < l.length → f1' i = f1 i) → PK (sc n f l c u) f3 s f3' → Q none (hp x S L m (LH dyn n f1' f2' f3' (nI (s + (sc n f l c u).length)) (nI (s2 + ((sc n f l c u).filter (frst n)).length))))) → lk_wp X (d + 4 + f + 1) 6 16 [.ref (44 + dyn.length), .int (nI l.length), .int (nI c)] [] (hp x S L m (LH dyn n f1 f2 f3 (nI s) (nI s2))) Q := by
  intro u
  induction u with
  | zero =>
    intro c f1 f2 f3 s s2 hu hc hf hs hQ
    refine F_ll_search_16 ?_
    rw [ll_fR0, ll_al]
    exact br_t (nI_le (by omega) (by omega)) (hQ f1 f2 f3 (fun _ _ => rfl) PK.nil)
  | succ u ihu =>
    intro c f1 f2 f3 s s2 hu hc hf hs hQ
    have hcn : c < n := by omega
    refine F_ll_search_16 ?_
    rw [ll_fR0, ll_al]
    refine br_f (nI_ge hcn (by omega)) ?_
    rw [ll_fR0]
    refine ll_as1 (show l.length < n by omega) h7 ?_
    have hg : ∀ i, i ≤ l.length → upd f1 l.length (nI c) i = nI (gl (l ++ [c]) i) ∧ gl (l ++ [c]) i ≤ 200 := by
      intro i hi
      by_cases hil : i = l.length
      · rw [hil, pk_us, gl_last]
        exact ⟨rfl, by omega⟩
      · rw [pk_un hil, gl_app (by omega), hf i (by omega)]
        have := (hok i (by omega)).1
        exact ⟨rfl, by omega⟩
    have evu := S_ll_up (X := X) (d := d + 3 + f) (x := x) (S := S) (L := L) (m := m) (dyn := dyn) (n := n) (f1 := upd f1 l.length (nI c)) (f2 := f2) (f3 := f3) (s := nI s) (s2 := nI s2) (show l.length < n by omega) h7 hg
    rw [show d + 3 + f + 1 = d + 4 + f by omega] at evu
    rw [ll_vc, evu.iffi, nI_1]
    rw [sc_succ] at hs hQ
    cases hq : lupB (gl (l ++ [c])) l.length with
    | false =>
      rw [hq, if_neg (by decide), List.nil_append] at hs hQ
      refine br_t rfl (ihu (c + 1) _ f2 f3 s s2 (by omega) (by omega) (fun i hi => by rw [pk_un (by omega)]; exact hf i hi) hs (fun f1' f2' f3' w1 w2 => hQ f1' f2' f3' (fun i hi => by rw [w1 i hi, pk_un (by omega)]) w2))
    | true =>
      rw [hq, if_pos rfl] at hs hQ
      rw [List.length_append] at hs
      refine br_f (by decide) ?_
      have hlen : (l ++ [c]).length = l.length + 1 := by rw [List.length_append]; rfl
      obtain ⟨g1, g2, g3, ev, e1, e2⟩ := ih c hcn hq (upd f1 l.length (nI c)) f2 f3 s s2 (fun i hi => (hg i (by omega)).1) (by omega)
      rw [hlen] at ev e1
      rw [nI_1, ev.iffv]
      refine ihu (c + 1) g1 g2 g3 _ _ (by omega) (by omega) (fun i hi => by rw [e1 i (by omega), pk_un (by omega)]; exact hf i hi) (by omega) (fun f1' f2' f3' w1 w2 => ?_)
      have := hQ f1' f2' f3' (fun i hi => by rw [w1 i hi, e1 i (by omega), pk_un (by omega)]) (e2.app w2)
      rw [List.length_append, List.filter_append, List.length_append, ← Nat.add_assoc, ← Nat.add_assoc] at this
      exact this
theorem C_search (h1 : 1 ≤ n) (h7 : n ≤ 7) : ∀ (f : Nat) (l : List Nat), l.length + f = n → okp n l → CS X (d + 4 + f) x S L m dyn n f l := by
  intro f
  induction f with
  | zero =>
    intro l hl hok f1 f2 f3 s s2 hf hs
    have hln : l.length = n := by omega
    have ho := hok.or hln h1 h7
    have hs1 : (srch n 0 l).length = 1 := rfl
    obtain ⟨f, ev⟩ := S_ll_keep (X := X) (d := d) (x := x) (S := S) (L := L) (m := m) (dyn := dyn) (n := n) (f1 := f1) (f2 := f2) (f3 := f3) (c := s) (c2 := s2) hln ho h7 (fun i hi => hf i (by omega)) (by omega)
    refine ⟨f1, f, upd f3 s (nI (cod l)), E_ll_search ?_, fun _ _ => rfl, fun i hi => pk_un (by omega), fun i w hw => ?_⟩
    · rw [ll_fR0, ll_al]
      refine br_f ?_ ?_
      · rw [nI_ltI (by omega) (by omega)]
        omega
      · rw [ll_vc, ev.iffv]
        refine ⟨rfl, ?_⟩
        have e : ((srch n 0 l).filter (frst n)).length = if frst n l = true then 1 else 0 := by
          show ([l].filter (frst n)).length = _
          rw [List.filter_cons]
          cases frst n l <;> rfl
        rw [e, hs1]
    · match i, hw with
      | 0, hw =>
        cases hw
        exact pk_us
  | succ f ih =>
    intro l hl hok f1 f2 f3 s s2 hf hs
    have main : lk_wx X (d + 4 + (f + 1)) 6 [.ref (44 + dyn.length), .int (nI l.length)] (hp x S L m (LH dyn n f1 f2 f3 (nI s) (nI s2))) (fun v h' => ∃ f1' f2' f3', v = none ∧ h' = hp x S L m (LH dyn n f1' f2' f3' (nI (s + (srch n (f + 1) l).length)) (nI (s2 + ((srch n (f + 1) l).filter (frst n)).length))) ∧ (∀ i, i < l.length → f1' i = f1 i) ∧ PK (srch n (f + 1) l) f3 s f3') := by
      rw [srch_succ] at hs ⊢
      refine E_ll_search ?_
      rw [ll_fR0, ll_al]
      refine br_t ?_ ?_
      · rw [nI_ltI (by omega) (by omega)]
        omega
      · exact search_loop (d := d) (c := 0) h7 hl hok (fun c hc hu => ih (l ++ [c]) (by rw [List.length_append]; show l.length + 1 + f = n; omega) (hok.go hc hu)) n f1 f2 f3 s s2 rfl (Nat.zero_le _) hf hs (fun f1' f2' f3' w1 w2 => ⟨f1', f2', f3', rfl, rfl, w1, w2⟩)
    obtain ⟨v, h', ev, f1', f2', f3', rfl, rfl, e1, e2⟩ := main.ex
    exact ⟨f1', f2', f3', ev, e1, e2⟩
theorem pf_obj {fs : List Value} {l : lk_H} {k : Nat} {v : Value} {K : lk_H → Prop} (hv : lk_fit ((lk_tyl[1]?).map (fun t => t k)) v = true) (hk : k < fs.length) (q : K (hp x S L m (dyn ++ .inr (1, fs.set k v) :: l))) : lk_pf (hp x S L m (dyn ++ .inr (1, fs) :: l)) (44 + dyn.length) k [(1, 0)] v K := by
  refine ⟨1, fs, by rw [hp_dyn]; exact app_k (k := 0), rfl, hv, hk, ?_⟩
  rw [hp_dynset, show (dyn ++ .inr (1, fs) :: l).set dyn.length (.inr (1, fs.set k v)) = dyn ++ .inr (1, fs.set k v) :: l from app_sk (k := 0)]
  exact q
theorem S_ll_searched (h1 : 1 ≤ n) (h7 : n ≤ 7) : ∃ f1 f2 f3, lk_ev X (d + 5 + n) 4 [.int (nI n)] (hp x S L m dyn) (some (.ref (44 + dyn.length))) (hp x S L m (LH dyn n f1 f2 f3 (nI (cnt n)) (nI (cnt2 n)))) ∧ ∀ (i : Nat) (w : List Nat), (lns n)[i]? = some w → f3 i = nI (cod w) := by
  obtain ⟨f1, f2, f3, ev, -, e2⟩ := C_search (X := X) (d := d) (x := x) (S := S) (L := L) (m := m) (dyn := dyn) h1 h7 n [] (by show 0 + n = n; omega) (fun i hi => by cases hi) (fun _ => 0) (fun _ => 0) (fun _ => 0) 0 0 (fun i hi => by cases hi) (by rw [Nat.zero_add]; exact cnt_le h1 h7)
  rw [Nat.zero_add, Nat.zero_add] at ev
  refine ⟨f1, f2, f3, ?_, fun i w hw => by have := e2.2 i w hw; rw [Nat.zero_add] at this; exact this⟩
  rw [show d + 5 + n = d + 4 + n + 1 by omega]
  refine E_ll_searched ?_
  have a0 : ∀ (e : va_E) (l : lk_H), (hp x S L m (dyn ++ e :: l))[44 + dyn.length]? = some e := fun e l => by
    rw [hp_dyn]
    exact app_k (k := 0)
  rw [hp_app, hp_length, ob_of (a0 _ _)]
  have init : lk_ev X (d + 4 + n) 3 [.ref (44 + dyn.length), .int (nI n)] (hp x S L m (dyn ++ [.inr (1, [.null, .null, .null, .int 0, .int 0])])) none (hp x S L m (LH dyn n (fun _ => 0) (fun _ => 0) (fun _ => 0) 0 0)) := by
    rw [show d + 4 + n = d + 3 + n + 1 by omega]
    refine E_ll_init ?_
    rw [show (200 : Int32) = nI 200 from rfl, nw_nI (by omega), hp_app, List.append_assoc, hp_length, show (nI 200).toNatClampNeg = 200 from nI_clamp (by omega)]
    refine pf_obj (fs := [.null, .null, .null, .int 0, .int 0]) (l := [.inl (0, (200, .inl (fun _ => 0)))]) rfl (by decide) ?_
    rw [nw_nI (by omega), hp_app, List.append_assoc, hp_length, show (nI n).toNatClampNeg = n from nI_clamp (by omega)]
    refine pf_obj (k := 0) (v := .ref (44 + _)) rfl (Nat.le_of_ble_eq_true rfl) ?_
    rw [nw_nI (by omega), hp_app, List.append_assoc, hp_length]
    refine pf_obj (k := 1) (v := .ref (44 + _)) rfl (Nat.le_of_ble_eq_true rfl) ⟨rfl, ?_⟩
    simp [LH, lq]
  rw [init.iffv]
  have ev' : lk_ev X (d + 4 + n) 6 [.ref (44 + dyn.length), .int 0] (hp x S L m (LH dyn n (fun _ => 0) (fun _ => 0) (fun _ => 0) 0 0)) none (hp x S L m (LH dyn n f1 f2 f3 (nI (srch n n []).length) (nI ((srch n n []).filter (frst n)).length))) := ev
  rw [ev'.iffv]
  exact ⟨rfl, rfl⟩
end SEARCH
