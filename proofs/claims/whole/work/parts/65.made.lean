/-! a thing is made: the class tells it and shelves it, the reference keeps it -/
theorem hp_app {x : Nat → Nat → Int32} {S L : Nat → Option Nat} {m : Nat → Nat → Int32} {dyn : lk_H} (l : lk_H) : hp x S L m dyn ++ l = hp x S L m (dyn ++ l) := rfl
/-- the cells that are made: the numbers, then the things -/
def tl (o : Bool) (n : Nat) (g : Nat → Nat) (f : Nat → Int32) (b : Nat) : lk_H := .inl (0, (n, .inl f)) :: (cls o n g).map (fun c => .inr (c, [.ref (44 + b)]))
theorem cls_le {o : Bool} {n : Nat} {g : Nat → Nat} : 1 ≤ (cls o n g).length ∧ (cls o n g).length ≤ 2 := by
  unfold cls
  split
  · split <;> decide
  · split <;> exact ⟨Nat.le_of_ble_eq_true rfl, Nat.le_of_ble_eq_true rfl⟩
theorem cls_last {o : Bool} {n : Nat} {g : Nat → Nat} : (cls o n g)[(cls o n g).length - 1]? = some (cK o n g) := by
  unfold cls cK
  split
  · split <;> rfl
  · split <;> rfl
theorem tl_len {o : Bool} {n : Nat} {g : Nat → Nat} {f : Nat → Int32} {b : Nat} : (tl o n g f b).length ≤ 3 := by
  have := (cls_le (o := o) (n := n) (g := g)).2
  unfold tl
  rw [List.length_cons, List.length_map]
  omega
theorem sz_one : ∀ (l : List Nat) (b : Nat), lk_sz (l.map (fun c => (.inr (c, [.ref (44 + b)]) : va_E))) = l.length := by
  intro l b
  induction l with
  | nil => rfl
  | cons c l ih =>
    have : lk_sz ((c :: l).map (fun c => (.inr (c, [.ref (44 + b)]) : va_E))) = 1 + lk_sz (l.map (fun c => (.inr (c, [.ref (44 + b)]) : va_E))) := by
      simp [lk_sz, lk_cz]
    rw [this, ih, List.length_cons]
    omega
theorem sz_cons (e : va_E) (l : lk_H) : lk_sz (e :: l) = lk_cz e + lk_sz l := by simp [lk_sz]
theorem tl_sz {o : Bool} {n : Nat} {g : Nat → Nat} {f : Nat → Int32} {b : Nat} : lk_sz (tl o n g f b) ≤ n + 2 := by
  have := (cls_le (o := o) (n := n) (g := g)).2
  unfold tl
  rw [sz_cons, sz_one]
  have e : lk_cz (.inl (0, (n, .inl f)) : va_E) = n := rfl
  omega
theorem tl_arr {dyn : lk_H} {o : Bool} {n : Nat} {g : Nat → Nat} {f : Nat → Int32} {b : Nat} : (dyn ++ tl o n g f b)[dyn.length]? = some (.inl (0, (n, .inl f))) := by
  rw [List.getElem?_append_right (Nat.le_refl _), Nat.sub_self]
  rfl
theorem tl_obj {dyn : lk_H} {o : Bool} {n : Nat} {g : Nat → Nat} {f : Nat → Int32} {b : Nat} : (dyn ++ tl o n g f b)[dyn.length + (cls o n g).length]? = some (.inr (cK o n g, [.ref (44 + b)])) := by
  have h1 := (cls_le (o := o) (n := n) (g := g)).1
  obtain ⟨q, hq⟩ : ∃ q, (cls o n g).length = q + 1 := ⟨(cls o n g).length - 1, by omega⟩
  have hl := cls_last (o := o) (n := n) (g := g)
  rw [hq, Nat.add_sub_cancel] at hl
  rw [List.getElem?_append_right (by omega), hq, show dyn.length + (q + 1) - dyn.length = q + 1 by omega]
  unfold tl
  rw [List.getElem?_cons_succ, List.getElem?_map, hl]
  rfl
/-- an array of numbers at the end -/
theorem ar_new {x : Nat → Nat → Int32} {S L : Nat → Option Nat} {m : Nat → Nat → Int32} {dyn l : lk_H} {b n : Nat} {g : Nat → Nat} {f : Nat → Int32} (hn : n ≤ 16) (hb : (dyn ++ l)[b]? = some (.inl (0, (n, .inl f)))) (hf : ∀ i, i < n → f i = nI (g i) ∧ g i ≤ 200) : ar (hp x S L m (dyn ++ l)) (44 + b) n g := ⟨hn, f, by rw [hp_dyn]; exact hb, hf⟩
theorem okN.n16 {o : Bool} {n : Nat} {g : Nat → Nat} (h : okN o n g) : 1 ≤ n ∧ n ≤ 16 := (cK_TH h).n16
theorem okN.g200 {o : Bool} {n : Nat} {g : Nat → Nat} (h : okN o n g) {i : Nat} (hi : i < n) : g i ≤ 200 := (cK_TH h).g200 hi
section MADE
variable {X : lk_X} {d : Nat} {x : Nat → Nat → Int32} {S L : Nat → Option Nat} {m : Nat → Nat → Int32} {dyn : lk_H} {kx km : Nat} {as : List Value}
theorem C_tell_o {n : Nat} {g : Nat → Nat} {f : Nat → Int32} (ho : OR n g) (hf : ∀ i, i < n → f i = nI (g i)) : lk_ev X (d + 4) 28 [.ref (44 + dyn.length)] (hp x S L m (dyn ++ [.inl (0, (n, .inl f))])) (some (.ref (44 + (dyn.length + (cls true n g).length)))) (hp x S L m (dyn ++ tl true n g f dyn.length)) := by
  have hok : okN true n g := ho
  have ha : ar (hp x S L m (dyn ++ [.inl (0, (n, .inl f))])) (44 + dyn.length) n g := ar_new ho.2.1 (by rw [List.getElem?_append_right (Nat.le_refl _), Nat.sub_self]; rfl) (fun i hi => ⟨hf i hi, hok.g200 hi⟩)
  have h1 := S_o_told (X := X) (d := d) ha
  have e : (hp x S L m (dyn ++ [.inl (0, (n, .inl f))])).length + (cls true n g).length - 1 = 44 + (dyn.length + (cls true n g).length) := by
    rw [hp_length, List.length_append]
    have : ([.inl (0, (n, .inl f))] : lk_H).length = 1 := rfl
    omega
  rw [e, hp_app, List.append_assoc] at h1
  exact h1
theorem C_tell_k {n : Nat} {g : Nat → Nat} {f : Nat → Int32} (ho : MK n g) (hf : ∀ i, i < n → f i = nI (g i)) : lk_ev X (d + 5) 12 [.ref (44 + dyn.length)] (hp x S L m (dyn ++ [.inl (0, (n, .inl f))])) (some (.ref (44 + (dyn.length + (cls false n g).length)))) (hp x S L m (dyn ++ tl false n g f dyn.length)) := by
  have hok : okN false n g := ho
  have ha : ar (hp x S L m (dyn ++ [.inl (0, (n, .inl f))])) (44 + dyn.length) n g := ar_new hok.n16.2 (by rw [List.getElem?_append_right (Nat.le_refl _), Nat.sub_self]; rfl) (fun i hi => ⟨hf i hi, hok.g200 hi⟩)
  have h1 := S_k_told (X := X) (d := d) ha ho
  have e : (hp x S L m (dyn ++ [.inl (0, (n, .inl f))])).length + (cls false n g).length - 1 = 44 + (dyn.length + (cls false n g).length) := by
    rw [hp_length, List.length_append]
    have : ([.inl (0, (n, .inl f))] : lk_H).length = 1 := rfl
    omega
  rw [e, hp_app, List.append_assoc] at h1
  exact h1
theorem C_shelve {o : Bool} {p n : Nat} {g : Nat → Nat} {f : Nat → Int32} (hpp : p < 10) (ho : okN o n g) (hf : ∀ i, i < n → f i = nI (g i)) : lk_ev X (d + 2) 98 [.ref 0, .int (nI p), .ref (44 + (dyn.length + (cls o n g).length))] (hp x S L m (dyn ++ tl o n g f dyn.length)) (some (.int (nI (kd o n g)))) (hp (ms x 0 0 0) (va_up S p (some (44 + (dyn.length + (cls o n g).length)))) L m (dyn ++ tl o n g f dyn.length)) := by
  have := S_x_shelve (X := X) (d := d) (x := x) (S := S) (L := L) (m := m) (dyn := dyn ++ tl o n g f dyn.length) (A := 44 + (dyn.length + (cls o n g).length)) (c := cK o n g) (b := 44 + dyn.length) (n := n) (p := p) (g := g) hpp (fun x' S' => ⟨by rw [hp_dyn]; exact tl_obj, cK_isC, ar_new ho.n16.2 tl_arr (fun i hi => ⟨hf i hi, ho.g200 hi⟩)⟩)
  rw [cK_kd] at this
  exact this
theorem TE.made {o : Bool} {p n : Nat} {g : Nat → Nat} {f : Nat → Int32} (h : Rel x S L m dyn) (hpp : p < 10) (ho : okN o n g) (hf : ∀ i, i < n → f i = nI (g i))
    (hx : lk_ev X d kx (.ref 0 :: as) (hp x S L m dyn) (some (.int (nI (kd o n g)))) (hp (ms x 0 0 0) (va_up S p (some (44 + (dyn.length + (cls o n g).length)))) L m (dyn ++ tl o n g f dyn.length)))
    (hm : ∀ x' S' dyn', ∃ m1 m', lk_ev X d km (.ref 29 :: as) (hp x' S' L m dyn') (some (.int (nI (kd o n g)))) (hp x' S' L m' dyn') ∧ SC m m1 ∧ KP m1 m' p n (kd o n g) g) : TE X d kx km as x S L m dyn := by
  obtain ⟨m1, m', h1, h2, h3⟩ := hm (ms x 0 0 0) (va_up S p (some (44 + (dyn.length + (cls o n g).length)))) (dyn ++ tl o n g f dyn.length)
  have := ho.n16.2
  exact ⟨_, _, _, _, m', _, hx, h1, h.keep hpp h2 h3 ho tl_obj tl_arr hf, Nat.le_trans tl_len (by decide), Nat.le_trans tl_sz (by omega)⟩
theorem Rel.app (h : Rel x S L m dyn) (l : lk_H) : Rel x S L m (dyn ++ l) := by
  obtain ⟨h1, h2, h3, h4, h5⟩ := h
  have hd : ∀ (k : Nat) (v : va_E), dyn[k]? = some v → (dyn ++ l)[k]? = some v := fun k v q => by
    rw [List.getElem?_append_left (List.getElem?_eq_some_iff.mp q).1]
    exact q
  exact ⟨h1, h2, h3.congr hd (fun _ _ => rfl) (fun _ _ => rfl) (fun _ _ => rfl), h4.congr hd rfl rfl, h5⟩
/-! what the reference scribbles on -/
theorem SC.m6 {m1 : Nat → Nat → Int32} {q : Nat} {v : Int32} (h : SC m m1) (hq : 160 ≤ q) : SC m (ms m1 6 q v) := by
  obtain ⟨s1, s2, s3⟩ := h
  refine ⟨fun p hp => ?_, fun r hr => ?_, fun c h4 h5 h6 h8 h9 => ?_⟩
  · rw [ms_ne (by decide), ms_ne (by decide)]
    exact s1 p hp
  · rw [ms_same, pk_un (by omega)]
    exact s2 r hr
  · rw [ms_ne h6]
    exact s3 c h4 h5 h6 h8 h9
theorem SC.m5 {m1 : Nat → Nat → Int32} {v : Int32} (h : SC m m1) : SC m (ms m1 5 10 v) := by
  obtain ⟨s1, s2, s3⟩ := h
  refine ⟨fun p hp => ?_, fun r hr => ?_, fun c h4 h5 h6 h8 h9 => ?_⟩
  · rw [ms_ne (by decide), ms_same, pk_un (by omega)]
    exact s1 p hp
  · rw [ms_ne (by decide)]
    exact s2 r hr
  · rw [ms_ne h5]
    exact s3 c h4 h5 h6 h8 h9
theorem SC.m9 {m1 : Nat → Nat → Int32} {q : Nat} {v : Int32} (h : SC m m1) : SC m (ms m1 9 q v) := by
  obtain ⟨s1, s2, s3⟩ := h
  refine ⟨fun p hp => ?_, fun r hr => ?_, fun c h4 h5 h6 h8 h9 => ?_⟩
  · rw [ms_ne (by decide), ms_ne (by decide)]
    exact s1 p hp
  · rw [ms_ne (by decide)]
    exact s2 r hr
  · rw [ms_ne h9]
    exact s3 c h4 h5 h6 h8 h9
theorem SC.fA {m1 : Nat → Nat → Int32} {v : Option (Nat × Nat × Nat × Nat)} (h : SC m m1) : SC m (fA m1 v) := by
  obtain ⟨s1, s2, s3⟩ := h
  refine ⟨fun p hp => ?_, fun r hr => ?_, fun c h4 h5 h6 h8 h9 => ?_⟩
  · rw [fA_ne (by decide), fA_ne (by decide)]
    exact s1 p hp
  · rw [fA_ne (by decide)]
    exact s2 r hr
  · rw [fA_ne h8]
    exact s3 c h4 h5 h6 h8 h9
/-- j numbers have been made -/
def MD (m m1 : Nat → Nat → Int32) (g : Nat → Nat) (j : Nat) : Prop := SC m m1 ∧ ∀ i, i < j → m1 6 (160 + i) = nI (g i)
theorem MD.go {m1 : Nat → Nat → Int32} {g : Nat → Nat} {j : Nat} (h : MD m m1 g j) : MD m (ms m1 6 (160 + j) (nI (g j))) g (j + 1) := by
  refine ⟨h.1.m6 (by omega), fun i hi => ?_⟩
  rw [ms_same]
  by_cases hj : i = j
  · subst hj
    rw [pk_us]
  · rw [pk_un (by omega)]
    exact h.2 i (by omega)
theorem MD.m5 {m1 : Nat → Nat → Int32} {g : Nat → Nat} {j : Nat} {v : Int32} (h : MD m m1 g j) : MD m (ms m1 5 10 v) g j := ⟨h.1.m5, fun i hi => by rw [ms_ne (by decide)]; exact h.2 i hi⟩
theorem MD.m9 {m1 : Nat → Nat → Int32} {g : Nat → Nat} {j q : Nat} {v : Int32} (h : MD m m1 g j) : MD m (ms m1 9 q v) g j := ⟨h.1.m9, fun i hi => by rw [ms_ne (by decide)]; exact h.2 i hi⟩
theorem MD.mth {m1 : Nat → Nat → Int32} {o : Bool} {g : Nat → Nat} {n : Nat} (h : MD m m1 g n) (h5 : m1 5 10 = nI n) (ho : okN o n g) : mth m1 10 n g := ⟨Nat.le_refl _, ho.n16.2, h5, fun i hi => ⟨h.2 i hi, ho.g200 hi⟩⟩
theorem M_keep {o : Bool} {m1 : Nat → Nat → Int32} {p n : Nat} {g : Nat → Nat} (hpp : p < 10) (h : MD m m1 g n) (h5 : m1 5 10 = nI n) (ho : okN o n g) : ∃ m', lk_ev X (d + 4) 127 [.ref 29, .int (nI p), .int (oI o)] (hp x S L m1 dyn) (some (.int (nI (kd o n g)))) (hp x S L m' dyn) ∧ KP m1 m' p n (kd o n g) g := by
  refine S_m_keep hpp (h.mth h5 ho) ho.n16.1 (fun q => ?_)
  subst q
  have hM : MK n g := ho
  exact hM.mono (Nat.zero_le _) (by have := hM.1; omega)
end MADE
