/-! the class: things -/
def isC (c : Nat) : Prop := c = 0 ∨ c = 2 ∨ c = 4 ∨ c = 5 ∨ c = 6
def oc (c : Nat) : Bool := c == 0 || c == 4
/-- an array of small numbers -/
def ar (h : lk_H) (b n : Nat) (g : Nat → Nat) : Prop := n ≤ 16 ∧ ∃ f, h[b]? = some (.inl (0, (n, .inl f))) ∧ ∀ i, i < n → f i = nI (g i) ∧ g i ≤ 200
/-- a thing at a, its numbers at b -/
def tr (h : lk_H) (a c b n : Nat) (g : Nat → Nat) : Prop := h[a]? = some (.inr (c, [.ref b])) ∧ isC c ∧ ar h b n g
def eN : Option Nat → Int32
  | none => -1
  | some e => nI e
def snd (o : Bool) (n : Nat) (g : Nat → Nat) (a b c : Nat) : Option Nat := sr (fun e => if alD o g a b c e = true then some e else none) (c + 1) (n - (c + 1))
def lf (o : Bool) (n : Nat) (g : Nat → Nat) (a b : Nat) : Option Nat := sr (fun c => if (snd o n g a b c).isSome = true then some c else none) (a + 1) (n - (a + 1))
def alkC (o : Bool) (n : Nat) (g : Nat → Nat) : Option (Nat × Nat × Nat × Nat) := sr (fun a => sr (fun b => (lf o n g a b).bind (fun c => (snd o n g a b c).map (fun e => (a, b, c, e)))) (a + 1) (n - (a + 1))) 0 n
def pick (w : Nat) : Option (Nat × Nat × Nat × Nat) → Int32
  | none => -1000000
  | some (a, b, c, e) => if w = 0 then nI a else if w = 1 then nI b else if w = 2 then nI c else nI e
theorem sr_spec {α : Type} {f : Nat → Option α} : ∀ {k i : Nat} {v : α}, sr f i k = some v → ∃ j, i ≤ j ∧ j < i + k ∧ f j = some v := by
  intro k
  induction k with
  | zero => intro i v h; cases h
  | succ k ih =>
    intro i v h
    cases hf : f i with
    | some w =>
      rw [sr_some hf] at h
      exact ⟨i, Nat.le_refl _, by omega, by rw [hf]; exact h⟩
    | none =>
      rw [sr_none hf] at h
      obtain ⟨j, h1, h2, h3⟩ := ih h
      exact ⟨j, by omega, by omega, h3⟩
theorem sr_nones {α : Type} {f : Nat → Option α} : ∀ {k i : Nat}, sr f i k = none ↔ ∀ j, i ≤ j → j < i + k → f j = none := by
  intro k
  induction k with
  | zero => intro i; exact ⟨fun _ j h1 h2 => by omega, fun _ => rfl⟩
  | succ k ih =>
    intro i
    cases hf : f i with
    | some w =>
      rw [sr_some hf]
      constructor
      · intro h
        cases h
      · intro h
        rw [h i (Nat.le_refl _) (by omega)] at hf
        cases hf
    | none =>
      rw [sr_none hf, ih]
      constructor
      · intro h j h1 h2
        by_cases hj : j = i
        · subst hj; exact hf
        · exact h j (by omega) (by omega)
      · exact fun h j h1 h2 => h j (by omega) (by omega)
theorem sr_congr {α : Type} {f f' : Nat → Option α} : ∀ {k i : Nat}, (∀ j, i ≤ j → j < i + k → f j = f' j) → sr f i k = sr f' i k := by
  intro k
  induction k with
  | zero => intro i _; rfl
  | succ k ih =>
    intro i h
    rw [sr, sr, ← h i (Nat.le_refl _) (by omega), ih (fun j h1 h2 => h j (by omega) (by omega))]
theorem sr_map {α : Type} {p : Nat → Prop} [DecidablePred p] {F : Nat → α} : ∀ {k i : Nat}, sr (fun e => if p e then some (F e) else none) i k = (sr (fun e => if p e then some e else none) i k).map F := by
  intro k
  induction k with
  | zero => intro i; rfl
  | succ k ih =>
    intro i
    by_cases h : p i
    · rw [sr_some (v := F i) (if_pos h), sr_some (v := i) (if_pos h)]; rfl
    · rw [sr_none (if_neg h), sr_none (if_neg h), ih]
theorem sr_bind {α β : Type} {s : Nat → Option β} {F : Nat → β → α} : ∀ {k i : Nat}, sr (fun c => (s c).map (F c)) i k = (sr (fun c => if (s c).isSome = true then some c else none) i k).bind (fun c => (s c).map (F c)) := by
  intro k
  induction k with
  | zero => intro i; rfl
  | succ k ih =>
    intro i
    cases h : s i with
    | some v =>
      have e1 : (if (s i).isSome = true then some i else none) = some i := if_pos (by rw [h]; rfl)
      rw [sr_some (v := F i v) (by rw [h]; rfl), sr_some (v := i) e1, Option.bind_some, h]
      rfl
    | none =>
      have e1 : (if (s i).isSome = true then some i else none) = none := if_neg (by rw [h]; exact fun q => Bool.noConfusion q)
      rw [sr_none (by rw [h]; rfl), sr_none e1, ih]
/-- pairs with one first place are never alike -/
def nsame (o : Bool) (n : Nat) (g : Nat → Nat) : Prop := ∀ a b e, a < b → b < e → e < n → ¬ alD o g a b a e = true
theorem alk_eq {o : Bool} {n : Nat} {g : Nat → Nat} (h : nsame o n g) : alk o n g = alkC o n g := by
  unfold alk alkC
  refine sr_congr fun a _ ha => sr_congr fun b hb1 hb2 => ?_
  have hn : n - a = (n - (a + 1)) + 1 := by omega
  have h0 : sr (fun e => if alD o g a b a e = true then some (a, b, a, e) else none) (b + 1) (n - (b + 1)) = none := by
    rw [sr_nones]
    intro e h1 h2
    exact if_neg (h a b e (by omega) (by omega) (by omega))
  rw [hn, sr_none (by rw [if_pos rfl]; exact h0)]
  unfold lf
  rw [← sr_bind (s := snd o n g a b) (F := fun c e => (a, b, c, e))]
  refine sr_congr fun c hc1 hc2 => ?_
  rw [if_neg (show ¬ c = a by omega)]
  exact sr_map (F := fun e => (a, b, c, e))
theorem nsame_OR {n : Nat} {g : Nat → Nat} : nsame true n g := fun a b e h1 h2 h3 h4 => by
  have := (alD_iff.mp h4).1 rfl
  omega
theorem nsame_MK {n : Nat} {g : Nat → Nat} (h : MK n g) : nsame false n g := fun a b e h1 h2 h3 h4 => by
  have h5 := (alD_iff.mp h4).2
  have h6 := h.2.2.2 b e h2 h3
  omega
section THINGS
variable {X : lk_X} {d : Nat} {h : lk_H} {a0 c0 b0 n : Nat} {g : Nat → Nat}
theorem tr.fR (ht : tr h a0 c0 b0 n g) {cs : List (Nat × Nat)} {K : Nat → Prop} (hcs : ∀ c, isC c → lk_has cs c = true) : lk_fR h a0 0 cs K ↔ K b0 := by
  constructor
  · rintro ⟨c, fs, y, h1, h2, h3, h4⟩
    rw [ht.1] at h1
    cases h1
    cases h3
    exact h4
  · exact fun q => ⟨_, _, _, ht.1, hcs _ ht.2.1, rfl, q⟩
theorem has0 : ∀ c, isC c → lk_has [(0, 0), (2, 0), (4, 0), (5, 0), (6, 0)] c = true := by
  rintro c (rfl | rfl | rfl | rfl | rfl) <;> rfl
theorem has3 : ∀ c, isC c → lk_has [(0, 3), (2, 3), (4, 3), (5, 3), (6, 3)] c = true := by
  rintro c (rfl | rfl | rfl | rfl | rfl) <;> rfl
theorem has5 : ∀ c, isC c → lk_has [(0, 5), (2, 5), (4, 5), (5, 5), (6, 5)] c = true := by
  rintro c (rfl | rfl | rfl | rfl | rfl) <;> rfl
theorem ar.al (ht : ar h b0 n g) {K : Int32 → Prop} : lk_al2 h b0 K ↔ K (nI n) := by
  obtain ⟨-, f, h1, -⟩ := ht
  constructor
  · rintro ⟨t, y, h2, h3, h4⟩
    rw [h1] at h2
    cases h2
    exact h4
  · exact fun q => ⟨_, _, h1, by decide, q⟩
theorem ar.ai (ht : ar h b0 n g) {k : Nat} (hk : k < n) {K : Int32 → Prop} : lk_ai h b0 (nI k) K ↔ K (nI (g k)) := by
  obtain ⟨hn, f, h1, h5⟩ := ht
  constructor
  · rintro ⟨t, y, h2, h3, h4⟩
    rw [h1] at h2
    cases h2
    rw [nI_clamp (by omega), (h5 k hk).1] at h4
    exact h4
  · exact fun q => ⟨_, _, h1, vp_in_nI hk (by omega), by rw [nI_clamp (by omega), (h5 k hk).1]; exact q⟩
theorem ar.le (ht : ar h b0 n g) {k : Nat} (hk : k < n) : g k ≤ 200 := by
  obtain ⟨hn, f, h1, h5⟩ := ht
  exact (h5 k hk).2
theorem ar.app (ht : ar h b0 n g) (l : lk_H) : ar (h ++ l) b0 n g := by
  obtain ⟨hn, f, h1, h5⟩ := ht
  exact ⟨hn, f, by rw [List.getElem?_append_left (List.getElem?_eq_some_iff.mp h1).1]; exact h1, h5⟩
theorem S_o_secondAlike (ht : tr h a0 c0 b0 n g) {a b c : Nat} (hab : a < b) (hb : b < n) (hc : c < n) : lk_ev X (d + 1) 32 [.ref a0, .int (nI a), .int (nI b), .int (nI c)] h (some (.int (eN (snd true n g a b c)))) h := by
  have h16 := ht.2.2.1
  have e1 : nI c + nI b - nI a = nI (c + b - a) := by
    rw [nI_add, i32_eq, pk_sub_toInt (by omega) (by omega), i32_nI (by omega)]
    omega
  refine E_o_secondAlike ?_
  rw [e1, ht.fR has5, ht.2.2.al]
  by_cases hlt : c + b - a < n
  · refine br_t ((nI_ltI (by omega) (by omega)).mpr hlt) ?_
    rw [ht.fR has5, ht.2.2.ai hlt, ht.fR has5, ht.2.2.ai hc, ht.fR has5, ht.2.2.ai hb, ht.fR has5, ht.2.2.ai (show a < n by omega)]
    have l1 := ht.2.2.le hlt
    have l2 := ht.2.2.le hc
    have l3 := ht.2.2.le hb
    have l4 := ht.2.2.le (show a < n by omega)
    rw [nI_sub_eq (by omega) (by omega) (by omega) (by omega)]
    refine ⟨fun q => ⟨?_, rfl⟩, fun q => ⟨?_, rfl⟩⟩
    · have : snd true n g a b c = none := by
        unfold snd
        rw [sr_nones]
        intro e h1 h2
        refine if_neg fun w => q ?_
        have w1 := (alD_iff.mp w).1 rfl
        have w2 := (alD_iff.mp w).2
        rw [show c + b - a = e by omega]
        omega
      rw [this]
      rfl
    · have : snd true n g a b c = some (c + b - a) := by
        cases hs : snd true n g a b c with
        | none =>
          unfold snd at hs
          rw [sr_nones] at hs
          have := hs (c + b - a) (by omega) (by omega)
          rw [if_pos (alD_iff.mpr ⟨fun _ => by omega, by omega⟩)] at this
          cases this
        | some v =>
          unfold snd at hs
          obtain ⟨j, h1, h2, h3⟩ := sr_spec hs
          split at h3
          · rename_i hal
            cases h3
            have := (alD_iff.mp hal).1 rfl
            congr 1
            omega
          · cases h3
      rw [this]
      rfl
  · refine br_f (fun q => hlt ((nI_ltI (by omega) (by omega)).mp q)) ?_
    have : snd true n g a b c = none := by
      unfold snd
      rw [sr_nones]
      intro e h1 h2
      refine if_neg fun w => ?_
      have w1 := (alD_iff.mp w).1 rfl
      omega
    rw [this]
    exact ⟨rfl, rfl⟩
theorem k_second_loop (ht : tr h a0 c0 b0 n g) {a b c : Nat} {v : Int32} (hv : ∀ e, e < n → (nI (g e) = v ↔ alD false g a b c e = true)) {Q : Option Value → lk_H → Prop} : ∀ (k e : Nat), n - e = k → e ≤ 16 → Q (some (.int (eN (sr (fun e => if alD false g a b c e = true then some e else none) e k)))) h → lk_wp X (d + 1) 16 27 [.ref a0, .retAddr 0, .retAddr 0, .retAddr 0, .int v, .int (nI e)] [] h Q := by
  have h16 := ht.2.2.1
  intro k
  induction k with
  | zero =>
    intro e hk he hQ
    refine F_k_secondAlike_27 ?_
    rw [ht.fR has3, ht.2.2.al]
    exact br_t (nI_le (by omega) (by omega)) hQ
  | succ k ih =>
    intro e hk he hQ
    refine F_k_secondAlike_27 ?_
    rw [ht.fR has3, ht.2.2.al]
    refine br_f (nI_ge (by omega) (by omega)) ?_
    rw [ht.fR has3, ht.2.2.ai (show e < n by omega), hv e (by omega), nI_1]
    refine ⟨fun q => ih (e + 1) (by omega) (by omega) ?_, fun q => ?_⟩
    · rw [sr_none (if_neg q)] at hQ
      exact hQ
    · rw [sr_some (v := e) (if_pos q)] at hQ
      exact hQ
theorem S_k_secondAlike (ht : tr h a0 c0 b0 n g) {a b c : Nat} (ha : a < n) (hb : b < n) (hc : c < n) (hge : g a ≤ g b) : lk_ev X (d + 1) 16 [.ref a0, .int (nI a), .int (nI b), .int (nI c)] h (some (.int (eN (snd false n g a b c)))) h := by
  have h16 := ht.2.2.1
  refine E_k_secondAlike ?_
  rw [ht.fR has3, ht.2.2.ai hc, ht.fR has3, ht.2.2.ai hb, ht.fR has3, ht.2.2.ai ha, nI_1]
  have l2 := ht.2.2.le hc
  have l3 := ht.2.2.le hb
  have l4 := ht.2.2.le ha
  refine k_second_loop (a := a) (b := b) (c := c) ht (fun e he => ?_) (n - (c + 1)) (c + 1) rfl (by omega) ⟨rfl, rfl⟩
  have l1 := ht.2.2.le he
  rw [nI_add, i32_eq, pk_sub_toInt (by omega) (by omega), i32_nI (by omega), alD_iff]
  constructor
  · exact fun q => ⟨fun w => absurd w (by decide), by omega⟩
  · exact fun q => by have := q.2; omega
/-- what a search of a thing may lean on -/
def rise (c n : Nat) (g : Nat → Nat) : Prop := oc c = false → ∀ i j, i < j → j < n → g i < g j
theorem tr.second (ht : tr h a0 c0 b0 n g) (hr : rise c0 n g) {a b c : Nat} (hab : a < b) (hb : b < n) (hc : c < n) {K : Int32 → lk_H → Prop} : lk_vc h a0 [(0, 32), (2, 16), (4, 32), (5, 16), (6, 16)] (fun k => lk_wxi X (d + 1) k [.ref a0, .int (nI a), .int (nI b), .int (nI c)] h K) ↔ K (eN (snd (oc c0) n g a b c)) h := by
  have ho : lk_ev X (d + 1) 32 [.ref a0, .int (nI a), .int (nI b), .int (nI c)] h (some (.int (eN (snd true n g a b c)))) h := S_o_secondAlike ht hab hb hc
  have hk : oc c0 = false → lk_ev X (d + 1) 16 [.ref a0, .int (nI a), .int (nI b), .int (nI c)] h (some (.int (eN (snd false n g a b c)))) h := fun q => S_k_secondAlike ht (by omega) hb hc (Nat.le_of_lt (hr q a b hab hb))
  obtain ⟨h1, h2, h3⟩ := ht
  constructor
  · rintro ⟨c, fs, k, q1, q2, q3⟩
    rw [h1] at q1
    rcases h2 with rfl | rfl | rfl | rfl | rfl
    · cases q1; cases q2; exact ho.iffi.mp q3
    · cases q1; cases q2; exact (hk rfl).iffi.mp q3
    · cases q1; cases q2; exact ho.iffi.mp q3
    · cases q1; cases q2; exact (hk rfl).iffi.mp q3
    · cases q1; cases q2; exact (hk rfl).iffi.mp q3
  · intro q
    rcases h2 with rfl | rfl | rfl | rfl | rfl
    · exact ⟨_, _, _, h1, rfl, ho.iffi.mpr q⟩
    · exact ⟨_, _, _, h1, rfl, (hk rfl).iffi.mpr q⟩
    · exact ⟨_, _, _, h1, rfl, ho.iffi.mpr q⟩
    · exact ⟨_, _, _, h1, rfl, (hk rfl).iffi.mpr q⟩
    · exact ⟨_, _, _, h1, rfl, (hk rfl).iffi.mpr q⟩
theorem eN_lt {v : Option Nat} (hv : ∀ e, v = some e → e < 2 ^ 31) : eN v < 0 ↔ v = none := by
  cases v with
  | none => exact ⟨fun _ => rfl, fun _ => by decide⟩
  | some e =>
    constructor
    · intro q
      have := hv e rfl
      rw [i32_lt] at q
      simp only [eN] at q
      rw [i32_nI this, show (0 : Int32).toInt = 0 from rfl] at q
      omega
    · intro q; cases q
theorem snd_lt {o : Bool} {a b c e : Nat} (hs : snd o n g a b c = some e) : e < n ∧ c < e := by
  unfold snd at hs
  obtain ⟨j, h1, h2, h3⟩ := sr_spec hs
  split at h3
  · cases h3; omega
  · cases h3
theorem t_later_loop (ht : tr h a0 c0 b0 n g) (hr : rise c0 n g) {a b : Nat} (hab : a < b) (hb : b < n) {Q : Option Value → lk_H → Prop} : ∀ (k c : Nat), n - c = k → c ≤ 16 → Q (some (.int (eN (sr (fun c => if (snd (oc c0) n g a b c).isSome = true then some c else none) c k)))) h → lk_wp X (d + 2) 59 4 [.ref a0, .int (nI a), .int (nI b), .int (nI c)] [] h Q := by
  have h16 := ht.2.2.1
  intro k
  induction k with
  | zero =>
    intro c hk hc hQ
    refine F_t_laterFirst_4 ?_
    rw [ht.fR has0, ht.2.2.al]
    exact br_t (nI_le (by omega) (by omega)) hQ
  | succ k ih =>
    intro c hk hc hQ
    refine F_t_laterFirst_4 ?_
    rw [ht.fR has0, ht.2.2.al]
    refine br_f (nI_ge (by omega) (by omega)) ?_
    rw [ht.second hr hab hb (show c < n by omega), eN_lt (fun e he => by have := (snd_lt he).1; omega), nI_1]
    refine ⟨fun q => ih (c + 1) (by omega) (by omega) ?_, fun q => ?_⟩
    · rw [sr_none (if_neg (by rw [q]; decide))] at hQ
      exact hQ
    · rw [sr_some (v := c) (if_pos (Option.isSome_iff_ne_none.mpr q))] at hQ
      exact hQ
theorem S_t_laterFirst (ht : tr h a0 c0 b0 n g) (hr : rise c0 n g) {a b : Nat} (hab : a < b) (hb : b < n) : lk_ev X (d + 2) 59 [.ref a0, .int (nI a), .int (nI b)] h (some (.int (eN (lf (oc c0) n g a b)))) h := by
  have h16 := ht.2.2.1
  refine E_t_laterFirst ?_
  rw [nI_1]
  exact t_later_loop ht hr hab hb (n - (a + 1)) (a + 1) rfl (by omega) ⟨rfl, rfl⟩
theorem lf_spec {o : Bool} {a b c : Nat} (hs : lf o n g a b = some c) : c < n ∧ a < c ∧ ∃ e, snd o n g a b c = some e := by
  unfold lf at hs
  obtain ⟨j, h1, h2, h3⟩ := sr_spec hs
  split at h3
  · rename_i hq
    cases h3
    exact ⟨by omega, by omega, Option.isSome_iff_exists.mp hq⟩
  · cases h3
theorem S_t_partOfPairs (ht : tr h a0 c0 b0 n g) (hr : rise c0 n g) {w a b c e : Nat} (hw : w < 4) (hab : a < b) (hb : b < n) (hc : c < n) (he : snd (oc c0) n g a b c = some e) : lk_ev X (d + 2) 60 [.ref a0, .int (nI w), .int (nI a), .int (nI b), .int (nI c)] h (some (.int (pick w (some (a, b, c, e))))) h := by
  refine E_t_partOfPairs ?_
  match w, hw with
  | 0, _ => exact br_t rfl ⟨rfl, rfl⟩
  | 1, _ => exact br_f (by decide) (br_t rfl ⟨rfl, rfl⟩)
  | 2, _ => exact br_f (by decide) (br_f (by decide) (br_t rfl ⟨rfl, rfl⟩))
  | 3, _ =>
    refine br_f (by decide) (br_f (by decide) (br_f (by decide) ?_))
    rw [ht.second hr hab hb hc, he]
    exact ⟨rfl, rfl⟩
theorem is5_59 {K : Nat → Prop} (ht : tr h a0 c0 b0 n g) (j : Nat) : lk_vc h a0 [(0, j), (2, j), (4, j), (5, j), (6, j)] K ↔ K j := by
  obtain ⟨h1, h2, h3⟩ := ht
  constructor
  · rintro ⟨c, fs, k, q1, q2, q3⟩
    rw [h1] at q1
    rcases h2 with rfl | rfl | rfl | rfl | rfl <;> (cases q1; cases q2; exact q3)
  · intro q
    rcases h2 with rfl | rfl | rfl | rfl | rfl <;> exact ⟨_, _, _, h1, rfl, q⟩
theorem t_alike_b (ht : tr h a0 c0 b0 n g) (hr : rise c0 n g) {w a : Nat} (hw : w < 4) (ha : a < n) {Q : Option Value → lk_H → Prop} {f : Nat → Option (Nat × Nat × Nat × Nat)} (hf : f = fun b => (lf (oc c0) n g a b).bind (fun c => (snd (oc c0) n g a b c).map (fun e => (a, b, c, e)))) : ∀ (k b : Nat), n - b = k → a < b → b ≤ 16 → (∀ v, sr f b k = some v → Q (some (.int (pick w (some v)))) h) → (sr f b k = none → lk_wp X (d + 3) 58 2 [.ref a0, .int (nI w), .int (nI (a + 1)), .retAddr 0, .retAddr 0] [] h Q) → lk_wp X (d + 3) 58 15 [.ref a0, .int (nI w), .int (nI a), .int (nI b), .retAddr 0] [] h Q := by
  have h16 := ht.2.2.1
  intro k
  induction k with
  | zero =>
    intro b hk hab hb h1 h2
    refine F_t_partOfAlike_15 ?_
    rw [ht.fR has0, ht.2.2.al, nI_1]
    exact br_t (nI_le (by omega) (by omega)) (h2 rfl)
  | succ k ih =>
    intro b hk hab hb h1 h2
    refine F_t_partOfAlike_15 ?_
    rw [ht.fR has0, ht.2.2.al]
    refine br_f (nI_ge (by omega) (by omega)) ?_
    rw [is5_59 ht, (S_t_laterFirst ht hr hab (show b < n by omega)).iffi, eN_lt (fun e he => by have := (lf_spec he).1; omega), nI_1]
    refine ⟨fun q => ih (b + 1) (by omega) (by omega) (by omega) ?_ ?_, fun q => ?_⟩
    · rw [sr_none (by rw [hf]; dsimp only; rw [q]; rfl)] at h1
      exact h1
    · rw [sr_none (by rw [hf]; dsimp only; rw [q]; rfl)] at h2
      exact h2
    · cases hl : lf (oc c0) n g a b with
      | none => exact absurd hl q
      | some c =>
        obtain ⟨l1, l2, e, l3⟩ := lf_spec hl
        rw [is5_59 ht]
        simp only [eN]
        rw [(S_t_partOfPairs ht hr hw hab (show b < n by omega) l1 l3).iffi]
        exact h1 _ (sr_some (by rw [hf]; dsimp only; rw [hl, Option.bind_some, l3]; rfl))
theorem t_alike_a (ht : tr h a0 c0 b0 n g) (hr : rise c0 n g) {w : Nat} (hw : w < 4) {Q : Option Value → lk_H → Prop} {f : Nat → Option (Nat × Nat × Nat × Nat)} (hf : f = fun a => sr (fun b => (lf (oc c0) n g a b).bind (fun c => (snd (oc c0) n g a b c).map (fun e => (a, b, c, e)))) (a + 1) (n - (a + 1))) : ∀ (k a : Nat), n - a = k → a ≤ 16 → Q (some (.int (pick w (sr f a k)))) h → lk_wp X (d + 3) 58 2 [.ref a0, .int (nI w), .int (nI a), .retAddr 0, .retAddr 0] [] h Q := by
  have h16 := ht.2.2.1
  intro k
  induction k with
  | zero =>
    intro a hk ha hQ
    refine F_t_partOfAlike_2 ?_
    rw [ht.fR has0, ht.2.2.al]
    exact br_t (nI_le (by omega) (by omega)) hQ
  | succ k ih =>
    intro a hk ha hQ
    refine F_t_partOfAlike_2 ?_
    rw [ht.fR has0, ht.2.2.al, nI_1]
    refine br_f (nI_ge (by omega) (by omega)) ?_
    refine t_alike_b (a := a) ht hr hw (by omega) rfl (n - (a + 1)) (a + 1) rfl (by omega) (by omega) (fun v hv => ?_) (fun hv => ?_)
    · rw [sr_some (v := v) (by rw [hf]; exact hv)] at hQ
      exact hQ
    · rw [sr_none (by rw [hf]; exact hv)] at hQ
      exact ih (a + 1) (by omega) (by omega) hQ
theorem S_t_partOfAlike (ht : tr h a0 c0 b0 n g) (hr : rise c0 n g) {w : Nat} (hw : w < 4) : lk_ev X (d + 3) 58 [.ref a0, .int (nI w)] h (some (.int (pick w (alkC (oc c0) n g)))) h := by
  refine E_t_partOfAlike ?_
  exact t_alike_a (a := 0) ht hr hw rfl n rfl (by omega) ⟨rfl, rfl⟩
end THINGS
