/-! how many distances there are -/
def tri : Nat → Nat
  | 0 => 0
  | n + 1 => tri n + n
def dl (g : Nat → Nat) : Nat → List Nat
  | 0 => []
  | n + 1 => dl g n ++ (List.range n).map (fun a => g n - g a)
theorem dl_len (g : Nat → Nat) : ∀ n, (dl g n).length = tri n := by
  intro n
  induction n with
  | zero => rfl
  | succ n ih => rw [dl, tri, List.length_append, ih, List.length_map, List.length_range]
theorem dl_mem {g : Nat → Nat} {e : Nat} : ∀ {n : Nat}, e ∈ dl g n ↔ ∃ a b, a < b ∧ b < n ∧ e = g b - g a := by
  intro n
  induction n with
  | zero =>
    constructor
    · intro h; cases h
    · rintro ⟨a, b, h1, h2, h3⟩; omega
  | succ n ih =>
    rw [dl, List.mem_append, ih, List.mem_map]
    constructor
    · rintro (⟨a, b, h1, h2, h3⟩ | ⟨a, h1, h2⟩)
      · exact ⟨a, b, h1, by omega, h3⟩
      · exact ⟨a, n, List.mem_range.mp h1, by omega, h2.symm⟩
    · rintro ⟨a, b, h1, h2, h3⟩
      by_cases hb : b = n
      · subst hb
        exact Or.inr ⟨a, List.mem_range.mpr h1, h3.symm⟩
      · exact Or.inl ⟨a, b, h1, by omega, h3⟩
theorem pg1 : ∀ (G : Nat) (l : List Nat), l.Nodup → (∀ x, x ∈ l → 1 ≤ x ∧ x ≤ G) → l.length ≤ G := by
  intro G
  induction G with
  | zero =>
    intro l _ h
    cases l with
    | nil => exact Nat.le_refl _
    | cons x l =>
      have := h x (List.mem_cons_self)
      omega
  | succ G ih =>
    intro l hn h
    by_cases hG : G + 1 ∈ l
    · have h1 := ih (l.erase (G + 1)) (hn.erase _) (fun x hx => by
        have h2 := (hn.mem_erase_iff).mp hx
        have h3 := h x h2.2
        have h4 := h2.1
        omega)
      rw [List.length_erase_of_mem hG] at h1
      omega
    · have h1 := ih l hn (fun x hx => by
        have h3 := h x hx
        have : x ≠ G + 1 := fun q => hG (q ▸ hx)
        omega)
      omega
theorem pg2 {G : Nat} {l : List Nat} (hn : l.Nodup) (h : ∀ x, x ∈ l → 1 ≤ x ∧ x ≤ G) (hl : l.length = G) {e : Nat} (h1 : 1 ≤ e) (h2 : e ≤ G) : e ∈ l := by
  apply Classical.byContradiction
  intro q
  have := pg1 G (e :: l) (List.nodup_cons.mpr ⟨q, hn⟩) (fun x hx => by
    rcases List.mem_cons.mp hx with rfl | hx
    · exact ⟨h1, h2⟩
    · exact h x hx)
  rw [List.length_cons] at this
  omega
theorem pg3 : ∀ (G : Nat) (l : List Nat), (∀ e, 1 ≤ e → e ≤ G → e ∈ l) → G ≤ l.length := by
  intro G
  induction G with
  | zero => intro l _; exact Nat.zero_le _
  | succ G ih =>
    intro l h
    have hG := h (G + 1) (by omega) (Nat.le_refl _)
    have h1 := ih (l.erase (G + 1)) (fun e h2 h3 => (List.mem_erase_of_ne (by omega)).mpr (h e h2 (by omega)))
    rw [List.length_erase_of_mem hG] at h1
    have := List.length_pos_of_mem hG
    omega
theorem alk_none {o : Bool} {n : Nat} {g : Nat → Nat} (h : alk o n g = none) {a b c e : Nat} (hab : a < b) (hb : b < n) (hce : c < e) (he : e < n) (hac : a ≤ c) (hbe : a = c → b < e) : ¬ alD o g a b c e = true := by
  unfold alk at h
  rw [sr_nones] at h
  have h1 := h a (Nat.zero_le _) (by omega)
  rw [sr_nones] at h1
  have h2 := h1 b (by omega) (by omega)
  rw [sr_nones] at h2
  have h3 := h2 c hac (by omega)
  rw [sr_nones] at h3
  intro q
  have h4 : (if c = a then b + 1 else c + 1) ≤ e := by
    split
    · have := hbe (by omega); omega
    · omega
  have h5 := h3 e h4 (by omega)
  rw [if_pos q] at h5
  cases h5
theorem alk_inj {n : Nat} {g : Nat → Nat} (hM : MK n g) (h : alk false n g = none) {a b c e : Nat} (hab : a < b) (hb : b < n) (hce : c < e) (he : e < n) (heq : g b - g a = g e - g c) : a = c ∧ b = e := by
  have m1 := hM.2.2.2 a b hab hb
  have m2 := hM.2.2.2 c e hce he
  apply Classical.byContradiction
  intro q
  rcases Nat.lt_trichotomy a c with h1 | h1 | h1
  · exact alk_none h hab hb hce he (by omega) (by omega) (alD_iff.mpr ⟨fun w => absurd w (by decide), by omega⟩)
  · subst h1
    rcases Nat.lt_trichotomy b e with h2 | h2 | h2
    · exact alk_none h hab hb hce he (by omega) (fun _ => h2) (alD_iff.mpr ⟨fun w => absurd w (by decide), by omega⟩)
    · exact q ⟨rfl, h2⟩
    · exact alk_none h hce he hab hb (by omega) (fun _ => h2) (alD_iff.mpr ⟨fun w => absurd w (by decide), by omega⟩)
  · exact alk_none h hce he hab hb (by omega) (by omega) (alD_iff.mpr ⟨fun w => absurd w (by decide), by omega⟩)
theorem dl_nodup {g : Nat → Nat} {N : Nat} (hM : MK N g) (h : alk false N g = none) : ∀ n, n ≤ N → (dl g n).Nodup := by
  intro n
  induction n with
  | zero => intro _; exact List.nodup_nil
  | succ n ih =>
    intro hn
    rw [dl, List.nodup_append]
    refine ⟨ih (by omega), ?_, ?_⟩
    · unfold List.Nodup
      rw [List.pairwise_map]
      refine List.Pairwise.imp_of_mem (fun {a b} ha hb hab q => ?_) (List.pairwise_lt_range (n := n))
      have ha := List.mem_range.mp ha
      have hb := List.mem_range.mp hb
      have := alk_inj hM h ha (by omega) hb (by omega) q
      omega
    · intro x hx y hy q
      obtain ⟨a, b, h1, h2, h3⟩ := dl_mem.mp hx
      obtain ⟨c, h4, h5⟩ := List.mem_map.mp hy
      have h4 := List.mem_range.mp h4
      have := alk_inj hM h h1 (by omega) h4 (by omega) (by rw [← h3, h5]; exact q)
      omega
theorem tri_eq : ∀ n : Nat, n ≤ 12 → tri n = n * (n - 1) / 2 := by decide
theorem MK.mono {n : Nat} {g : Nat → Nat} (h : MK n g) {i j : Nat} (h1 : i ≤ j) (h2 : j < n) : g i ≤ g j := by
  by_cases e : i = j
  · subst e; exact Nat.le_refl _
  · exact Nat.le_of_lt (h.2.2.2 i j (by omega) h2)
theorem ful_iff {n : Nat} {g : Nat → Nat} (hM : MK n g) (h : alk false n g = none) : fulD n g = true ↔ n * (n - 1) / 2 = g (n - 1) - g 0 := by
  have h1 := hM.1
  have hr : ∀ x, x ∈ dl g n → 1 ≤ x ∧ x ≤ g (n - 1) - g 0 := by
    intro x hx
    obtain ⟨a, b, q1, q2, q3⟩ := dl_mem.mp hx
    have := hM.2.2.2 a b q1 q2
    have := hM.mono (Nat.zero_le a) (show a < n by omega)
    have := hM.mono (show b ≤ n - 1 by omega) (by omega)
    omega
  have hl : (dl g n).length = n * (n - 1) / 2 := by rw [dl_len, tri_eq n hM.2.1]
  have hnd := dl_nodup hM h n (Nat.le_refl _)
  have hf : fulD n g = true ↔ ∀ e, 1 ≤ e → e ≤ g (n - 1) - g 0 → e ∈ dl g n := by
    unfold fulD
    rw [Bool.not_eq_true', ← Bool.not_eq_true, an_iff]
    constructor
    · intro q e h2 h3
      apply Classical.byContradiction
      intro q2
      refine q ⟨e, h2, by omega, ?_⟩
      rw [Bool.not_eq_true', ← Bool.not_eq_true, an_iff]
      rintro ⟨a, -, ha, q3⟩
      rw [an_iff] at q3
      obtain ⟨b, hb1, hb2, q4⟩ := q3
      have q5 := of_decide_eq_true q4
      exact q2 (dl_mem.mpr ⟨a, b, by omega, by omega, by omega⟩)
    · rintro q ⟨e, h2, h3, q2⟩
      rw [Bool.not_eq_true', ← Bool.not_eq_true, an_iff] at q2
      obtain ⟨a, b, q3, q4, q5⟩ := dl_mem.mp (q e h2 (by omega))
      refine q2 ⟨a, Nat.zero_le _, by omega, an_iff.mpr ⟨b, by omega, by omega, decide_eq_true ?_⟩⟩
      omega
  rw [hf, ← hl]
  constructor
  · intro q
    exact Nat.le_antisymm (pg1 _ _ hnd hr) (pg3 _ _ q)
  · intro q e h2 h3
    exact pg2 hnd hr q h2 h3
/-! the class tells what was made -/
def cls (o : Bool) (n : Nat) (g : Nat → Nat) : List Nat := if o = true then (if (alk o n g).isSome = true then [4] else [4, 0]) else if (alk o n g).isSome = true then [2] else [2, if fulD n g = true then 5 else 6]
def cK (o : Bool) (n : Nat) (g : Nat → Nat) : Nat := if o = true then (if (alk o n g).isSome = true then 4 else 0) else if (alk o n g).isSome = true then 2 else if fulD n g = true then 5 else 6
def okN (o : Bool) (n : Nat) (g : Nat → Nat) : Prop := if o = true then OR n g else MK n g
theorem cK_TH {o : Bool} {n : Nat} {g : Nat → Nat} (h : okN o n g) : TH (cK o n g) n g := by
  cases o with
  | true => exact Or.inl ⟨h, rfl⟩
  | false => exact Or.inr ⟨h, rfl⟩
theorem cK_kd {o : Bool} {n : Nat} {g : Nat → Nat} : kc (cK o n g) = kd o n g := by
  unfold cK kd
  split
  · split <;> rfl
  · split
    · rfl
    · split <;> rfl
theorem cK_isC {o : Bool} {n : Nat} {g : Nat → Nat} : isC (cK o n g) := by
  unfold cK
  split
  · split
    · exact Or.inr (Or.inr (Or.inl rfl))
    · exact Or.inl rfl
  · split
    · exact Or.inr (Or.inl rfl)
    · split
      · exact Or.inr (Or.inr (Or.inr (Or.inl rfl)))
      · exact Or.inr (Or.inr (Or.inr (Or.inr rfl)))
theorem pick_none {v : Option (Nat × Nat × Nat × Nat)} (hv : ∀ a b c e, v = some (a, b, c, e) → a ≤ 16) : pick 0 v = -1000000 ↔ v.isSome = false := by
  match v, hv with
  | none, _ => exact ⟨fun _ => rfl, fun _ => rfl⟩
  | some (a, b, c, e), hv =>
    constructor
    · intro q
      have ha := hv a b c e rfl
      have q2 : (nI a).toInt = (-1000000 : Int32).toInt := by rw [← q]; rfl
      rw [i32_nI (by omega), show (-1000000 : Int32).toInt = -1000000 from rfl] at q2
      omega
    · intro q; cases q
theorem alkC_lt {o : Bool} {n : Nat} {g : Nat → Nat} {a b c e : Nat} (h : alkC o n g = some (a, b, c, e)) : a < n := by
  unfold alkC at h
  obtain ⟨a', h1, h2, h3⟩ := sr_spec h
  obtain ⟨b', h4, h5, h6⟩ := sr_spec h3
  cases hl : lf o n g a' b' with
  | none => rw [hl] at h6; cases h6
  | some c' =>
    rw [hl, Option.bind_some] at h6
    cases hs : snd o n g a' b' c' with
    | none => rw [hs] at h6; cases h6
    | some e' =>
      rw [hs] at h6
      cases h6
      omega
section TOLD
variable {X : lk_X} {d : Nat} {h : lk_H} {b0 n : Nat} {g : Nat → Nat}
theorem ob_of {a c : Nat} {fs : List Value} {K : Prop} (ha : h[a]? = some (.inr (c, fs))) : lk_ob h a K ↔ K := ⟨fun q => q.2, fun q => ⟨⟨_, ha⟩, q⟩⟩
theorem S_t_init {a c : Nat} (ha : h[a]? = some (.inr (c, [.null]))) (hc : isC c) : lk_ev X (d + 1) 55 [.ref a, .ref b0] h none (h.set a (.inr (c, [.ref b0]))) := by
  refine E_t_init ⟨c, _, ha, has0 c hc, ?_, by decide, rfl, rfl⟩
  rcases hc with rfl | rfl | rfl | rfl | rfl <;> rfl
theorem S_o_init {a c : Nat} (ha : h[a]? = some (.inr (c, [.null]))) (hc : isC c) : lk_ev X (d + 2) 27 [.ref a, .ref b0] h none (h.set a (.inr (c, [.ref b0]))) := by
  refine E_o_init ?_
  rw [ob_of ha, (S_t_init ha hc).iffv]
  exact ⟨rfl, rfl⟩
theorem S_l_init {a c : Nat} (ha : h[a]? = some (.inr (c, [.null]))) (hc : isC c) : lk_ev X (d + 3) 0 [.ref a, .ref b0] h none (h.set a (.inr (c, [.ref b0]))) := by
  refine E_l_init ?_
  rw [ob_of ha, (S_o_init ha hc).iffv]
  exact ⟨rfl, rfl⟩
theorem S_k_init {a c : Nat} (ha : h[a]? = some (.inr (c, [.null]))) (hc : isC c) : lk_ev X (d + 2) 11 [.ref a, .ref b0] h none (h.set a (.inr (c, [.ref b0]))) := by
  refine E_k_init ?_
  rw [ob_of ha, (S_t_init ha hc).iffv]
  exact ⟨rfl, rfl⟩
theorem S_r_init {a c : Nat} (ha : h[a]? = some (.inr (c, [.null]))) (hc : isC c) : lk_ev X (d + 3) 42 [.ref a, .ref b0] h none (h.set a (.inr (c, [.ref b0]))) := by
  refine E_r_init ?_
  rw [ob_of ha, (S_k_init ha hc).iffv]
  exact ⟨rfl, rfl⟩
theorem S_p_init {a c : Nat} (ha : h[a]? = some (.inr (c, [.null]))) (hc : isC c) : lk_ev X (d + 4) 39 [.ref a, .ref b0] h none (h.set a (.inr (c, [.ref b0]))) := by
  refine E_p_init ?_
  rw [ob_of ha, (S_r_init ha hc).iffv]
  exact ⟨rfl, rfl⟩
theorem app_at (e : va_E) : (h ++ [e])[h.length]? = some e := by rw [List.getElem?_append_right (Nat.le_refl _), Nat.sub_self]; rfl
theorem app_set (e e' : va_E) : (h ++ [e]).set h.length e' = h ++ [e'] := by rw [List.set_append_right _ _ (Nat.le_refl _), Nat.sub_self]; rfl
theorem S_o_told (ht : ar h b0 n g) : lk_ev X (d + 4) 28 [.ref b0] h (some (.ref (h.length + (cls true n g).length - 1))) (h ++ (cls true n g).map (fun c => .inr (c, [.ref b0]))) := by
  have h16 := ht.1
  have t1 : tr (h ++ [.inr (4, [.ref b0])]) h.length 4 b0 n g := ⟨app_at _, Or.inr (Or.inr (Or.inl rfl)), ht.app _⟩
  refine E_o_told ?_
  rw [ob_of (app_at _), (S_o_init (app_at _) (Or.inr (Or.inr (Or.inl rfl)))).iffv, app_set]
  have hv : ∀ {K : Nat → Prop}, lk_vc (h ++ [.inr (4, [.ref b0])]) h.length [(0, 58), (4, 58)] K ↔ K 58 := ⟨fun ⟨c, fs, k, q1, q2, q3⟩ => by rw [app_at] at q1; cases q1; cases q2; exact q3, fun q => ⟨_, _, _, app_at _, rfl, q⟩⟩
  have hs : lk_ev X (d + 3) 58 [.ref h.length, .int 0] (h ++ [.inr (4, [.ref b0])]) (some (.int (pick 0 (alkC true n g)))) (h ++ [.inr (4, [.ref b0])]) := S_t_partOfAlike (X := X) (d := d) t1 (fun q => absurd q (by decide)) (w := 0) (by decide)
  rw [hv, lk_ev.iffi hs]
  rw [pick_none (fun a b c e q => by have := alkC_lt q; omega), ← alk_eq nsame_OR]
  refine ⟨fun q => ?_, fun q => ?_⟩
  · have e : cls true n g = [4] := by unfold cls; rw [if_pos rfl, if_pos (by rw [Bool.not_eq_false] at q; exact q)]
    rw [e]
    exact ⟨rfl, rfl⟩
  · have e : cls true n g = [4, 0] := by unfold cls; rw [if_pos rfl, if_neg (by simp at q; simp [q])]
    rw [ob_of (app_at _), (S_l_init (app_at _) (Or.inl rfl)).iffv, app_set, e]
    refine ⟨?_, ?_⟩
    · rw [List.length_append]; rfl
    · rw [List.append_assoc]; rfl
theorem mul_half : ∀ n : Nat, n < 17 → nI n * (nI n - 1) / 2 = nI (n * (n - 1) / 2) := by decide
theorem S_k_hasAll {a c : Nat} (ht : tr h a c b0 n g) (hM : MK n g) : lk_ev X (d + 1) 14 [.ref a] h (some (.int (bI (n * (n - 1) / 2 = g (n - 1) - g 0)))) h := by
  have h1 := hM.1
  have h16 := ht.2.2.1
  have h12 := hM.2.1
  refine E_k_hasAllDistances ?_
  have en : nI n - 1 = nI (n - 1) := by
    rw [i32_eq, show (1 : Int32) = nI 1 from rfl, pk_sub_toInt (by omega) (by omega), i32_nI (by omega)]
    omega
  rw [ht.fR has3, ht.2.2.al, mul_half n (by omega), en]
  refine ⟨by decide, ?_⟩
  have l0 : ∀ {K : Int32 → Prop}, lk_ai h b0 0 K ↔ K (nI (g 0)) := ht.2.2.ai (k := 0) h1
  rw [ht.fR has3, ht.2.2.ai (show n - 1 < n by omega), ht.fR has3, l0]
  have l1 := ht.2.2.le (show n - 1 < n by omega)
  have l2 := ht.2.2.le h1
  have hm := hM.mono (Nat.zero_le (n - 1)) (by omega)
  have hb : n * (n - 1) / 2 ≤ 66 := by
    have : ∀ k : Nat, k ≤ 12 → k * (k - 1) / 2 ≤ 66 := by decide
    exact this n h12
  rw [show nI (g (n - 1)) - nI (g 0) = nI (g (n - 1) - g 0) from by
    rw [i32_eq, pk_sub_toInt (by omega) (by omega), i32_nI (by omega)]
    omega, nI_eq (by omega) (by omega)]
  refine ⟨fun q => ⟨by rw [bI_0 q], rfl⟩, fun q => ⟨by rw [bI_1 q], rfl⟩⟩
theorem S_k_told (ht : ar h b0 n g) (hM : MK n g) : lk_ev X (d + 5) 12 [.ref b0] h (some (.ref (h.length + (cls false n g).length - 1))) (h ++ (cls false n g).map (fun c => .inr (c, [.ref b0]))) := by
  have h16 := ht.1
  have t1 : tr (h ++ [.inr (2, [.ref b0])]) h.length 2 b0 n g := ⟨app_at _, Or.inr (Or.inl rfl), ht.app _⟩
  refine E_k_told ?_
  rw [ob_of (app_at _), (S_k_init (app_at _) (Or.inr (Or.inl rfl))).iffv, app_set]
  have hv : ∀ {K : Nat → Prop}, lk_vc (h ++ [.inr (2, [.ref b0])]) h.length [(2, 58), (5, 58), (6, 58)] K ↔ K 58 := ⟨fun ⟨c, fs, k, q1, q2, q3⟩ => by rw [app_at] at q1; cases q1; cases q2; exact q3, fun q => ⟨_, _, _, app_at _, rfl, q⟩⟩
  have hv2 : ∀ {K : Nat → Prop}, lk_vc (h ++ [.inr (2, [.ref b0])]) h.length [(2, 14)] K ↔ K 14 := ⟨fun ⟨c, fs, k, q1, q2, q3⟩ => by rw [app_at] at q1; cases q1; cases q2; exact q3, fun q => ⟨_, _, _, app_at _, rfl, q⟩⟩
  have hs : lk_ev X (d + 4) 58 [.ref h.length, .int 0] (h ++ [.inr (2, [.ref b0])]) (some (.int (pick 0 (alkC false n g)))) (h ++ [.inr (2, [.ref b0])]) := S_t_partOfAlike (X := X) (d := d + 1) t1 (fun _ => hM.2.2.2) (w := 0) (by decide)
  rw [hv, lk_ev.iffi hs]
  rw [pick_none (fun a b c e q => by have := alkC_lt q; omega), ← alk_eq (nsame_MK hM)]
  refine ⟨fun q => ?_, fun q => ?_⟩
  · have hnone : alk false n g = none := by
      cases ha : alk false n g with
      | none => rfl
      | some v => rw [ha] at q; cases q
    have e : cls false n g = [2, if fulD n g = true then 5 else 6] := by unfold cls; rw [if_neg (by decide), if_neg (by rw [q]; decide)]
    rw [hv2, (S_k_hasAll t1 hM).iffi, e]
    by_cases hf : fulD n g = true
    · rw [if_pos hf]
      refine br_f (bI_t ((ful_iff hM hnone).mp hf)) ?_
      rw [ob_of (app_at _), (S_p_init (app_at _) (Or.inr (Or.inr (Or.inr (Or.inl rfl))))).iffv, app_set]
      refine ⟨?_, ?_⟩
      · rw [List.length_append]; rfl
      · rw [List.append_assoc]; rfl
    · rw [if_neg hf]
      refine br_t (bI_f fun w => hf ((ful_iff hM hnone).mpr w)) ?_
      rw [ob_of (app_at _), (S_r_init (app_at _) (Or.inr (Or.inr (Or.inr (Or.inr rfl))))).iffv, app_set]
      refine ⟨?_, ?_⟩
      · rw [List.length_append]; rfl
      · rw [List.append_assoc]; rfl
  · have e : cls false n g = [2] := by unfold cls; rw [if_neg (by decide), if_pos (by rw [Bool.not_eq_false] at q; exact q)]
    rw [e]
    exact ⟨rfl, rfl⟩
end TOLD
