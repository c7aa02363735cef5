/-! THE SMALL MACHINE: frames and a heap of numbered cells, as a plain function; later shown to be followed by the machine -/
abbrev lk_H : Type := List va_E
abbrev lk_I : Type := Nat × List (Nat × Nat) × Value
abbrev lk_X : Type := Nat × (Nat → Int32)
/-- a value of the small machine as one of the machine: cell k lies at b + k; retAddr stands for the script, at z -/
def lk_sv (b z : Nat) : Value → Value
  | .ref a => .ref (b + a)
  | .retAddr _ => .ref z
  | v => v
def lk_sa (b : Nat) (x : vp_A) : vp_A := (x.1, match x.2 with
  | .inr (.inr (.inr (.inr f))) => .inr (.inr (.inr (.inr (fun k => (f k).map (fun a => b + a)))))
  | y => y)
def lk_se (b z : Nat) (aC : Nat → ClassId) : va_E → va_E
  | .inl a => .inl (aC a.1, lk_sa b a.2)
  | .inr o => .inr (o.1, o.2.map (lk_sv b z))
def lk_ws (b z : Nat) (aC : Nat → ClassId) (h : lk_H) : va_W := h.mapIdx (fun k c => (b + k, lk_se b z aC c))
section LKW
variable {b z : Nat} {aC : Nat → ClassId}
theorem lk_ws_get (h : lk_H) (k : Nat) : (lk_ws b z aC h)[k]? = (h[k]?).map (fun c => (b + k, lk_se b z aC c)) := by
  unfold lk_ws
  rw [List.getElem?_mapIdx]
theorem lk_ws_at {h : lk_H} {k : Nat} {c : va_E} (hk : h[k]? = some c) : (lk_ws b z aC h)[k]? = some (b + k, lk_se b z aC c) := by
  rw [lk_ws_get, hk]; rfl
theorem lk_ws_length (h : lk_H) : (lk_ws b z aC h).length = h.length := by
  unfold lk_ws; simp
theorem lk_ws_set (h : lk_H) (k : Nat) (c : va_E) : lk_ws b z aC (h.set k c) = (lk_ws b z aC h).set k (b + k, lk_se b z aC c) := by
  apply List.ext_getElem?
  intro i
  rw [lk_ws_get, List.getElem?_set, List.getElem?_set, lk_ws_length, lk_ws_get]
  by_cases hi : k = i
  · subst hi
    by_cases hl : k < h.length
    · simp [hl]
    · simp [hl]
  · simp [hi]
theorem lk_ws_app (h : lk_H) (c : va_E) : lk_ws b z aC (h ++ [c]) = lk_ws b z aC h ++ [(b + h.length, lk_se b z aC c)] := by
  unfold lk_ws
  simp [List.mapIdx_append]
theorem lk_ws_inv {h : lk_H} {k : Nat} {q : Nat × va_E} (hk : (lk_ws b z aC h)[k]? = some q) : ∃ c, h[k]? = some c ∧ q = (b + k, lk_se b z aC c) := by
  rw [lk_ws_get] at hk
  cases hc : h[k]? with
  | none => rw [hc] at hk; cases hk
  | some c => rw [hc] at hk; exact ⟨c, rfl, (Option.some.inj hk).symm⟩
theorem lk_ws_D (h : lk_H) : va_D (fun q : Nat => b ≤ q) (lk_ws b z aC h) := by
  refine ⟨fun i j p q hi hj hpq => ?_, fun k q hk => ?_⟩
  · obtain ⟨c, -, rfl⟩ := lk_ws_inv hi
    obtain ⟨d, -, rfl⟩ := lk_ws_inv hj
    dsimp only at hpq
    omega
  · obtain ⟨c, -, rfl⟩ := lk_ws_inv hk
    dsimp only
    omega
end LKW
/-! locals: a list of values, retAddr 0 where nothing is known -/
def lk_v : Value → Bool
  | .retAddr 0 => false
  | _ => true
def lk_L (b z : Nat) (ls : Array Slot) (lo : List Value) : Prop := ls.size = lo.length ∧ lv_wf ls ∧ ∀ (k : Nat) (v : Value), lo[k]? = some v → lk_v v = true → ls[k]? = some (.val (lk_sv b z v))
def lk_al (b z : Nat) (lo : List Value) : List (Nat × Value) := (List.range lo.length).filterMap fun k => match lo[k]? with
  | some v => if lk_v v = true then some (k, lk_sv b z v) else none
  | none => none
/-- is a value of two slots just ahead of place i -/
def lk_pl (lo : List Value) (i : Nat) : Bool := match i with
  | 0 => false
  | k + 1 => match lo[k]? with
    | some v => v.category == 2
    | none => false
/-- such a value is gone once place i is written -/
def lk_clr (lo : List Value) (i : Nat) : List Value := if lk_pl lo i = true then lo.set (i - 1) (.retAddr 0) else lo
def lk_set (lo : List Value) (i : Nat) (v : Value) : Option (List Value) := if i < lo.length then some ((lk_clr lo i).set i v) else none
def lk_set2 (lo : List Value) (i : Nat) (v : Value) : Option (List Value) := if i + 1 < lo.length then some (((lk_clr lo i).set i v).set (i + 1) (.retAddr 0)) else none
theorem lk_clr_len (lo : List Value) (i : Nat) : (lk_clr lo i).length = lo.length := by
  unfold lk_clr
  split
  · exact List.length_set
  · rfl
theorem lk_clr_at {lo : List Value} {i k : Nat} {w : Value} (hk : (lk_clr lo i)[k]? = some w) (hw : lk_v w = true) : lo[k]? = some w ∧ (k + 1 = i → ¬ w.category = 2) := by
  unfold lk_clr at hk
  by_cases hp : lk_pl lo i = true
  · rw [if_pos hp, List.getElem?_set] at hk
    by_cases h1 : i - 1 = k
    · rw [if_pos h1] at hk
      split at hk
      · cases hk; cases hw
      · cases hk
    · rw [if_neg h1] at hk
      exact ⟨hk, fun h2 => absurd (by omega) h1⟩
  · rw [if_neg hp] at hk
    refine ⟨hk, fun h2 hc => hp ?_⟩
    subst h2
    simp only [lk_pl, hk]
    exact beq_iff_eq.mpr hc
theorem lk_al_mem {b z : Nat} {lo : List Value} {k : Nat} {v : Value} (h : lo[k]? = some v) (hv : lk_v v = true) : (k, lk_sv b z v) ∈ lk_al b z lo := by
  unfold lk_al
  refine List.mem_filterMap.mpr ⟨k, List.mem_range.mpr (List.getElem?_eq_some_iff.mp h).1, ?_⟩
  rw [h]
  simp [hv]
theorem lk_al_inv {b z : Nat} {lo : List Value} {q : Nat × Value} (h : q ∈ lk_al b z lo) : ∃ v, lo[q.1]? = some v ∧ lk_v v = true ∧ q.2 = lk_sv b z v := by
  unfold lk_al at h
  obtain ⟨k, -, hk⟩ := List.mem_filterMap.mp h
  cases hc : lo[k]? with
  | none => rw [hc] at hk; cases hk
  | some v =>
    rw [hc] at hk
    by_cases hv : lk_v v = true
    · simp only [hv, if_true] at hk
      cases hk
      exact ⟨v, hc, hv, rfl⟩
    · simp only [hv] at hk
      cases hk
theorem lk_L.has {b z : Nat} {ls : Array Slot} {lo : List Value} (h : lk_L b z ls lo) : lv_has ls lo.length (lk_al b z lo) := by
  refine ⟨h.1, h.2.1, fun q hq => ?_⟩
  obtain ⟨v, h1, h2, h3⟩ := lk_al_inv hq
  rw [h3]
  exact h.2.2 q.1 v h1 h2
theorem lk_L.at {b z : Nat} {ls : Array Slot} {lo : List Value} (h : lk_L b z ls lo) {k : Nat} {v : Value} (hk : lo[k]? = some v) (hv : lk_v v = true) : ls[k]? = some (.val (lk_sv b z v)) := h.2.2 k v hk hv
theorem lk_sv_cat (b z : Nat) (v : Value) : (lk_sv b z v).category = v.category := by cases v <;> rfl
theorem lk_L.set {b z : Nat} {ls' : Array Slot} {lo lo' : List Value} {i : Nat} {v : Value} (h : lk_set lo i v = some lo')
    (h' : lv_has ls' lo.length ((i, lk_sv b z v) :: (lk_al b z lo).filter (fun q => !(q.1 == i) && !(q.1 + 1 == i && q.2.category == 2)))) : lk_L b z ls' lo' := by
  unfold lk_set at h
  by_cases hi : i < lo.length
  · rw [if_pos hi] at h
    cases h
    refine ⟨by rw [List.length_set, lk_clr_len]; exact h'.1, h'.2.1, fun k w hk hw => ?_⟩
    rw [List.getElem?_set, lk_clr_len] at hk
    by_cases hki : i = k
    · subst hki
      rw [if_pos rfl, if_pos hi] at hk
      cases hk
      exact h'.2.2 (i, lk_sv b z v) List.mem_cons_self
    · rw [if_neg hki] at hk
      obtain ⟨h1, h2⟩ := lk_clr_at hk hw
      refine h'.2.2 (k, lk_sv b z w) (List.mem_cons_of_mem _ (List.mem_filter.mpr ⟨lk_al_mem h1 hw, ?_⟩))
      have e1 : (k == i) = false := by simp; omega
      simp only [e1, Bool.not_false, Bool.true_and]
      by_cases e2 : k + 1 = i
      · have := h2 e2
        simp [lk_sv_cat, this]
      · simp [e2]
  · rw [if_neg hi] at h; cases h
theorem lk_L.set2 {b z : Nat} {ls' : Array Slot} {lo lo' : List Value} {i : Nat} {v : Value} (h : lk_set2 lo i v = some lo')
    (h' : lv_has ls' lo.length ((i, lk_sv b z v) :: (lk_al b z lo).filter (fun q => !(q.1 == i) && (!(q.1 == i + 1) && !(q.1 + 1 == i && q.2.category == 2))))) : lk_L b z ls' lo' := by
  unfold lk_set2 at h
  by_cases hi : i + 1 < lo.length
  · rw [if_pos hi] at h
    cases h
    refine ⟨by rw [List.length_set, List.length_set, lk_clr_len]; exact h'.1, h'.2.1, fun k w hk hw => ?_⟩
    rw [List.getElem?_set, List.length_set, lk_clr_len] at hk
    by_cases hk1 : i + 1 = k
    · subst hk1
      rw [if_pos rfl, if_pos hi] at hk
      cases hk
      cases hw
    · rw [if_neg hk1, List.getElem?_set, lk_clr_len] at hk
      by_cases hki : i = k
      · subst hki
        rw [if_pos rfl, if_pos (by omega)] at hk
        cases hk
        exact h'.2.2 (i, lk_sv b z v) List.mem_cons_self
      · rw [if_neg hki] at hk
        obtain ⟨h1, h2⟩ := lk_clr_at hk hw
        refine h'.2.2 (k, lk_sv b z w) (List.mem_cons_of_mem _ (List.mem_filter.mpr ⟨lk_al_mem h1 hw, ?_⟩))
        have e1 : (k == i) = false := by simp; omega
        have e3 : (k == i + 1) = false := by simp; omega
        simp only [e1, e3, Bool.not_false, Bool.true_and]
        by_cases e2 : k + 1 = i
        · have := h2 e2
          simp [lk_sv_cat, this]
        · simp [e2]
  · rw [if_neg hi] at h; cases h
/-! the locals at a method's entry -/
def lk_ex : List Value → List Value
  | [] => []
  | v :: vs => match v with
    | .long x => .long x :: .retAddr 0 :: lk_ex vs
    | .double x => .double x :: .retAddr 0 :: lk_ex vs
    | v => v :: lk_ex vs
def lk_ent (n : Nat) (vs : List Value) : List Value := lk_ex vs ++ List.replicate (n - (lk_ex vs).length) (.retAddr 0)
theorem lk_ex_sl (b z : Nat) (vs : List Value) : (lg_sl (vs.map (lk_sv b z))).length = (lk_ex vs).length := by
  induction vs with
  | nil => rfl
  | cons v t ih => cases v <;> simp_all [lg_sl, lk_sv, lk_ex, Value.category]
theorem lk_ex_args (b z : Nat) (vs : List Value) : ∀ (i : Nat) (pre : List Value), pre.length = i → ∀ (k : Nat) (v : Value), i ≤ k → (pre ++ lk_ex vs)[k]? = some v → lk_v v = true → (k, lk_sv b z v) ∈ lv_args i (vs.map (lk_sv b z)) := by
  induction vs with
  | nil =>
    intro i pre hi k v hk h
    simp only [lk_ex, List.append_nil] at h
    have := (List.getElem?_eq_some_iff.mp h).1
    omega
  | cons w t ih =>
    intro i pre hi k v hk h hv
    have key : ∀ (u : Value), lk_ex (u :: t) = u :: lk_ex t → u.category = 1 → (pre ++ lk_ex (u :: t))[k]? = some v → (k, lk_sv b z v) ∈ lv_args i ((u :: t).map (lk_sv b z)) := by
      intro u hu hc h
      rw [hu] at h
      simp only [List.map_cons, lv_args]
      by_cases hki : k = i
      · subst hki
        rw [List.getElem?_append_right (by omega), hi, Nat.sub_self] at h
        cases h
        exact List.mem_cons_self
      · refine List.mem_cons_of_mem _ ?_
        rw [lk_sv_cat, hc, if_neg (by decide)]
        refine ih (i + 1) (pre ++ [u]) (by simp [hi]) k v (by omega) ?_ hv
        rw [List.append_assoc]
        exact h
    have key2 : ∀ (u : Value), lk_ex (u :: t) = u :: .retAddr 0 :: lk_ex t → u.category = 2 → (pre ++ lk_ex (u :: t))[k]? = some v → (k, lk_sv b z v) ∈ lv_args i ((u :: t).map (lk_sv b z)) := by
      intro u hu hc h
      rw [hu] at h
      simp only [List.map_cons, lv_args]
      by_cases hki : k = i
      · subst hki
        rw [List.getElem?_append_right (by omega), hi, Nat.sub_self] at h
        cases h
        exact List.mem_cons_self
      · refine List.mem_cons_of_mem _ ?_
        rw [lk_sv_cat, hc, if_pos rfl]
        by_cases hk1 : k = i + 1
        · subst hk1
          rw [List.getElem?_append_right (by omega), hi, show i + 1 - i = 1 by omega] at h
          cases h
          cases hv
        · refine ih (i + 2) (pre ++ [u, .retAddr 0]) (by simp [hi]) k v (by omega) ?_ hv
          rw [List.append_assoc]
          exact h
    cases w with
    | int x => exact key _ rfl rfl h
    | long x => exact key2 _ rfl rfl h
    | float x => exact key _ rfl rfl h
    | double x => exact key2 _ rfl rfl h
    | null => exact key _ rfl rfl h
    | ref x => exact key _ rfl rfl h
    | retAddr x => exact key _ rfl rfl h
theorem lk_L.entry (b z n : Nat) (vs : List Value) (h : (lk_ex vs).length ≤ n) : lk_L b z ((lg_sl (vs.map (lk_sv b z)) ++ List.replicate (n - (lg_sl (vs.map (lk_sv b z))).length) Slot.unset).toArray) (lk_ent n vs) := by
  have h1 := lv_entry (vs.map (lk_sv b z)) (n := n) (by rw [lk_ex_sl]; exact h)
  refine ⟨?_, h1.2.1, fun k v hk hv => ?_⟩
  · rw [h1.1]
    unfold lk_ent
    rw [List.length_append, List.length_replicate]
    omega
  · refine h1.2.2 (k, lk_sv b z v) ?_
    refine lk_ex_args b z vs 0 [] rfl k v (Nat.zero_le _) ?_ hv
    rw [List.nil_append]
    unfold lk_ent at hk
    by_cases hl : k < (lk_ex vs).length
    · rw [List.getElem?_append_left hl] at hk
      exact hk
    · rw [List.getElem?_append_right (by omega)] at hk
      have this := List.eq_of_mem_replicate (List.mem_of_getElem? hk)
      subst this
      cases hv
