/-! the step theorem, by instructions -/
section LKS
variable {p : Program} {l : Launch} {e : Env} {R : Room} {s : State} {m : MethodId} {args : Array Value} {below : List Frame} {meth : Method} {c : Code} {H : Heap} {locs : List Loc} {cells slots : Nat} {Q : State → Prop}
variable {HB : Heap} {z L : Nat} {xs : Nat → Int32} {dC : Nat → ClassId} {dI : Nat → Nat → Nat} {aC : Nat → ClassId} {cc : ByteArray} {own name : String}
def lk_C (HB : Heap) (z L : Nat) (xs : Nat → Int32) (dC : Nat → ClassId) (dI : Nat → Nat → Nat) (aC : Nat → ClassId) (p : Program) (s : State) (m : MethodId) (meth : Method) (c : Code) (cc : ByteArray) (own name : String) : Prop :=
  p.tables.exec = Jvm.exec ∧ c.code = cc ∧ s.vm.findClass own = some m.cls ∧ lk_T s ∧ va_K (dC, dI) vwCl (lk_tys aC) s ∧ lk_N s ∧ va_X z L xs s HB ∧ z < HB.size ∧ meth.name = name
def lk_R (HB : Heap) (z : Nat) (dC : Nat → ClassId) (dI : Nat → Nat → Nat) (aC : Nat → ClassId) (h : lk_H) (H : Heap) (locs : List Loc) : Prop := va_P (dC, dI) vwCl (lk_ws HB.size z aC h) H ∧ va_S (fun q : Nat => HB.size ≤ q) HB H locs
/-- the heap's size is bounded by the frame's own book -/
theorem lk_bound {g : JFrame} (k : H.size ≤ s.heap.size + cells → W p l e R s m args below meth c H locs cells slots Q g) : W p l e R s m args below meth c H locs cells slots Q g := fun T hT X => k (by rw [← hT]; exact X.heapSize) T hT X
theorem lk_S.self {A : Nat → Prop} {H0 H : Heap} {locs : List Loc} (h : va_S A H0 H locs) : va_S A H H locs := ⟨Nat.le_refl _, fun _ _ _ => rfl, h.2.2⟩
theorem lk_S.trans {A : Nat → Prop} {H0 H H1 : Heap} {locs locs1 : List Loc} (h : va_S A H0 H locs) (h1 : va_S A H H1 locs1) : va_S A H0 H1 locs1 := ⟨Nat.le_trans h.1 h1.1, fun q hq hA => (h1.2.1 q (Nat.lt_of_lt_of_le hq h.1) hA).trans (h.2.1 q hq hA), h1.2.2⟩
theorem lk_A (H : Heap) (h : HB.size ≤ H.size) : ∀ q : Nat, H.size ≤ q → (fun q : Nat => HB.size ≤ q) q := fun q hq => Nat.le_trans h hq
abbrev lk_k (p : Program) (l : Launch) (e : Env) (R : Room) (s : State) (m : MethodId) (args : Array Value) (below : List Frame) (meth : Method) (c : Code) (cells slots : Nat) (Q : State → Prop) (HB : Heap) (z : Nat) (dC : Nat → ClassId) (dI : Nat → Nat → Nat) (aC : Nat → ClassId) (lo : List Value) (h : lk_H) (q : lk_S) : Prop :=
  ∀ (H' : Heap) (locs' : List Loc) (ls' : Array Slot), lk_R HB z dC dI aC q.2.2.2 H' locs' → lk_L HB.size z ls' q.2.1 → q.2.1.length = lo.length →
    W p l e R s m args below meth c H' locs' (cells + (q.2.2.2.length - h.length)) (slots + (lk_sz q.2.2.2 - lk_sz h)) Q (F0 m q.1 ls' (q.2.2.1.map (lk_sv HB.size z)))
theorem lk_k.same {lo : List Value} {h : lk_H} {pc' : Nat} {lo' st' : List Value} (kk : lk_k p l e R s m args below meth c cells slots Q HB z dC dI aC lo h (pc', lo', st', h)) (hR : lk_R HB z dC dI aC h H locs) {ls' : Array Slot} (hl : lk_L HB.size z ls' lo') (hn : lo'.length = lo.length) :
    W p l e R s m args below meth c H locs cells slots Q (F0 m pc' ls' (st'.map (lk_sv HB.size z))) := by
  have k := kk H locs ls' hR hl hn
  dsimp only at k
  rw [Nat.sub_self, Nat.sub_self, Nat.add_zero, Nat.add_zero] at k
  exact k
theorem lk_k.set {lo : List Value} {h : lk_H} {a : Nat} {x y : va_E} {pc' : Nat} {st' : List Value} (kk : lk_k p l e R s m args below meth c cells slots Q HB z dC dI aC lo h (pc', lo, st', h.set a y)) (hx : h[a]? = some x) (hs : lk_cz y = lk_cz x) (hR : lk_R HB z dC dI aC (h.set a y) H locs) {ls : Array Slot} (hl : lk_L HB.size z ls lo) :
    W p l e R s m args below meth c H locs cells slots Q (F0 m pc' ls (st'.map (lk_sv HB.size z))) := by
  have k := kk H locs ls hR hl rfl
  dsimp only at k
  rw [lk_sz_set hx hs, List.length_set, Nat.sub_self, Nat.sub_self, Nat.add_zero, Nat.add_zero] at k
  exact k
theorem lk_k.push {lo : List Value} {h : lk_H} {y : va_E} {pc' : Nat} {st' : List Value} (kk : lk_k p l e R s m args below meth c cells slots Q HB z dC dI aC lo h (pc', lo, st', h ++ [y])) (hR : lk_R HB z dC dI aC (h ++ [y]) H locs) {ls : Array Slot} (hl : lk_L HB.size z ls lo) :
    W p l e R s m args below meth c H locs (cells + 1) (slots + lk_cz y) Q (F0 m pc' ls (st'.map (lk_sv HB.size z))) := by
  have k := kk H locs ls hR hl rfl
  dsimp only at k
  rw [lk_sz_app, List.length_append, Nat.add_sub_cancel_left, Nat.add_sub_cancel_left] at k
  exact k
variable {pc : Nat} {lo st : List Value} {h : lk_H} {ls : Array Slot} {inf : lk_I} {q : lk_S}
/-- the address of what was made -/
theorem lk_fresh {h : lk_H} {H1 : Heap} {q : Nat} {y : va_E} (hbd : H1.size ≤ HB.size + h.length + 1) (hP : va_P (dC, dI) vwCl (lk_ws HB.size z aC h ++ [(q, y)]) H1) (hD : va_D (fun q : Nat => HB.size ≤ q) (lk_ws HB.size z aC h ++ [(q, y)])) : q = HB.size + h.length := by
  have hq : (lk_ws HB.size z aC h ++ [(q, y)])[h.length]? = some (q, y) := by
    rw [List.getElem?_append_right (by rw [lk_ws_length]; exact Nat.le_refl _), lk_ws_length, Nat.sub_self]; rfl
  have h1 := (hP _ _ hq).lt
  have h2 := hD.2 _ _ hq
  dsimp only at h1 h2
  rcases Nat.lt_or_ge (q - HB.size) h.length with hlt | hge
  · obtain ⟨x, hx⟩ : ∃ x, h[q - HB.size]? = some x := ⟨_, List.getElem?_eq_getElem hlt⟩
    have h3 : (lk_ws HB.size z aC h ++ [(q, y)])[q - HB.size]? = some (HB.size + (q - HB.size), lk_se HB.size z aC x) := by
      rw [List.getElem?_append_left (by rw [lk_ws_length]; exact hlt)]
      exact lk_ws_at hx
    have h4 := hD.1 _ _ _ _ h3 hq (by dsimp only; omega)
    omega
  · omega
/-! locals and constants -/
theorem lk_s_const (hC : lk_C HB z L xs dC dI aC p s m meth c cc own name) {I : Instr} {n : Nat} (hr : lk_R HB z dC dI aC h H locs) (hl : lk_L HB.size z ls lo)
    (row : ∀ v : Value, inf.2.2 = v → W p l e R s m args below meth c H locs cells slots Q (F0 m (pc + n) ls (lk_sv HB.size z v :: st.map (lk_sv HB.size z))) → W p l e R s m args below meth c H locs cells slots Q (F0 m pc ls (st.map (lk_sv HB.size z))))
    (kk : lk_k p l e R s m args below meth c cells slots Q HB z dC dI aC lo h (pc + n, lo, inf.2.2 :: st, h)) : W p l e R s m args below meth c H locs cells slots Q (F0 m pc ls (st.map (lk_sv HB.size z))) :=
  row _ rfl (kk.same hr hl rfl)
end LKS
