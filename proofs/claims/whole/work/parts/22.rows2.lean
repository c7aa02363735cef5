/-! rows: one a kind of instruction; what it asks is a proposition on what is read, and what comes then -/
noncomputable def lk_pureL : List lk_E → List Value → List Value → Option (List Value × List Value)
  | [], lo, st => some (lo, st)
  | e :: es, lo, st => match lk_st1 (0, fun _ => 0) e.1 e.2.1 e.2.2 0 lo st [] with
    | some q => lk_pureL es q.2.1 q.2.2.1
    | none => none
def lk_nx (e : lk_E) (pc : Nat) : Nat := match e.1 with
  | .goto _ => e.2.2.1
  | _ => pc + e.2.1
def lk_dI : DecidableEq lk_I := inferInstance
def lk_dS : DecidableEq Instr := inferInstance
def lk_dE : DecidableEq lk_E := @instDecidableEqProd Instr (Nat × lk_I) lk_dS (@instDecidableEqProd Nat lk_I inferInstance lk_dI)
def lk_eqE (a b : Option lk_E) : Bool := match a, b with
  | some x, some y => @decide (x = y) (lk_dE x y)
  | _, _ => false
theorem lk_eqE_eq {a b : Option lk_E} (h : lk_eqE a b = true) : a = b := by
  unfold lk_eqE at h
  split at h
  · rename_i x y
    exact congrArg some (@of_decide_eq_true (x = y) (lk_dE x y) h)
  · cases h
def lk_seg (j : Nat) : List lk_E → Nat → Option Nat
  | [], pc => some pc
  | e :: es, pc => if lk_eqE (lk_ins j pc) (some e) = true ∧ lk_isp e.1 = true ∧ e.2.1 = lk_ln e.1 then lk_seg j es (lk_nx e pc) else none
theorem lk_isp_pc {e : lk_E} {pc : Nat} {lo st : List Value} {q : lk_S} (hp : lk_isp e.1 = true) (hl : e.2.1 = lk_ln e.1) (h : lk_st1 (0, fun _ => 0) e.1 e.2.1 e.2.2 0 lo st [] = some q) : lk_st1 (0, fun _ => 0) e.1 e.2.1 e.2.2 pc lo st [] = some (lk_nx e pc, q.2.1, q.2.2.1, []) := by
  obtain ⟨I, len, inf⟩ := e
  dsimp only at hp hl h ⊢
  subst hl
  unfold lk_nx
  cases I <;> first | (simp [lk_isp] at hp; done) | skip
  all_goals dsimp only [lk_ln]
  all_goals simp only [lk_st1, lk_ldi, lk_ldl, lk_lda, lk_sti, lk_sta, lk_stl, lk_inc, lk_ii, lk_ll, lk_i1] at h ⊢
  all_goals first | (cases h; rfl) | skip
  all_goals repeat' (split at h)
  all_goals first | (cases h; done) | (cases h; rfl) | (obtain ⟨w, hw, rfl⟩ := Option.map_eq_some_iff.mp h; first | rfl | (simp [*]; done) | (simp_all; done)) | (cases h; simp_all; done) | skip
section LKROWS
variable {X : lk_X} {d j pc : Nat} {lo : List Value} {h : lk_H} {Q : Option Value → lk_H → Prop} {len : Nat} {inf : lk_I} {M : lk_M} {r : List Value}
theorem lk_wp_seg (hM : lk_mt[j]? = some M) : ∀ {es : List lk_E} {pc pc' : Nat}, lk_seg j es pc = some pc' → ∀ {lo st lo' st' : List Value}, lk_pureL es lo st = some (lo', st') → lk_wp X d j pc' lo' st' h Q → lk_wp X d j pc lo st h Q := by
  intro es
  induction es with
  | nil => intro pc pc' hs lo st lo' st' he k; cases hs; cases he; exact k
  | cons e es ih =>
    intro pc pc' hs lo st lo' st' he k
    rw [lk_seg] at hs
    split at hs
    · rename_i hc
      rw [lk_pureL] at he
      split at he
      · rename_i q hq
        have h0 := lk_isp_pc (pc := pc) hc.2.1 hc.2.2 hq
        obtain ⟨h1, h2, h3⟩ := lk_isp_st1 (X := X) (h := h) hc.2.1 h0
        exact lk_wp_step (I := e.1) (len := e.2.1) (inf := e.2.2) (lk_eqE_eq hc.1) hM (h2 _) h3 h1 (ih hs he k)
      · cases he
    · cases hs
/-- one step whose outcome is plain -/
theorem lk_wp_one {I : Instr} {st lo' st' : List Value} {pc' : Nat} {h' : lk_H} (hi : lk_ins j pc = some (I, len, inf)) (hM : lk_mt[j]? = some M) (hr : lk_ret M.2.2.2 I st = none) (hc : lk_callee I inf st h = none) (hs : lk_st1 X I len inf pc lo st h = some (pc', lo', st', h')) (k : lk_wp X d j pc' lo' st' h' Q) : lk_wp X d j pc lo st h Q := lk_wp_step hi hM hr hc hs k
theorem lk_cal0 {I : Instr} {st : List Value} (hI : (match I with
      | .invokestatic _ => true
      | .invokevirtual _ => true
      | .invokespecial _ => true
      | _ => false) = false) : lk_callee I inf st h = none := by
  unfold lk_callee
  split
  · split
    · split
      · cases hI
      · cases hI
      · cases hI
      · rfl
    · rfl
  · rfl

theorem lk_wp_if_eq {x : Int32} {off : Int} {A B : Prop} (hi : lk_ins j pc = some (.ifCond .eq off, len, inf)) (hM : lk_mt[j]? = some M) (H : (x = 0 → A) ∧ (¬ x = 0 → B)) (k1 : A → lk_wp X d j inf.1 lo r h Q) (k2 : B → lk_wp X d j (pc + 3) lo r h Q) : lk_wp X d j pc lo (.int x :: r) h Q := by
  by_cases hc : x = 0
  · exact lk_wp_step (q := (inf.1, lo, r, h)) hi hM rfl (lk_cal0 rfl) (by simp only [lk_st1, lk_if]; exact if_pos hc) (k1 (H.1 hc))
  · exact lk_wp_step (q := (pc + 3, lo, r, h)) hi hM rfl (lk_cal0 rfl) (by simp only [lk_st1, lk_if]; exact if_neg hc) (k2 (H.2 hc))
theorem lk_wp_if_ne {x : Int32} {off : Int} {A B : Prop} (hi : lk_ins j pc = some (.ifCond .ne off, len, inf)) (hM : lk_mt[j]? = some M) (H : (¬ x = 0 → A) ∧ (x = 0 → B)) (k1 : A → lk_wp X d j inf.1 lo r h Q) (k2 : B → lk_wp X d j (pc + 3) lo r h Q) : lk_wp X d j pc lo (.int x :: r) h Q := by
  by_cases hc : x = 0
  · exact lk_wp_step (q := (pc + 3, lo, r, h)) hi hM rfl (lk_cal0 rfl) (by simp only [lk_st1, lk_if]; exact if_neg (fun q => q hc)) (k2 (H.2 hc))
  · exact lk_wp_step (q := (inf.1, lo, r, h)) hi hM rfl (lk_cal0 rfl) (by simp only [lk_st1, lk_if]; exact if_pos hc) (k1 (H.1 hc))
theorem lk_wp_if_lt {x : Int32} {off : Int} {A B : Prop} (hi : lk_ins j pc = some (.ifCond .lt off, len, inf)) (hM : lk_mt[j]? = some M) (H : (x < 0 → A) ∧ (¬ x < 0 → B)) (k1 : A → lk_wp X d j inf.1 lo r h Q) (k2 : B → lk_wp X d j (pc + 3) lo r h Q) : lk_wp X d j pc lo (.int x :: r) h Q := by
  by_cases hc : x < 0
  · exact lk_wp_step (q := (inf.1, lo, r, h)) hi hM rfl (lk_cal0 rfl) (by simp only [lk_st1, lk_if]; exact if_pos hc) (k1 (H.1 hc))
  · exact lk_wp_step (q := (pc + 3, lo, r, h)) hi hM rfl (lk_cal0 rfl) (by simp only [lk_st1, lk_if]; exact if_neg hc) (k2 (H.2 hc))
theorem lk_wp_if_ge {x : Int32} {off : Int} {A B : Prop} (hi : lk_ins j pc = some (.ifCond .ge off, len, inf)) (hM : lk_mt[j]? = some M) (H : (0 ≤ x → A) ∧ (¬ 0 ≤ x → B)) (k1 : A → lk_wp X d j inf.1 lo r h Q) (k2 : B → lk_wp X d j (pc + 3) lo r h Q) : lk_wp X d j pc lo (.int x :: r) h Q := by
  by_cases hc : 0 ≤ x
  · exact lk_wp_step (q := (inf.1, lo, r, h)) hi hM rfl (lk_cal0 rfl) (by simp only [lk_st1, lk_if]; exact if_pos hc) (k1 (H.1 hc))
  · exact lk_wp_step (q := (pc + 3, lo, r, h)) hi hM rfl (lk_cal0 rfl) (by simp only [lk_st1, lk_if]; exact if_neg hc) (k2 (H.2 hc))
theorem lk_wp_if_gt {x : Int32} {off : Int} {A B : Prop} (hi : lk_ins j pc = some (.ifCond .gt off, len, inf)) (hM : lk_mt[j]? = some M) (H : (0 < x → A) ∧ (¬ 0 < x → B)) (k1 : A → lk_wp X d j inf.1 lo r h Q) (k2 : B → lk_wp X d j (pc + 3) lo r h Q) : lk_wp X d j pc lo (.int x :: r) h Q := by
  by_cases hc : 0 < x
  · exact lk_wp_step (q := (inf.1, lo, r, h)) hi hM rfl (lk_cal0 rfl) (by simp only [lk_st1, lk_if]; exact if_pos hc) (k1 (H.1 hc))
  · exact lk_wp_step (q := (pc + 3, lo, r, h)) hi hM rfl (lk_cal0 rfl) (by simp only [lk_st1, lk_if]; exact if_neg hc) (k2 (H.2 hc))
theorem lk_wp_if_le {x : Int32} {off : Int} {A B : Prop} (hi : lk_ins j pc = some (.ifCond .le off, len, inf)) (hM : lk_mt[j]? = some M) (H : (x ≤ 0 → A) ∧ (¬ x ≤ 0 → B)) (k1 : A → lk_wp X d j inf.1 lo r h Q) (k2 : B → lk_wp X d j (pc + 3) lo r h Q) : lk_wp X d j pc lo (.int x :: r) h Q := by
  by_cases hc : x ≤ 0
  · exact lk_wp_step (q := (inf.1, lo, r, h)) hi hM rfl (lk_cal0 rfl) (by simp only [lk_st1, lk_if]; exact if_pos hc) (k1 (H.1 hc))
  · exact lk_wp_step (q := (pc + 3, lo, r, h)) hi hM rfl (lk_cal0 rfl) (by simp only [lk_st1, lk_if]; exact if_neg hc) (k2 (H.2 hc))
theorem lk_wp_ic_eq {x y : Int32} {off : Int} {A B : Prop} (hi : lk_ins j pc = some (.if_icmp .eq off, len, inf)) (hM : lk_mt[j]? = some M) (H : (x = y → A) ∧ (¬ x = y → B)) (k1 : A → lk_wp X d j inf.1 lo r h Q) (k2 : B → lk_wp X d j (pc + 3) lo r h Q) : lk_wp X d j pc lo (.int y :: .int x :: r) h Q := by
  by_cases hc : x = y
  · exact lk_wp_step (q := (inf.1, lo, r, h)) hi hM rfl (lk_cal0 rfl) (by simp only [lk_st1, lk_if]; exact if_pos hc) (k1 (H.1 hc))
  · exact lk_wp_step (q := (pc + 3, lo, r, h)) hi hM rfl (lk_cal0 rfl) (by simp only [lk_st1, lk_if]; exact if_neg hc) (k2 (H.2 hc))
theorem lk_wp_ic_ne {x y : Int32} {off : Int} {A B : Prop} (hi : lk_ins j pc = some (.if_icmp .ne off, len, inf)) (hM : lk_mt[j]? = some M) (H : (¬ x = y → A) ∧ (x = y → B)) (k1 : A → lk_wp X d j inf.1 lo r h Q) (k2 : B → lk_wp X d j (pc + 3) lo r h Q) : lk_wp X d j pc lo (.int y :: .int x :: r) h Q := by
  by_cases hc : x = y
  · exact lk_wp_step (q := (pc + 3, lo, r, h)) hi hM rfl (lk_cal0 rfl) (by simp only [lk_st1, lk_if]; exact if_neg (fun q => q hc)) (k2 (H.2 hc))
  · exact lk_wp_step (q := (inf.1, lo, r, h)) hi hM rfl (lk_cal0 rfl) (by simp only [lk_st1, lk_if]; exact if_pos hc) (k1 (H.1 hc))
theorem lk_wp_ic_lt {x y : Int32} {off : Int} {A B : Prop} (hi : lk_ins j pc = some (.if_icmp .lt off, len, inf)) (hM : lk_mt[j]? = some M) (H : (x < y → A) ∧ (¬ x < y → B)) (k1 : A → lk_wp X d j inf.1 lo r h Q) (k2 : B → lk_wp X d j (pc + 3) lo r h Q) : lk_wp X d j pc lo (.int y :: .int x :: r) h Q := by
  by_cases hc : x < y
  · exact lk_wp_step (q := (inf.1, lo, r, h)) hi hM rfl (lk_cal0 rfl) (by simp only [lk_st1, lk_if]; exact if_pos hc) (k1 (H.1 hc))
  · exact lk_wp_step (q := (pc + 3, lo, r, h)) hi hM rfl (lk_cal0 rfl) (by simp only [lk_st1, lk_if]; exact if_neg hc) (k2 (H.2 hc))
theorem lk_wp_ic_ge {x y : Int32} {off : Int} {A B : Prop} (hi : lk_ins j pc = some (.if_icmp .ge off, len, inf)) (hM : lk_mt[j]? = some M) (H : (y ≤ x → A) ∧ (¬ y ≤ x → B)) (k1 : A → lk_wp X d j inf.1 lo r h Q) (k2 : B → lk_wp X d j (pc + 3) lo r h Q) : lk_wp X d j pc lo (.int y :: .int x :: r) h Q := by
  by_cases hc : y ≤ x
  · exact lk_wp_step (q := (inf.1, lo, r, h)) hi hM rfl (lk_cal0 rfl) (by simp only [lk_st1, lk_if]; exact if_pos hc) (k1 (H.1 hc))
  · exact lk_wp_step (q := (pc + 3, lo, r, h)) hi hM rfl (lk_cal0 rfl) (by simp only [lk_st1, lk_if]; exact if_neg hc) (k2 (H.2 hc))
theorem lk_wp_ic_gt {x y : Int32} {off : Int} {A B : Prop} (hi : lk_ins j pc = some (.if_icmp .gt off, len, inf)) (hM : lk_mt[j]? = some M) (H : (y < x → A) ∧ (¬ y < x → B)) (k1 : A → lk_wp X d j inf.1 lo r h Q) (k2 : B → lk_wp X d j (pc + 3) lo r h Q) : lk_wp X d j pc lo (.int y :: .int x :: r) h Q := by
  by_cases hc : y < x
  · exact lk_wp_step (q := (inf.1, lo, r, h)) hi hM rfl (lk_cal0 rfl) (by simp only [lk_st1, lk_if]; exact if_pos hc) (k1 (H.1 hc))
  · exact lk_wp_step (q := (pc + 3, lo, r, h)) hi hM rfl (lk_cal0 rfl) (by simp only [lk_st1, lk_if]; exact if_neg hc) (k2 (H.2 hc))
theorem lk_wp_ic_le {x y : Int32} {off : Int} {A B : Prop} (hi : lk_ins j pc = some (.if_icmp .le off, len, inf)) (hM : lk_mt[j]? = some M) (H : (x ≤ y → A) ∧ (¬ x ≤ y → B)) (k1 : A → lk_wp X d j inf.1 lo r h Q) (k2 : B → lk_wp X d j (pc + 3) lo r h Q) : lk_wp X d j pc lo (.int y :: .int x :: r) h Q := by
  by_cases hc : x ≤ y
  · exact lk_wp_step (q := (inf.1, lo, r, h)) hi hM rfl (lk_cal0 rfl) (by simp only [lk_st1, lk_if]; exact if_pos hc) (k1 (H.1 hc))
  · exact lk_wp_step (q := (pc + 3, lo, r, h)) hi hM rfl (lk_cal0 rfl) (by simp only [lk_st1, lk_if]; exact if_neg hc) (k2 (H.2 hc))
def lk_fI (h : lk_H) (a k : Nat) (cs : List (Nat × Nat)) (K : Int32 → Prop) : Prop := ∃ c fs x, h[a]? = some (.inr (c, fs)) ∧ lk_has cs c = true ∧ fs[k]? = some (.int x) ∧ K x
def lk_fR (h : lk_H) (a k : Nat) (cs : List (Nat × Nat)) (K : Nat → Prop) : Prop := ∃ c fs x, h[a]? = some (.inr (c, fs)) ∧ lk_has cs c = true ∧ fs[k]? = some (.ref x) ∧ K x
def lk_pf (h : lk_H) (a k : Nat) (cs : List (Nat × Nat)) (v : Value) (K : lk_H → Prop) : Prop := ∃ c fs, h[a]? = some (.inr (c, fs)) ∧ lk_has cs c = true ∧ lk_fit ((lk_tyl[c]?).map (fun t => t k)) v = true ∧ k < fs.length ∧ K (h.set a (.inr (c, fs.set k v)))
def lk_ai (h : lk_H) (a : Nat) (i : Int32) (K : Int32 → Prop) : Prop := ∃ n f, h[a]? = some (.inl (0, (n, .inl f))) ∧ vp_in i n ∧ K (f i.toNatClampNeg)
def lk_as (h : lk_H) (a : Nat) (i v : Int32) (K : lk_H → Prop) : Prop := ∃ n f, h[a]? = some (.inl (0, (n, .inl f))) ∧ vp_in i n ∧ K (h.set a (.inl (0, (n, .inl (upd f i.toNatClampNeg v)))))
def lk_zi (h : lk_H) (a : Nat) (i : Int32) (K : Int32 → Prop) : Prop := ∃ n f, h[a]? = some (.inl (1, (n, .inl f))) ∧ vp_in i n ∧ K (f i.toNatClampNeg)
def lk_zs (h : lk_H) (a : Nat) (i v : Int32) (K : lk_H → Prop) : Prop := ∃ n f, h[a]? = some (.inl (1, (n, .inl f))) ∧ vp_in i n ∧ K (h.set a (.inl (1, (n, .inl (upd f i.toNatClampNeg (vp_nar .boolean v))))))
def lk_ra (h : lk_H) (a : Nat) (i : Int32) (A : Prop) (B : Nat → Prop) : Prop := ∃ t n f, h[a]? = some (.inl (t, (n, .inr (.inr (.inr (.inr f)))))) ∧ vp_in i n ∧ 2 ≤ t ∧ t ≤ 4 ∧ (f i.toNatClampNeg = none → A) ∧ ∀ x, f i.toNatClampNeg = some x → B x
def lk_rs (h : lk_H) (a : Nat) (i : Int32) (v : Nat) (K : lk_H → Prop) : Prop := ∃ t n f c fs, h[a]? = some (.inl (t, (n, .inr (.inr (.inr (.inr f)))))) ∧ vp_in i n ∧ h[v]? = some (.inr (c, fs)) ∧ lk_cm t c = true ∧ K (h.set a (.inl (t, (n, .inr (.inr (.inr (.inr (va_up f i.toNatClampNeg (some v)))))))))
def lk_rn (h : lk_H) (a : Nat) (i : Int32) (K : lk_H → Prop) : Prop := ∃ t n f, h[a]? = some (.inl (t, (n, .inr (.inr (.inr (.inr f)))))) ∧ vp_in i n ∧ 2 ≤ t ∧ t ≤ 4 ∧ K (h.set a (.inl (t, (n, .inr (.inr (.inr (.inr (va_up f i.toNatClampNeg none))))))))
def lk_al2 (h : lk_H) (a : Nat) (K : Int32 → Prop) : Prop := ∃ t x, h[a]? = some (.inl (t, x)) ∧ t ≤ 4 ∧ K (Int32.ofNat x.1)
def lk_io (h : lk_H) (a : Nat) (cs : List (Nat × Nat)) (K1 K0 : Prop) : Prop := ∃ c fs, h[a]? = some (.inr (c, fs)) ∧ (lk_find cs c = some 1 ∧ K1 ∨ lk_find cs c = some 0 ∧ K0)
def lk_cc (h : lk_H) (a : Nat) (cs : List (Nat × Nat)) (K : Prop) : Prop := ∃ c fs, h[a]? = some (.inr (c, fs)) ∧ lk_find cs c = some 1 ∧ K
def lk_nw (n : Int32) (K : Prop) : Prop := ¬ (n < 0 ∨ 65536 < n.toNatClampNeg) ∧ K
def lk_ac (h : lk_H) (a0 : Nat) (sp : Int32) (a1 : Nat) (dp n : Int32) (K : lk_H → Prop) : Prop := ∃ n0 f n1 g, h[a0]? = some (.inl (0, (n0, .inl f))) ∧ h[a1]? = some (.inl (0, (n1, .inl g))) ∧ ¬ (sp < 0 ∨ dp < 0 ∨ n < 0 ∨ n0 < sp.toNatClampNeg + n.toNatClampNeg ∨ n1 < dp.toNatClampNeg + n.toNatClampNeg) ∧ K (h.set a1 (.inl (0, (n1, .inl (va_cpy f g sp.toNatClampNeg dp.toNatClampNeg n.toNatClampNeg)))))
def lk_wxi (X : lk_X) (d k : Nat) (as : List Value) (h : lk_H) (K : Int32 → lk_H → Prop) : Prop := lk_wx X d k as h (fun v h1 => ∃ x, v = some (.int x) ∧ K x h1)
def lk_wxv (X : lk_X) (d k : Nat) (as : List Value) (h : lk_H) (K : lk_H → Prop) : Prop := lk_wx X d k as h (fun v h1 => v = none ∧ K h1)
def lk_wxr (X : lk_X) (d k : Nat) (as : List Value) (h : lk_H) (A : lk_H → Prop) (B : Nat → lk_H → Prop) : Prop := lk_wx X d k as h (fun v h1 => (v = some .null ∧ A h1) ∨ ∃ x, v = some (.ref x) ∧ B x h1)
/-- the method that a call selects on the object -/
def lk_vc (h : lk_H) (a : Nat) (l : List (Nat × Nat)) (K : Nat → Prop) : Prop := ∃ c fs k, h[a]? = some (.inr (c, fs)) ∧ lk_find l c = some k ∧ K k
def lk_ob (h : lk_H) (a : Nat) (K : Prop) : Prop := (∃ o, h[a]? = some (.inr o)) ∧ K
theorem lk_wp_fI {a : Nat} {idx : Nat} {K : Int32 → Prop} (hi : lk_ins j pc = some (.getfield idx, len, inf)) (hM : lk_mt[j]? = some M) (H : lk_fI h a inf.1 inf.2.1 K) (kk : ∀ x, K x → lk_wp X d j (pc + 3) lo (.int x :: r) h Q) : lk_wp X d j pc lo (.ref a :: r) h Q := by
  obtain ⟨c, fs, x, h1, h2, h3, h4⟩ := H
  exact lk_wp_step (q := (pc + 3, lo, .int x :: r, h)) hi hM rfl (lk_cal0 rfl) (by simp only [lk_st1, lk_getf, h1]; rw [if_pos h2, h3]; rfl) (kk x h4)
theorem lk_wp_fR {a : Nat} {idx : Nat} {K : Nat → Prop} (hi : lk_ins j pc = some (.getfield idx, len, inf)) (hM : lk_mt[j]? = some M) (H : lk_fR h a inf.1 inf.2.1 K) (kk : ∀ x, K x → lk_wp X d j (pc + 3) lo (.ref x :: r) h Q) : lk_wp X d j pc lo (.ref a :: r) h Q := by
  obtain ⟨c, fs, x, h1, h2, h3, h4⟩ := H
  exact lk_wp_step (q := (pc + 3, lo, .ref x :: r, h)) hi hM rfl (lk_cal0 rfl) (by simp only [lk_st1, lk_getf, h1]; rw [if_pos h2, h3]; rfl) (kk x h4)
theorem lk_wp_pf {a : Nat} {idx : Nat} {v : Value} {K : lk_H → Prop} (hi : lk_ins j pc = some (.putfield idx, len, inf)) (hM : lk_mt[j]? = some M) (H : lk_pf h a inf.1 inf.2.1 v K) (kk : ∀ h, K h → lk_wp X d j (pc + 3) lo r h Q) : lk_wp X d j pc lo (v :: .ref a :: r) h Q := by
  obtain ⟨c, fs, h1, h2, h3, h4, h5⟩ := H
  exact lk_wp_step (q := (pc + 3, lo, r, h.set a (.inr (c, fs.set inf.1 v)))) hi hM rfl (lk_cal0 rfl) (by simp only [lk_st1, lk_putf, h1]; rw [if_pos h2, if_pos h3, if_pos h4]) (kk _ h5)
theorem lk_wp_ai {a : Nat} {i : Int32} {K : Int32 → Prop} (hi : lk_ins j pc = some (.iaload, len, inf)) (hM : lk_mt[j]? = some M) (H : lk_ai h a i K) (kk : ∀ x, K x → lk_wp X d j (pc + 1) lo (.int x :: r) h Q) : lk_wp X d j pc lo (.int i :: .ref a :: r) h Q := by
  obtain ⟨n, f, h1, h2, h3⟩ := H
  exact lk_wp_step (q := (pc + 1, lo, .int (f i.toNatClampNeg) :: r, h)) hi hM rfl (lk_cal0 rfl) (by simp only [lk_st1, lk_aldi, h1]; exact if_neg h2) (kk _ h3)
theorem lk_wp_zi {a : Nat} {i : Int32} {K : Int32 → Prop} (hi : lk_ins j pc = some (.baload, len, inf)) (hM : lk_mt[j]? = some M) (H : lk_zi h a i K) (kk : ∀ x, K x → lk_wp X d j (pc + 1) lo (.int x :: r) h Q) : lk_wp X d j pc lo (.int i :: .ref a :: r) h Q := by
  obtain ⟨n, f, h1, h2, h3⟩ := H
  exact lk_wp_step (q := (pc + 1, lo, .int (f i.toNatClampNeg) :: r, h)) hi hM rfl (lk_cal0 rfl) (by simp only [lk_st1, lk_aldz, h1]; exact if_neg h2) (kk _ h3)
theorem lk_wp_sai {k : Nat} {i : Int32} {K : Prop} (hi : lk_ins j pc = some (.iaload, len, inf)) (hM : lk_mt[j]? = some M) (H : vp_in i X.1 ∧ K) (kk : K → lk_wp X d j (pc + 1) lo (.int (X.2 i.toNatClampNeg) :: r) h Q) : lk_wp X d j pc lo (.int i :: .retAddr k :: r) h Q := by
  exact lk_wp_step (q := (pc + 1, lo, .int (X.2 i.toNatClampNeg) :: r, h)) hi hM rfl (lk_cal0 rfl) (by simp only [lk_st1, lk_aldi]; exact if_neg H.1) (kk H.2)
theorem lk_wp_as {a : Nat} {i x : Int32} {K : lk_H → Prop} (hi : lk_ins j pc = some (.iastore, len, inf)) (hM : lk_mt[j]? = some M) (H : lk_as h a i x K) (kk : ∀ h, K h → lk_wp X d j (pc + 1) lo r h Q) : lk_wp X d j pc lo (.int x :: .int i :: .ref a :: r) h Q := by
  obtain ⟨n, f, h1, h2, h3⟩ := H
  exact lk_wp_step (q := (pc + 1, lo, r, h.set a (.inl (0, (n, .inl (upd f i.toNatClampNeg x)))))) hi hM rfl (lk_cal0 rfl) (by simp only [lk_st1, lk_asti, h1]; exact if_neg h2) (kk _ h3)
theorem lk_wp_zs {a : Nat} {i x : Int32} {K : lk_H → Prop} (hi : lk_ins j pc = some (.bastore, len, inf)) (hM : lk_mt[j]? = some M) (H : lk_zs h a i x K) (kk : ∀ h, K h → lk_wp X d j (pc + 1) lo r h Q) : lk_wp X d j pc lo (.int x :: .int i :: .ref a :: r) h Q := by
  obtain ⟨n, f, h1, h2, h3⟩ := H
  exact lk_wp_step (q := (pc + 1, lo, r, h.set a (.inl (1, (n, .inl (upd f i.toNatClampNeg (vp_nar .boolean x))))))) hi hM rfl (lk_cal0 rfl) (by simp only [lk_st1, lk_astz, h1]; exact if_neg h2) (kk _ h3)
theorem lk_wp_ra {a : Nat} {i : Int32} {A : Prop} {B : Nat → Prop} (hi : lk_ins j pc = some (.aaload, len, inf)) (hM : lk_mt[j]? = some M) (H : lk_ra h a i A B) (kk : (A → lk_wp X d j (pc + 1) lo (.null :: r) h Q) ∧ ∀ x, B x → lk_wp X d j (pc + 1) lo (.ref x :: r) h Q) : lk_wp X d j pc lo (.int i :: .ref a :: r) h Q := by
  obtain ⟨t, n, f, h1, h2, h3, h4, h5, h6⟩ := H
  cases hf : f i.toNatClampNeg with
  | none => exact lk_wp_step (q := (pc + 1, lo, .null :: r, h)) hi hM rfl (lk_cal0 rfl) (by simp only [lk_st1, lk_alda, h1]; rw [if_neg h2, if_pos ⟨h3, h4⟩, hf]; rfl) (kk.1 (h5 hf))
  | some x => exact lk_wp_step (q := (pc + 1, lo, .ref x :: r, h)) hi hM rfl (lk_cal0 rfl) (by simp only [lk_st1, lk_alda, h1]; rw [if_neg h2, if_pos ⟨h3, h4⟩, hf]; rfl) (kk.2 x (h6 x hf))
theorem lk_wp_rs {a v : Nat} {i : Int32} {K : lk_H → Prop} (hi : lk_ins j pc = some (.aastore, len, inf)) (hM : lk_mt[j]? = some M) (H : lk_rs h a i v K) (kk : ∀ h, K h → lk_wp X d j (pc + 1) lo r h Q) : lk_wp X d j pc lo (.ref v :: .int i :: .ref a :: r) h Q := by
  obtain ⟨t, n, f, c, fs, h1, h2, h3, h4, h5⟩ := H
  exact lk_wp_step (q := (pc + 1, lo, r, h.set a (.inl (t, (n, .inr (.inr (.inr (.inr (va_up f i.toNatClampNeg (some v)))))))))) hi hM rfl (lk_cal0 rfl) (by simp only [lk_st1, lk_asta, h1]; rw [if_neg h2]; simp only [h3]; exact if_pos h4) (kk _ h5)
theorem lk_wp_rn {a : Nat} {i : Int32} {K : lk_H → Prop} (hi : lk_ins j pc = some (.aastore, len, inf)) (hM : lk_mt[j]? = some M) (H : lk_rn h a i K) (kk : ∀ h, K h → lk_wp X d j (pc + 1) lo r h Q) : lk_wp X d j pc lo (.null :: .int i :: .ref a :: r) h Q := by
  obtain ⟨t, n, f, h1, h2, h3, h4, h5⟩ := H
  exact lk_wp_step (q := (pc + 1, lo, r, h.set a (.inl (t, (n, .inr (.inr (.inr (.inr (va_up f i.toNatClampNeg none))))))))) hi hM rfl (lk_cal0 rfl) (by simp only [lk_st1, lk_asta, h1]; rw [if_neg h2]; exact if_pos ⟨h3, h4⟩) (kk _ h5)
theorem lk_wp_al {a : Nat} {K : Int32 → Prop} (hi : lk_ins j pc = some (.arraylength, len, inf)) (hM : lk_mt[j]? = some M) (H : lk_al2 h a K) (kk : ∀ x, K x → lk_wp X d j (pc + 1) lo (.int x :: r) h Q) : lk_wp X d j pc lo (.ref a :: r) h Q := by
  obtain ⟨t, x, h1, h2, h3⟩ := H
  exact lk_wp_step (q := (pc + 1, lo, .int (Int32.ofNat x.1) :: r, h)) hi hM rfl (lk_cal0 rfl) (by simp only [lk_st1, lk_len, h1]; exact if_pos h2) (kk _ h3)
theorem lk_wp_sal {k : Nat} {K : Prop} (hi : lk_ins j pc = some (.arraylength, len, inf)) (hM : lk_mt[j]? = some M) (H : K) (kk : K → lk_wp X d j (pc + 1) lo (.int (Int32.ofNat X.1) :: r) h Q) : lk_wp X d j pc lo (.retAddr k :: r) h Q := by
  exact lk_wp_step (q := (pc + 1, lo, .int (Int32.ofNat X.1) :: r, h)) hi hM rfl (lk_cal0 rfl) rfl (kk H)
theorem lk_wp_io {a : Nat} {idx : Nat} {A B : Prop} (hi : lk_ins j pc = some (.instanceof idx, len, inf)) (hM : lk_mt[j]? = some M) (H : lk_io h a inf.2.1 A B) (kk : (A → lk_wp X d j (pc + 3) lo (.int 1 :: r) h Q) ∧ (B → lk_wp X d j (pc + 3) lo (.int 0 :: r) h Q)) : lk_wp X d j pc lo (.ref a :: r) h Q := by
  obtain ⟨c, fs, h1, ⟨h2, h3⟩ | ⟨h2, h3⟩⟩ := H
  · exact lk_wp_step (q := (pc + 3, lo, .int 1 :: r, h)) hi hM rfl (lk_cal0 rfl) (by simp only [lk_st1, lk_inst, h1, h2]) (kk.1 h3)
  · exact lk_wp_step (q := (pc + 3, lo, .int 0 :: r, h)) hi hM rfl (lk_cal0 rfl) (by simp only [lk_st1, lk_inst, h1, h2]) (kk.2 h3)
theorem lk_wp_cc {a : Nat} {idx : Nat} {A : Prop} (hi : lk_ins j pc = some (.checkcast idx, len, inf)) (hM : lk_mt[j]? = some M) (H : lk_cc h a inf.2.1 A) (kk : A → lk_wp X d j (pc + 3) lo (.ref a :: r) h Q) : lk_wp X d j pc lo (.ref a :: r) h Q := by
  obtain ⟨c, fs, h1, h2, h3⟩ := H
  exact lk_wp_step (q := (pc + 3, lo, .ref a :: r, h)) hi hM rfl (lk_cal0 rfl) (by simp only [lk_st1, lk_cast, h1, h2]) (kk h3)
theorem lk_wp_div {x y : Int32} {A : Prop} (hi : lk_ins j pc = some (.idiv, len, inf)) (hM : lk_mt[j]? = some M) (H : ¬ y = 0 ∧ A) (kk : A → lk_wp X d j (pc + 1) lo (.int (x / y) :: r) h Q) : lk_wp X d j pc lo (.int y :: .int x :: r) h Q := by
  exact lk_wp_step (q := (pc + 1, lo, .int (x / y) :: r, h)) hi hM rfl (lk_cal0 rfl) (by simp only [lk_st1, lk_ii]; rw [if_neg H.1]; rfl) (kk H.2)
theorem lk_wp_rem {x y : Int32} {A : Prop} (hi : lk_ins j pc = some (.irem, len, inf)) (hM : lk_mt[j]? = some M) (H : ¬ y = 0 ∧ A) (kk : A → lk_wp X d j (pc + 1) lo (.int (x - x / y * y) :: r) h Q) : lk_wp X d j pc lo (.int y :: .int x :: r) h Q := by
  exact lk_wp_step (q := (pc + 1, lo, .int (x - x / y * y) :: r, h)) hi hM rfl (lk_cal0 rfl) (by simp only [lk_st1, lk_ii]; rw [if_neg H.1]; rfl) (kk H.2)
theorem lk_wp_new_int {n : Int32} {A : Prop} (hi : lk_ins j pc = some (.newarray .int, len, inf)) (hM : lk_mt[j]? = some M) (H : lk_nw n A) (kk : A → lk_wp X d j (pc + 2) lo (.ref h.length :: r) (h ++ [.inl (0, (n.toNatClampNeg, .inl (fun _ => 0)))]) Q) : lk_wp X d j pc lo (.int n :: r) h Q := by
  exact lk_wp_step (q := (pc + 2, lo, .ref h.length :: r, h ++ [.inl (0, (n.toNatClampNeg, .inl (fun _ => 0)))])) hi hM rfl (lk_cal0 rfl) (by simp only [lk_st1, lk_newa]; exact if_neg H.1) (kk H.2)
theorem lk_wp_new_bool {n : Int32} {A : Prop} (hi : lk_ins j pc = some (.newarray .boolean, len, inf)) (hM : lk_mt[j]? = some M) (H : lk_nw n A) (kk : A → lk_wp X d j (pc + 2) lo (.ref h.length :: r) (h ++ [.inl (1, (n.toNatClampNeg, .inl (fun _ => 0)))]) Q) : lk_wp X d j pc lo (.int n :: r) h Q := by
  exact lk_wp_step (q := (pc + 2, lo, .ref h.length :: r, h ++ [.inl (1, (n.toNatClampNeg, .inl (fun _ => 0)))])) hi hM rfl (lk_cal0 rfl) (by simp only [lk_st1, lk_newa]; exact if_neg H.1) (kk H.2)
theorem lk_wp_newq {n : Int32} {idx : Nat} {A : Prop} (hi : lk_ins j pc = some (.anewarray idx, len, inf)) (hM : lk_mt[j]? = some M) (H : (2 ≤ inf.1 ∧ inf.1 ≤ 4) ∧ lk_nw n A) (kk : A → lk_wp X d j (pc + 3) lo (.ref h.length :: r) (h ++ [.inl (inf.1, (n.toNatClampNeg, .inr (.inr (.inr (.inr (fun _ => none))))))]) Q) : lk_wp X d j pc lo (.int n :: r) h Q := by
  exact lk_wp_step (q := (pc + 3, lo, .ref h.length :: r, h ++ [.inl (inf.1, (n.toNatClampNeg, .inr (.inr (.inr (.inr (fun _ => none))))))])) hi hM rfl (lk_cal0 rfl) (by simp only [lk_st1, lk_newq]; rw [if_neg H.2.1]; exact if_pos H.1) (kk H.2.2)
theorem lk_wp_new {idx : Nat} {fs : List Value} (hi : lk_ins j pc = some (.new idx, len, inf)) (hM : lk_mt[j]? = some M) (hf : lk_df[inf.1]? = some fs) (kk : lk_wp X d j (pc + 3) lo (.ref h.length :: r) (h ++ [.inr (inf.1, fs)]) Q) : lk_wp X d j pc lo r h Q := by
  exact lk_wp_step (q := (pc + 3, lo, .ref h.length :: r, h ++ [.inr (inf.1, fs)])) hi hM rfl (lk_cal0 rfl) (by simp only [lk_st1, lk_new, hf]) kk
theorem lk_wp_sw {x : Int32} {dd lw hh : Int} {offs : Array Int} (hi : lk_ins j pc = some (.tableswitch dd lw hh offs, len, inf)) (hM : lk_mt[j]? = some M) (kk : lk_wp X d j (lk_sw inf.2.1 inf.1 x) lo r h Q) : lk_wp X d j pc lo (.int x :: r) h Q := lk_wp_step (q := (lk_sw inf.2.1 inf.1 x, lo, r, h)) hi hM rfl (lk_cal0 rfl) rfl kk
theorem lk_wp_ls {x : Int32} {dd : Int} {ps : Array (Int × Int)} (hi : lk_ins j pc = some (.lookupswitch dd ps, len, inf)) (hM : lk_mt[j]? = some M) (kk : lk_wp X d j (lk_sw inf.2.1 inf.1 x) lo r h Q) : lk_wp X d j pc lo (.int x :: r) h Q := lk_wp_step (q := (lk_sw inf.2.1 inf.1 x, lo, r, h)) hi hM rfl (lk_cal0 rfl) rfl kk
theorem lk_wp_swc {x : Int32} {v t dd : Nat} {l : List (Nat × Nat)} {A B : Prop} (H : (x = Int32.ofNat v → A) ∧ (¬ x = Int32.ofNat v → B)) (k1 : A → lk_wp X d j t lo r h Q) (k2 : B → lk_wp X d j (lk_sw l dd x) lo r h Q) : lk_wp X d j (lk_sw ((v, t) :: l) dd x) lo r h Q := by
  simp only [lk_sw]
  by_cases hc : x = Int32.ofNat v
  · rw [if_pos hc]; exact k1 (H.1 hc)
  · rw [if_neg hc]; exact k2 (H.2 hc)
theorem lk_cap {xi : Nat} {Y : MethodName × String × Nat × Nat} {idx : Nat} {st : List Value} (h1 : inf.2.2 = .null) : lk_callee (.invokestatic idx) inf st h = none := by
  unfold lk_callee
  rw [h1]
theorem lk_wp_max {x y : Int32} {idx : Nat} (hi : lk_ins j pc = some (.invokestatic idx, len, inf)) (hM : lk_mt[j]? = some M) (h1 : inf.1 = 102) (h2 : inf.2.2 = .null) (hc : (r.map fun v => v.category).sum ≤ 8) (kk : lk_wp X d j (pc + 3) lo (.int (if x < y then y else x) :: r) h Q) : lk_wp X d j pc lo (.int y :: .int x :: r) h Q := lk_wp_step (q := (pc + 3, lo, .int (if x < y then y else x) :: r, h)) hi hM rfl (by unfold lk_callee; rw [h2]) (by simp only [lk_st1, lk_mm]; rw [if_neg (by omega), if_pos hc, if_pos h1]) kk
theorem lk_wp_min {x y : Int32} {idx : Nat} (hi : lk_ins j pc = some (.invokestatic idx, len, inf)) (hM : lk_mt[j]? = some M) (h1 : inf.1 = 103) (h2 : inf.2.2 = .null) (hc : (r.map fun v => v.category).sum ≤ 8) (kk : lk_wp X d j (pc + 3) lo (.int (if y < x then y else x) :: r) h Q) : lk_wp X d j pc lo (.int y :: .int x :: r) h Q := lk_wp_step (q := (pc + 3, lo, .int (if y < x then y else x) :: r, h)) hi hM rfl (by unfold lk_callee; rw [h2]) (by simp only [lk_st1, lk_mm]; rw [if_neg (by omega), if_pos hc, if_neg (by omega), if_pos h1]) kk
theorem lk_wp_ac {n dp sp : Int32} {a0 a1 idx : Nat} {K : lk_H → Prop} (hi : lk_ins j pc = some (.invokestatic idx, len, inf)) (hM : lk_mt[j]? = some M) (h1 : inf.1 = 101) (h2 : inf.2.2 = .null) (hc : (r.map fun v => v.category).sum ≤ 8) (H : lk_ac h a0 sp a1 dp n K) (kk : ∀ h, K h → lk_wp X d j (pc + 3) lo r h Q) : lk_wp X d j pc lo (.int n :: .int dp :: .ref a1 :: .int sp :: .ref a0 :: r) h Q := by
  obtain ⟨n0, f, n1, g, e1, e2, e3, e4⟩ := H
  exact lk_wp_step (q := (pc + 3, lo, r, h.set a1 (.inl (0, (n1, .inl (va_cpy f g sp.toNatClampNeg dp.toNatClampNeg n.toNatClampNeg)))))) hi hM rfl (by unfold lk_callee; rw [h2]) (by simp only [lk_st1, lk_cpy, h1, if_true]; rw [if_pos hc]; simp only [e1, e2]; exact if_neg e3) (kk _ e4)
/-! calls -/
theorem lk_wp_cs {idx xi k q0 : Nat} {Y : MethodName × String × Nat × Nat} {qs : List (Nat × Nat)} {as st : List Value} (hi : lk_ins j pc = some (.invokestatic idx, len, inf)) (hM : lk_mt[j]? = some M) (h1 : inf.2.2 = .ref xi) (h2 : lk_xn[xi]? = some Y) (h3 : inf.2.1 = (q0, k) :: qs) (h4 : lk_pop Y.2.2.1 [] st = some (as, r)) (hc : (r.map fun v => v.category).sum ≤ 8)
    (kk : lk_wx X d k as h (fun v h1 => lk_wp X (d + 1) j (pc + 3) lo (v.toList ++ r) h1 Q)) : lk_wp X (d + 1) j pc lo st h Q := by
  refine lk_wp_call (k := k) (as := as) (rest := r) hi hM rfl ?_ hc kk
  unfold lk_callee
  rw [h1]; dsimp only
  rw [h2]; dsimp only
  rw [h3]; dsimp only
  rw [h4]; rfl
theorem lk_wp_cv {idx xi a : Nat} {Y : MethodName × String × Nat × Nat} {as st : List Value} {K : Nat → Prop} (hi : lk_ins j pc = some (.invokevirtual idx, len, inf)) (hM : lk_mt[j]? = some M) (h1 : inf.2.2 = .ref xi) (h2 : lk_xn[xi]? = some Y) (h4 : lk_pop Y.2.2.1 [] st = some (as, .ref a :: r)) (hc : (r.map fun v => v.category).sum ≤ 8)
    (H : lk_vc h a inf.2.1 K) (kk : ∀ k, K k → lk_wx X d k (.ref a :: as) h (fun v h1 => lk_wp X (d + 1) j (pc + 3) lo (v.toList ++ r) h1 Q)) : lk_wp X (d + 1) j pc lo st h Q := by
  obtain ⟨c, fs, k, e1, e2, e3⟩ := H
  refine lk_wp_call (k := k) (as := .ref a :: as) (rest := r) hi hM rfl ?_ hc (kk k e3)
  unfold lk_callee
  rw [h1]; dsimp only
  rw [h2]; dsimp only
  rw [h4]; dsimp only
  rw [e1]; dsimp only
  rw [e2]; rfl
theorem lk_wp_cp {idx xi a k q0 : Nat} {Y : MethodName × String × Nat × Nat} {qs : List (Nat × Nat)} {as st : List Value} {K : Prop} (hi : lk_ins j pc = some (.invokespecial idx, len, inf)) (hM : lk_mt[j]? = some M) (h1 : inf.2.2 = .ref xi) (h2 : lk_xn[xi]? = some Y) (h3 : inf.2.1 = (q0, k) :: qs) (h4 : lk_pop Y.2.2.1 [] st = some (as, .ref a :: r)) (hc : (r.map fun v => v.category).sum ≤ 8)
    (H : lk_ob h a K) (kk : K → lk_wx X d k (.ref a :: as) h (fun v h1 => lk_wp X (d + 1) j (pc + 3) lo (v.toList ++ r) h1 Q)) : lk_wp X (d + 1) j pc lo st h Q := by
  obtain ⟨⟨o, e1⟩, e3⟩ := H
  refine lk_wp_call (k := k) (as := .ref a :: as) (rest := r) hi hM rfl ?_ hc (kk e3)
  unfold lk_callee
  rw [h1]; dsimp only
  rw [h2]; dsimp only
  rw [h4]; dsimp only
  rw [h3]; dsimp only
  rw [e1]
theorem lk_gi {k : Nat} {as : List Value} {K : Int32 → lk_H → Prop} {P : Option Value → lk_H → Prop} (H : lk_wxi X d k as h K) (kk : ∀ x h, K x h → P (some (.int x)) h) : lk_wx X d k as h P := lk_wx.mono H (Nat.le_refl _) (fun v h hv => by obtain ⟨x, rfl, hk⟩ := hv; exact kk x h hk)
theorem lk_gv {k : Nat} {as : List Value} {K : lk_H → Prop} {P : Option Value → lk_H → Prop} (H : lk_wxv X d k as h K) (kk : ∀ h, K h → P none h) : lk_wx X d k as h P := lk_wx.mono H (Nat.le_refl _) (fun v h hv => by obtain ⟨rfl, hk⟩ := hv; exact kk h hk)
theorem lk_gr {k : Nat} {as : List Value} {A : lk_H → Prop} {B : Nat → lk_H → Prop} {P : Option Value → lk_H → Prop} (H : lk_wxr X d k as h A B) (k1 : ∀ h, A h → P (some .null) h) (k2 : ∀ x h, B x h → P (some (.ref x)) h) : lk_wx X d k as h P := lk_wx.mono H (Nat.le_refl _) (fun v h hv => by
  rcases hv with ⟨rfl, hk⟩ | ⟨x, rfl, hk⟩
  · exact k1 h hk
  · exact k2 x h hk)
/-- a method's entry -/
theorem lk_enter {k : Nat} {as lo : List Value} {K : lk_M} (hK : lk_mt[k]? = some K) (hl : lk_ent K.2.2.1 as = lo) (hx : (lk_ex as).length ≤ K.2.2.1) (kk : lk_wp X d k 0 lo [] h Q) : lk_wx X d k as h Q := ⟨K, hK, hx, by rw [hl]; exact kk⟩
end LKROWS
