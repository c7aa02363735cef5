/-! THE MACHINE FOLLOWS EVERY RUN of the small machine -/
section LKR
variable {p : Program} {l : Launch} {e : Env} {R : Room} {s : State} {m : MethodId} {args : Array Value} {below : List Frame} {meth : Method} {c : Code} {H : Heap} {locs : List Loc} {cells slots : Nat} {Q : State → Prop}
variable {HB : Heap} {z L : Nat} {xs : Nat → Int32} {dC : Nat → ClassId} {dI : Nat → Nat → Nat} {aC : Nat → ClassId} {cc : ByteArray} {own name : String}
variable {pc : Nat} {lo st : List Value} {h : lk_H} {ls : Array Slot} {inf : lk_I}
theorem lk_after {mc ms : Nat} {rest st0 : List Value} {a : Array Value} {w : Option Value} {h1 : lk_H} (hr : va_Run p l e R s m args below meth c H locs cells slots mc ms (F0 m pc ls st0) rest (lk_Q HB z dC dI aC w h1 a) (fun q => HB.size ≤ q)) (hS : va_S (fun q : Nat => HB.size ≤ q) HB H locs)
    (kk : ∀ (H' : Heap) (locs' : List Loc), lk_R HB z dC dI aC h1 H' locs' → W p l e R s m args below meth c H' locs' (cells + mc) (slots + ms) Q (F0 m (pc + 3) ls (w.toList.map (lk_sv HB.size z) ++ rest))) : W p l e R s m args below meth c H locs cells slots Q (F0 m pc ls st0) := by
  intro T hT X
  obtain ⟨v, st₀, t, T', L', h0, X', hL, e1, e2, ⟨hv, hP, hS1⟩, st⟩ := hr T hT X
  have hv2 : v = w.map (lk_sv HB.size z) := by cases hv; rfl
  subst hv2
  obtain ⟨t2, a1, b1⟩ := kk T'.heap (locs ++ L') ⟨by rw [e1]; exact hP, by rw [e1]; exact hS1.1, by rw [e1]; exact hS1.2.1, fun q hq => by
    rcases List.mem_append.mp hq with h | h
    · exact hS.2.2 q h
    · exact hL q h⟩ T' rfl X'
  refine ⟨t2, st t2 ?_, b1⟩
  cases w <;> exact a1
theorem lk_size (hR : lk_R HB z dC dI aC h H locs) (hle : H.size ≤ HB.size + h.length) : H.size = HB.size + h.length := by
  cases hh : h.length with
  | zero =>
    have := hR.2.1
    omega
  | succ k =>
    have hk : k < h.length := by omega
    have h1 := hR.1 k _ (lk_ws_at (List.getElem?_eq_getElem hk))
    have h2 := h1.lt
    dsimp only at h2
    omega
theorem lk_blind {as : List Value} : FrameBlind (va_Pc as (lk_B HB z L xs dC dI aC h)) := by
  intro a U g mk hq
  obtain ⟨e1, b1, b2, b3, b4, b5, b6, b7, b8⟩ := hq
  exact ⟨e1, b1, b2, b3, b4.vm (U := U.calling g mk a) rfl, va_K.moved (u := U) (U := U.calling g mk a) (Vm.Alike.refl U.vm) b5, lk_N.moved (s := U) (U := U.calling g mk a) b6 (Vm.Alike.refl U.vm), va_X.moved (u := U) (U := U.calling g mk a) (Vm.Alike.refl U.vm) b7, b8⟩
theorem lk_pre (hC : lk_C HB z L xs dC dI aC p s m meth c cc own name) (hR : lk_R HB z dC dI aC h H locs) (hsz : H.size = HB.size + h.length) (as : List Value) : ∀ U : State, U.heap = H → s.WarmedH U.vm → va_Pc as (lk_B HB z L xs dC dI aC h) as.toArray U := by
  obtain ⟨hx, hb, hown, hT, hK, hN, hX, hz, hnm⟩ := hC
  intro U hU hW
  refine ⟨rfl, by rw [hU]; exact hsz, by rw [hU]; exact hR.1, by rw [hU]; exact ⟨hR.2.1, hR.2.2.1, fun q hq => by cases hq⟩, hT.moved hW, va_K.moved hW.alike hK, hN.moved hW.alike, va_X.moved hW.alike hX, hz⟩
theorem lk_wc_mem {I : Instr} {xi : Nat} {X : MethodName × String × Nat × Nat} {q : Nat × Nat} {K : lk_M} (h1 : inf.2.2 = .ref xi) (h2 : lk_xn[xi]? = some X) (h3 : q ∈ inf.2.1) (h4 : lk_mt[q.2]? = some K) (hw : ∀ w ∈ lk_wc own I inf, w ∈ lk_tbl) (hs : lk_sc I inf = true) : (∀ w ∈ lk_wc1 own I inf X q K, w ∈ lk_tbl) ∧ lk_sc1 I inf X K = true := by
  constructor
  · intro w hw1
    apply hw
    unfold lk_wc
    rw [h1]
    dsimp only
    rw [h2]
    exact List.mem_flatMap.mpr ⟨q, h3, by rw [h4]; exact hw1⟩
  · unfold lk_sc at hs
    rw [h1] at hs
    dsimp only at hs
    rw [h2] at hs
    have := List.all_eq_true.mp hs q h3
    rw [h4] at this
    exact this
theorem lk_nMH_of {s : String} (h : lk_nMH s = true) : s ≠ "java/lang/invoke/MethodHandle" ∧ s ≠ "java/lang/invoke/VarHandle" := by
  unfold lk_nMH at h
  rw [Bool.and_eq_true] at h
  exact ⟨of_decide_eq_true h.1, of_decide_eq_true h.2⟩
theorem lk_sig {desc : String} {n : Nat} (h : (parseMethodDescriptor desc).map (fun d => d.parameters.length) = some n) : ∀ sig, parseMethodDescriptor desc = some sig → n = sig.parameters.length := by
  intro sig hs
  rw [hs] at h
  exact (Option.some.inj h).symm
/-- a call, by its kind -/
theorem lk_callrun {n d k : Nat} {I : Instr} {as rest : List Value} {K : lk_M} {w : Option Value} {h1 : lk_H} (hS : lk_Sd n) (hC : lk_C HB z L xs dC dI aC p s m meth c cc own name) (hR : lk_R HB z dC dI aC h H locs) (hl : lk_L HB.size z ls lo) (hn : c.maxLocals = lo.length) (hsz : H.size = HB.size + h.length)
    (hdg : decode cc pc = .ok (I, 3)) (hwc : ∀ w ∈ lk_wc own I inf, w ∈ lk_tbl) (hsc : lk_sc I inf = true) (hc : lk_callee I inf st h = some (k, as, rest)) (hcs : (rest.map fun v => v.category).sum ≤ 8) (hK : lk_mt[k]? = some K) (hex : (lk_ex as).length ≤ K.2.2.1)
    (he : lk_run (L, xs) n d k 0 (lk_ent K.2.2.1 as) [] h = some (w, h1)) (hcl : cells + (h1.length - h.length) ≤ R.cells) (hsl : slots + (lk_sz h1 - lk_sz h) ≤ R.slots) (hfr : d + 1 + 1 ≤ R.frames) (hlo : 64 * (d + 1 + 1) ≤ R.locals) :
    va_Run p l e R s m args below meth c H locs cells slots (h1.length - h.length) (lk_sz h1 - lk_sz h) (F0 m pc ls (st.map (lk_sv HB.size z))) (rest.map (lk_sv HB.size z)) (lk_Q HB z dC dI aC w h1 ((as.map (lk_sv HB.size z)).toArray)) (fun q => HB.size ≤ q) := by
  obtain ⟨hx, hb, hown, hT, hKK, hN, hX, hz, hnm⟩ := id hC
  unfold lk_callee at hc
  split at hc
  · rename_i xi hxi
    split at hc
    · rename_i X hX2
      have hroom := lv_room (m := m) (pc := pc) (ls := ls) (rest := st.map (lk_sv HB.size z)) (st := rest.map (lk_sv HB.size z)) (by rw [lk_catsum]; exact hcs)
      have hmv : ∀ {w0 : Cond}, w0 ∈ lk_tbl → lk_kd w0 = true → ∀ w1 ∈ [w0], ∀ (a' : Array Value) (U : State), s.WarmedH U.vm → w1.before a' U = true := by
        intro w0 h0 hk0 w1 hw1 a' U hW
        rw [List.mem_singleton.mp hw1]
        exact lk_mv hk0 hW (hT.use h0 hk0 args)
      split at hc
      · rename_i idx
        split at hc
        · rename_i q qs hq
          obtain ⟨⟨as1, r1⟩, hp, hq2⟩ := Option.map_eq_some_iff.mp hc
          cases hq2
          obtain ⟨bs, e1, e2, e3⟩ := lk_pop_inv _ _ _ _ _ hp
          rw [List.append_nil] at e1
          subst e1
          obtain ⟨hw, hs⟩ := lk_wc_mem hxi hX2 (by rw [hq]; exact List.mem_cons_self) hK hwc hsc
          simp only [lk_sc1, Bool.and_eq_true, decide_eq_true_eq] at hs
          obtain ⟨⟨⟨⟨⟨s1, s2⟩, s3⟩, s4⟩, s5⟩, s6⟩ := hs
          have hM := lk_met hS l (HB := HB) (z := z) (dC := dC) (dI := dI) (aC := aC) he hK hex s5
          refine va_runS (Ts := []) (n := as1.length) (As := as1.map (lk_sv HB.size z)) (rest := r1.map (lk_sv HB.size z)) ⟨hx, hb, hn.trans hl.1.symm, hown, fun w hw => by cases hw⟩ hM ⟨⟨rfl, rfl, hfr, by show 8 + (K.2.2.1 + 11) + 64 * (d + 1) ≤ R.locals; omega, hmv (hw _ (by simp [lk_wc1])) rfl, List.mem_cons_self, hT.use (hw _ (by simp [lk_wc1])) rfl args, hT.use (w := .initialized K.1.cls) (hw _ (by simp [lk_wc1])) rfl args, lk_nMH_of s1, ?_, hT.use (w := .methodLink own idx K.1) (hw _ (by simp [lk_wc1])) rfl args⟩, hT.use (w := .static K.1) (hw _ (by simp [lk_wc1])) rfl args⟩ ⟨lk_blind, lk_pre hC hR hsz _⟩ rfl (by simp) rfl ?_ hroom hdg ⟨hcl, hsl⟩
          · rw [s6]
            have := lk_sig s3
            rw [← e2] at this
            exact this
          · show st.map (lk_sv HB.size z) = _
            rw [e3, List.map_append, List.map_reverse]
        · cases hc
      · rename_i idx
        split at hc
        · rename_i as1 a r1 hp
          split at hc
          · rename_i ci fs ha
            obtain ⟨k1, hk1, hq2⟩ := Option.map_eq_some_iff.mp hc
            cases hq2
            obtain ⟨bs, e1, e2, e3⟩ := lk_pop_inv _ _ _ _ _ hp
            rw [List.append_nil] at e1
            subst e1
            have ha' := lk_ws_at (b := HB.size) (z := z) (aC := aC) ha
            obtain ⟨rc, hrc, -⟩ := hR.1 a _ ha'
            dsimp only [lk_se] at hrc
            have hrv := va_recv hKK hR.1 hrc ha'
            have hcn := lk_cn_of hrc
            obtain ⟨hw, hs⟩ := lk_wc_mem hxi hX2 (lk_find_inv hk1) hK hwc hsc
            simp only [lk_sc1, Bool.and_eq_true, decide_eq_true_eq] at hs
            obtain ⟨⟨⟨⟨⟨s1, s2⟩, s3⟩, s4⟩, s5⟩, s6⟩ := hs
            have hM := lk_met hS l (HB := HB) (z := z) (dC := dC) (dI := dI) (aC := aC) he hK hex s5
            rw [Bool.or_eq_true, Bool.and_eq_true, Bool.and_eq_true, decide_eq_true_eq, decide_eq_true_eq, decide_eq_true_eq] at s6
            have hstk : st.map (lk_sv HB.size z) = (as1.map (lk_sv HB.size z)).reverse ++ .ref (HB.size + a) :: rest.map (lk_sv HB.size z) := by
              rw [e3, List.map_append, List.map_reverse]; rfl
            rcases s6 with ⟨s6, s7⟩ | ⟨s6, s7⟩
            · simp only [lk_wc1, s6, if_true, hcn] at hw
              refine va_runV (Ts := []) (n := as1.length) (C := rc.1) (As := as1.map (lk_sv HB.size z)) ⟨hx, hb, hn.trans hl.1.symm, hown, fun w hw => by cases hw⟩ hM ⟨⟨rfl, rfl, hfr, by show 8 + (K.2.2.1 + 11) + 64 * (d + 1) ≤ R.locals; omega, hmv (hw _ (by simp)) rfl, List.mem_cons_self, hT.use (hw _ (by simp)) rfl args, hT.use (w := .initialized K.1.cls) (hw _ (by simp)) rfl args, lk_nMH_of s1, ?_, hT.use (w := .methodLink own idx K.1) (hw _ (by simp)) rfl args⟩, hT.use (w := .instanceMethod K.1) (hw _ (by simp)) rfl args, hT.use (w := .selects rc.1 K.1 K.1) (hw _ (by simp)) rfl args⟩ ⟨lk_blind, hrv, lk_pre hC hR hsz _⟩ rfl (by simp) rfl hstk hroom hdg ⟨hcl, hsl⟩
              rw [s7]
              have := lk_sig s3
              rw [← e2] at this
              exact this
            · have hne : ¬ inf.1 = 1 := by omega
              simp only [lk_wc1, hne, if_false, hcn] at hw
              have hdecl : va_Decl s ⟨X.2.1, X.1.name, X.1.desc⟩ := by
                unfold lk_so at s7
                unfold lk_wo at hw
                split at s7
                · rename_i hx1
                  rw [hx1] at hw
                  exact va_Decl.abs (va_Nw.of rfl (hT.use (w := .declares ⟨X.2.1, X.1.name, X.1.desc⟩) (hw _ (by simp)) rfl args))
                · rename_i nn hx1
                  rw [hx1] at hw
                  dsimp only at hw
                  split at s7
                  · rename_i M2 hM2
                    rw [hM2] at hw
                    have hq3 := of_decide_eq_true s7
                    rw [← hq3]
                    exact va_Decl.of (b := M2.2.1) (m := M2.2.2.1) (ret := M2.2.2.2) (hT.use (w := .instanceMethod M2.1) (hw _ (by simp)) rfl args) (hT.use (w := .code M2.1 M2.2.1 M2.2.2.1 M2.2.2.2) (hw _ (by simp)) rfl args)
                  · cases s7
                · cases s7
              refine va_runU (Ts := []) (n := as1.length) (x := X.1) (owner := X.2.1) (C := rc.1) (As := as1.map (lk_sv HB.size z)) ⟨hx, hb, hn.trans hl.1.symm, hown, fun w hw => by cases hw⟩ hM ⟨⟨rfl, rfl, hfr, by show 8 + (K.2.2.1 + 11) + 64 * (d + 1) ≤ R.locals; omega, hmv (hw _ (by simp)) rfl, List.mem_cons_self⟩, hT.use (hw _ (by simp)) rfl args, hT.use (w := .initialized K.1.cls) (hw _ (by simp)) rfl args, lk_nMH_of s2, ?_, hT.use (w := .methodLink own idx X.1) (hw _ (by simp)) rfl args, hT.use (w := .sameMethod X.1.cls X.2.1 X.1.name X.1.desc) (hw _ (by simp)) rfl args, hdecl, hT.use (w := .selects rc.1 X.1 K.1) (hw _ (by simp)) rfl args, hT.use (w := .instanceMethod K.1) (hw _ (by simp)) rfl args⟩ ⟨lk_blind, hrv, lk_pre hC hR hsz _⟩ rfl (by simp) rfl hstk hroom hdg ⟨hcl, hsl⟩
              have := lk_sig s3
              rw [← e2] at this
              exact this
          · cases hc
        · cases hc
      · rename_i idx
        split at hc
        · rename_i as1 a r1 hp
          split at hc
          · rename_i q qs hq
            split at hc
            · rename_i o ha
              cases hc
              obtain ⟨bs, e1, e2, e3⟩ := lk_pop_inv _ _ _ _ _ hp
              rw [List.append_nil] at e1
              subst e1
              have ha' := lk_ws_at (b := HB.size) (z := z) (aC := aC) ha
              obtain ⟨rc, hrc, -⟩ := hR.1 a _ ha'
              dsimp only [lk_se] at hrc
              have hrv := va_recv hKK hR.1 hrc ha'
              obtain ⟨hw, hs⟩ := lk_wc_mem hxi hX2 (by rw [hq]; exact List.mem_cons_self) hK hwc hsc
              simp only [lk_sc1, Bool.and_eq_true, decide_eq_true_eq] at hs
              obtain ⟨⟨⟨⟨⟨s1, s2⟩, s3⟩, s4⟩, s5⟩, s6⟩ := hs
              have hM := lk_met hS l (HB := HB) (z := z) (dC := dC) (dI := dI) (aC := aC) he hK hex s5
              have hstk : st.map (lk_sv HB.size z) = (as1.map (lk_sv HB.size z)).reverse ++ .ref (HB.size + a) :: rest.map (lk_sv HB.size z) := by
                rw [e3, List.map_append, List.map_reverse]; rfl
              have hsig : ∀ sig, parseMethodDescriptor X.1.desc = some sig → as1.length = sig.parameters.length := by
                have := lk_sig s3
                rw [← e2] at this
                exact this
              rcases Bool.or_eq_true _ _ |>.mp s6 with s6 | s6
              · simp only [Bool.and_eq_true, Bool.or_eq_true, decide_eq_true_eq] at s6
                obtain ⟨⟨⟨s6, s7⟩, s8⟩, s9⟩ := s6
                rw [s9] at hM
                rw [← s7] at hsig
                rcases s6 with s6 | s6
                · simp only [lk_wc1, s6, if_true, s9] at hw
                  exact va_runI (Ts := []) (n := as1.length) (As := as1.map (lk_sv HB.size z)) ⟨hx, hb, hn.trans hl.1.symm, hown, fun w hw => by cases hw⟩ hM ⟨⟨rfl, rfl, hfr, by show 8 + (K.2.2.1 + 11) + 64 * (d + 1) ≤ R.locals; omega, hmv (hw _ (by simp)) rfl, List.mem_cons_self, hT.use (hw _ (by simp)) rfl args, hT.use (w := .initialized K.1.cls) (hw _ (by simp)) rfl args, lk_nMH_of s1, hsig, hT.use (w := .methodLink own idx K.1) (hw _ (by simp)) rfl args⟩, s8, hT.use (w := .instanceMethod K.1) (hw _ (by simp)) rfl args⟩ ⟨lk_blind, lk_pre hC hR hsz _⟩ rfl (by simp) rfl hstk hroom hdg ⟨hcl, hsl⟩
                · have hne : ¬ inf.1 = 3 := by omega
                  simp only [lk_wc1, hne, s6, if_true, if_false, s9] at hw
                  exact va_runIN (Ts := []) (n := as1.length) (host := X.2.1) (As := as1.map (lk_sv HB.size z)) ⟨hx, hb, hn.trans hl.1.symm, hown, fun w hw => by cases hw⟩ hM ⟨⟨⟨rfl, rfl, hfr, by show 8 + (K.2.2.1 + 11) + 64 * (d + 1) ≤ R.locals; omega, hmv (hw _ (by simp)) rfl, List.mem_cons_self⟩, hT.use (hw _ (by simp)) rfl args, hT.use (w := .initialized K.1.cls) (hw _ (by simp)) rfl args, lk_nMH_of s1, hsig, hT.use (w := .methodLinkNest own idx K.1 X.2.1) (hw _ (by simp)) rfl args⟩, s8, hT.use (w := .instanceMethod K.1) (hw _ (by simp)) rfl args⟩ ⟨lk_blind, lk_pre hC hR hsz _⟩ rfl (by simp) rfl hstk hroom hdg ⟨hcl, hsl⟩
              · simp only [Bool.and_eq_true, Bool.or_eq_true, decide_eq_true_eq] at s6
                obtain ⟨⟨s6, s7⟩, s8⟩ := s6
                have hne3 : ¬ inf.1 = 3 := by omega
                have hne4 : ¬ inf.1 = 4 := by omega
                simp only [lk_wc1, hne3, hne4, if_false] at hw
                have hsub : X.1.cls = X.2.1 ∨ (Cond.superclass X.1.cls X.2.1).before args s = true := by
                  rcases s6 with s6 | s6
                  · exact Or.inl s6.2
                  · refine Or.inr (hT.use (w := .superclass X.1.cls X.2.1) (hw _ ?_) rfl args)
                    simp [s6]
                exact lk_runSX (C := rc.1) (As := as1.map (lk_sv HB.size z)) (hKK.1 _ rc hrc).2 hx hb (hn.trans hl.1.symm) hown hM s7 rfl rfl hfr (by show 8 + (K.2.2.1 + 11) + 64 * (d + 1) ≤ R.locals; omega) (hmv (hw _ (by simp)) rfl) List.mem_cons_self (hT.use (w := .methodLink own idx X.1) (hw _ (by simp)) rfl args) (hT.use (w := .sameMethod X.1.cls X.2.1 X.1.name X.1.desc) (hw _ (by simp)) rfl args) (hT.use (w := .superclass own X.1.cls) (hw _ (by simp)) rfl args) (hT.use (w := .instanceMethod K.1) (hw _ (by simp)) rfl args) (hT.use (w := .initialized K.1.cls) (hw _ (by simp)) rfl args) (hT.use (hw _ (by simp)) rfl args) s8 hsub (by rw [List.length_map]; exact hsig) ⟨lk_blind, hrv, lk_pre hC hR hsz _⟩ rfl rfl hstk hroom hdg ⟨hcl, hsl⟩
            · cases hc
          · cases hc
        · cases hc
      · cases hc
    · cases hc
  · cases hc
theorem lk_sound (hvd : lk_vd) : ∀ n, lk_Sd n := by
  intro n
  induction n with
  | zero =>
    intro HB z L xs dC dI aC d j pc lo st h v h' M hrun
    cases hrun
  | succ n ih =>
    intro HB z L xs dC dI aC d j pc lo st h v h' M hrun hM p l e R s m args below meth c H locs cells slots Q ls hC hR hl hn hbd hcl hsl hfr hlo hend
    rw [lk_run] at hrun
    split at hrun
    · cases hrun
    · rename_i I len inf hi
      rw [hM] at hrun
      dsimp only at hrun
      obtain ⟨v1, v2, v3, v4, v5, v6⟩ := hvd j pc (I, len, inf) M hi hM
      dsimp only at v1 v2 v3 v4 v5 v6
      split at hrun
      · rename_i r hr
        cases hrun
        obtain ⟨hrt, rfl⟩ := lk_ret_inv hr
        have hlen1 : len = 1 := by
          rcases hrt with ⟨rfl, -⟩ | ⟨rfl, -⟩ | ⟨rfl, -⟩ <;> exact beq_iff_eq.mp v2
        subst hlen1
        have k := hend H locs ls pc I hR v1 hrt
        rw [Nat.sub_self, Nat.sub_self, Nat.add_zero, Nat.add_zero] at k
        exact k
      · split at hrun
        · rename_i k as rest hc
          cases d with
          | zero => cases hrun
          | succ d =>
            dsimp only at hrun
            split at hrun
            · rename_i hcs
              split at hrun
              · cases hrun
              · rename_i K hK
                split at hrun
                · rename_i hex
                  split at hrun
                  · cases hrun
                  · rename_i w h1 he
                    have l1 := lk_run_le _ _ _ _ _ _ _ _ _ _ he
                    have l2 := lk_run_le _ _ _ _ _ _ _ _ _ _ hrun
                    have hlen3 : len = 3 := by
                      unfold lk_callee at hc
                      split at hc
                      · split at hc
                        · split at hc
                          · exact beq_iff_eq.mp v2
                          · exact beq_iff_eq.mp v2
                          · exact beq_iff_eq.mp v2
                          · cases hc
                        · cases hc
                      · cases hc
                    subst hlen3
                    refine lk_bound (fun hbz => ?_)
                    have hsz := lk_size hR (by omega)
                    refine lk_after (lk_callrun ih hC hR hl hn hsz v1 v5 v6 hc hcs hK hex he (by omega) (by omega) hfr hlo) hR.2 (fun H' locs' hR' => ?_)
                    have k2 := ih HB z L xs dC dI aC (d + 1) j (pc + 3) lo (w.toList ++ rest) h1 v h' M hrun hM p l e R s m args below meth c H' locs' (cells + (h1.length - h.length)) (slots + (lk_sz h1 - lk_sz h)) Q ls hC hR' hl hn (by omega) (by omega) (by omega) hfr hlo (fun H2 locs2 ls2 pcr I2 q1 q2 q3 => by
                      have q4 := hend H2 locs2 ls2 pcr I2 q1 q2 q3
                      have a1 : cells + (h1.length - h.length) + (h'.length - h1.length) = cells + (h'.length - h.length) := by omega
                      have a2 : slots + (lk_sz h1 - lk_sz h) + (lk_sz h' - lk_sz h1) = slots + (lk_sz h' - lk_sz h) := by omega
                      rw [a1, a2]
                      exact q4)
                    rw [List.map_append] at k2
                    exact k2
                · cases hrun
            · cases hrun
        · split at hrun
          · cases hrun
          · rename_i pc' lo' st' h1 he
            have l1 := lk_st1_le he
            have l2 := lk_run_le _ _ _ _ _ _ _ _ _ _ hrun
            dsimp only at l1
            refine lk_step hC hR hl v1 v2 v3 v4 hn (by omega) (by omega) hbd (by dsimp only; omega) (by dsimp only; omega) he ?_
            intro H' locs' ls' hR' hl' hlen
            dsimp only at hR' hl' hlen ⊢
            refine ih HB z L xs dC dI aC d j pc' lo' st' h1 v h' M hrun hM p l e R s m args below meth c H' locs' (cells + (h1.length - h.length)) (slots + (lk_sz h1 - lk_sz h)) Q ls' hC hR' hl' (by rw [hlen]; exact hn) (by omega) (by omega) (by omega) hfr hlo (fun H2 locs2 ls2 pcr I2 q1 q2 q3 => ?_)
            have q4 := hend H2 locs2 ls2 pcr I2 q1 q2 q3
            have a1 : cells + (h1.length - h.length) + (h'.length - h1.length) = cells + (h'.length - h.length) := by omega
            have a2 : slots + (lk_sz h1 - lk_sz h) + (lk_sz h' - lk_sz h1) = slots + (lk_sz h' - lk_sz h) := by omega
            rw [a1, a2]
            exact q4
end LKR
