section LKS4
variable {p : Program} {l : Launch} {e : Env} {R : Room} {s : State} {m : MethodId} {args : Array Value} {below : List Frame} {meth : Method} {c : Code} {H : Heap} {locs : List Loc} {cells slots : Nat} {Q : State → Prop}
variable {HB : Heap} {z L : Nat} {xs : Nat → Int32} {dC : Nat → ClassId} {dI : Nat → Nat → Nat} {aC : Nat → ClassId} {cc : ByteArray} {own name : String}
variable {pc : Nat} {lo st : List Value} {h : lk_H} {ls : Array Slot} {inf : lk_I} {q : lk_S}
/-- a field's link, by the words of the tables -/
theorem lk_flink {idx ci : Nat} {r : vw_C} {f : Nat × Nat} (hT : lk_T s) (hwd : ∀ w ∈ lk_wf own idx inf.1 f, w ∈ lk_tbl) (hf : f.1 = ci) (hc : vwCl[ci]? = some r) :
    (Cond.fieldLink own idx (lk_rf f.2 (r.2.1 inf.1).1) (r.2.1 inf.1).2.1 (r.2.1 inf.1).2.2.1).before args s = true ∧ ∀ x, s.fieldFound? (r.2.1 inf.1).1 (r.2.1 inf.1).2.1 (r.2.1 inf.1).2.2.1 = some x → s.fieldFound? (lk_rf f.2 (r.2.1 inf.1).1) (r.2.1 inf.1).2.1 (r.2.1 inf.1).2.2.1 = some x := by
  subst hf
  obtain ⟨f1, f2⟩ := f
  unfold lk_wf at hwd
  dsimp only at hwd hc
  rw [hc] at hwd
  dsimp only at hwd
  refine ⟨hT.use (hwd _ List.mem_cons_self) rfl args, ?_⟩
  cases f2 with
  | zero => exact fun x h => h
  | succ n =>
    intro x hx
    exact u_same (hT.use (hwd _ (List.mem_cons_of_mem _ List.mem_cons_self)) rfl args) x hx
theorem lk_fits {ty : FieldType} {v : Value} (b z : Nat) (h : lk_fit (some ty) v = true) : narrow ty (lk_sv b z v) = lk_sv b z v ∧ fits ty (lk_sv b z v) = true := by
  unfold lk_fit at h
  split at h
  · rename_i h1; cases h1; exact ⟨rfl, rfl⟩
  · rename_i x h1
    cases h1
    rcases Bool.or_eq_true _ _ |>.mp h with h2 | h2
    · have := beq_iff_eq.mp h2; subst this; exact ⟨rfl, rfl⟩
    · have := beq_iff_eq.mp h2; subst this; exact ⟨rfl, rfl⟩
  · rename_i h1; cases h1; exact ⟨rfl, rfl⟩
  · rename_i h1; cases h1; exact ⟨rfl, rfl⟩
  · rename_i h1; cases h1; exact ⟨rfl, rfl⟩
  · rename_i h1; cases h1; exact ⟨rfl, rfl⟩
  · cases h

theorem lk_s_getfield (hC : lk_C HB z L xs dC dI aC p s m meth c cc own name) (hR : lk_R HB z dC dI aC h H locs) (hl : lk_L HB.size z ls lo) {idx : Nat} (hdg : decode cc pc = .ok (.getfield idx, 3)) (hwd : ∀ w ∈ lk_wd own (.getfield idx) inf, w ∈ lk_tbl) (hsd : lk_sd own name pc (.getfield idx) inf = true) (hst : lk_getf inf pc lo st h = some q) (kk : lk_k p l e R s m args below meth c cells slots Q HB z dC dI aC lo h q) : W p l e R s m args below meth c H locs cells slots Q (F0 m pc ls (st.map (lk_sv HB.size z))) := by
  obtain ⟨hx, hb, hown, hT, hK, hN, hX, hz, hnm⟩ := id hC
  unfold lk_getf at hst
  split at hst
  · rename_i a r
    split at hst
    · rename_i ci fs ha
      split at hst
      · rename_i hh
        cases hv : fs[inf.1]? with
        | none => rw [hv] at hst; cases hst
        | some v =>
          rw [hv] at hst
          cases hst
          obtain ⟨f, hf1, hf2⟩ := lk_has_inv hh
          obtain ⟨rc, hrc, -⟩ := hR.1 a _ (lk_ws_at ha)
          dsimp only [lk_se] at hrc
          have h1 := lk_flink (args := args) hT (fun w hw => hwd w (List.mem_flatMap.mpr ⟨f, hf1, hw⟩)) hf2 hrc
          have h2 : inf.1 < rc.2.2 := by
            have h3 := List.all_eq_true.mp hsd f hf1
            rw [hf2, hrc] at h3
            exact of_decide_eq_true h3
          have hall := lk_all hrc
          exact va_get hx hb (Ts := u_ws rc.1 rc.2.1 rc.2.2) (fun w hw => hT.use (hall.1 w hw) (lk_uws w hw) args) (fun w hw => hw) hown hK hR.1 a (lk_ws_at ha) hrc inf.1 h2 h1.1 h1.2 (v := lk_sv HB.size z v) (by rw [List.getElem?_map, hv]; rfl) hdg (kk.same hR hl rfl)
      · cases hst
    · cases hst
  · cases hst
theorem lk_s_putfield (hC : lk_C HB z L xs dC dI aC p s m meth c cc own name) (hR : lk_R HB z dC dI aC h H locs) (hl : lk_L HB.size z ls lo) {idx : Nat} (hdg : decode cc pc = .ok (.putfield idx, 3)) (hwd : ∀ w ∈ lk_wd own (.putfield idx) inf, w ∈ lk_tbl) (hsd : lk_sd own name pc (.putfield idx) inf = true) (hst : lk_putf inf pc lo st h = some q) (kk : lk_k p l e R s m args below meth c cells slots Q HB z dC dI aC lo h q) : W p l e R s m args below meth c H locs cells slots Q (F0 m pc ls (st.map (lk_sv HB.size z))) := by
  obtain ⟨hx, hb, hown, hT, hK, hN, hX, hz, hnm⟩ := id hC
  unfold lk_putf at hst
  split at hst
  · rename_i v a r
    split at hst
    · rename_i ci fs ha
      split at hst
      · rename_i hh
        split at hst
        · rename_i hfit
          split at hst
          · rename_i hlt
            cases hst
            obtain ⟨f, hf1, hf2⟩ := lk_has_inv hh
            obtain ⟨rc, hrc, -⟩ := hR.1 a _ (lk_ws_at ha)
            dsimp only [lk_se] at hrc
            have h1 := lk_flink (args := args) hT (fun w hw => hwd w (List.mem_flatMap.mpr ⟨f, hf1, hw⟩)) hf2 hrc
            have h3 := List.all_eq_true.mp hsd f hf1
            rw [hf2, hrc] at h3
            dsimp only at h3
            rw [Bool.and_eq_true] at h3
            have h2 : inf.1 < rc.2.2 := of_decide_eq_true h3.1
            obtain ⟨hall, ty, fs0, ht1, -, -, ht2, ht3, -⟩ := lk_all hrc
            rw [ht1] at hfit
            have h4 := lk_fits HB.size z hfit
            have go : ∀ (H1 : Heap) (locs1 : List Loc), va_P (dC, dI) vwCl ((lk_ws HB.size z aC h).set a (HB.size + a, .inr (ci, (fs.map (lk_sv HB.size z)).set inf.1 (lk_sv HB.size z v)))) H1 → va_D (fun q : Nat => HB.size ≤ q) ((lk_ws HB.size z aC h).set a (HB.size + a, .inr (ci, (fs.map (lk_sv HB.size z)).set inf.1 (lk_sv HB.size z v)))) → va_S (fun q : Nat => HB.size ≤ q) H H1 locs1 → W p l e R s m args below meth c H1 locs1 cells slots Q (F0 m (pc + 3) ls (r.map (lk_sv HB.size z))) := by
              intro H1 locs1 hP _ hS
              refine kk.set ha (by simp [lk_cz]) ⟨?_, lk_S.trans hR.2 hS⟩ hl
              rw [lk_ws_set]
              simp only [lk_se]
              rw [List.map_set]
              exact hP
            have hl2 : inf.1 < (fs.map (lk_sv HB.size z)).length := by rw [List.length_map]; exact hlt
            have h5 := Bool.or_eq_true _ _ |>.mp h3.2
            by_cases hfin : (rc.2.1 inf.1).2.2.2 = true
            · rcases h5 with h5 | h5
              · rw [hfin] at h5; cases h5
              · rw [Bool.and_eq_true] at h5
                exact va_putF hx hb (Ts := u_ws rc.1 rc.2.1 rc.2.2) (fun w hw => hT.use (hall w hw) (lk_uws w hw) args) (fun w hw => hw) ty ht2 ht3 hown hK hR.1 (lk_ws_D h) (lk_S.self hR.2) a (lk_ws_at ha) hrc inf.1 h2 h1.1 h1.2 hfin (hnm.trans (of_decide_eq_true h5.1)) (of_decide_eq_true h5.2) (ht2 _ h2) h4.1 h4.2 hl2 hdg go
            · exact va_put hx hb (Ts := u_ws rc.1 rc.2.1 rc.2.2) (fun w hw => hT.use (hall w hw) (lk_uws w hw) args) (fun w hw => hw) ty ht2 ht3 hown hK hR.1 (lk_ws_D h) (lk_S.self hR.2) a (lk_ws_at ha) hrc inf.1 h2 h1.1 h1.2 (by simpa using hfin) (ht2 _ h2) h4.1 h4.2 hl2 hdg go
          · cases hst
        · cases hst
      · cases hst
    · cases hst
  · cases hst
theorem lk_s_new (hC : lk_C HB z L xs dC dI aC p s m meth c cc own name) (hR : lk_R HB z dC dI aC h H locs) (hl : lk_L HB.size z ls lo) {idx : Nat} (hdg : decode cc pc = .ok (.new idx, 3)) (hwd : ∀ w ∈ lk_wd own (.new idx) inf, w ∈ lk_tbl) (hbd : s.heap.size + cells = HB.size + h.length) (hcl : cells + (q.2.2.2.length - h.length) ≤ R.cells) (hsl : slots + (lk_sz q.2.2.2 - lk_sz h) ≤ R.slots) (hst : lk_new inf.1 pc lo st h = some q) (kk : lk_k p l e R s m args below meth c cells slots Q HB z dC dI aC lo h q) : W p l e R s m args below meth c H locs cells slots Q (F0 m pc ls (st.map (lk_sv HB.size z))) := by
  obtain ⟨hx, hb, hown, hT, hK, hN, hX, hz, hnm⟩ := id hC
  unfold lk_new at hst
  split at hst
  · rename_i fs hfs
    cases hst
    have hlt : inf.1 < lk_df.length := (List.getElem?_eq_some_iff.mp hfs).1
    obtain ⟨rc, hrc⟩ : ∃ rc, vwCl[inf.1]? = some rc := ⟨_, List.getElem?_eq_getElem (l := vwCl) hlt⟩
    obtain ⟨hall, ty, fs0, ht1, hf0, hN0, ht2, ht3, hdf, hdv⟩ := lk_all hrc
    cases hf0.symm.trans hfs
    have hmap : fs.map (lk_sv HB.size z) = fs := by
      conv => rhs; rw [← List.map_id fs]
      apply List.map_congr_left
      intro v hv
      rcases hdv v hv with rfl | rfl <;> rfl
    simp only [lk_wd, hrc] at hwd
    dsimp only at hcl hsl
    rw [lk_sz_app, Nat.add_sub_cancel_left] at hsl
    rw [List.length_append, Nat.add_sub_cancel_left] at hcl
    have hcz : lk_cz (.inr (inf.1, fs)) = rc.2.2 := hN0
    rw [hcz] at hsl
    refine va_new hx hb (Ts := u_ws rc.1 rc.2.1 rc.2.2) (fun w hw => hT.use (hall w hw) (lk_uws w hw) args) (fun w hw => hw) ty ht2 hown (hT.use (w := .classLink own idx rc.1) (hwd _ (by simp)) rfl args) (hT.use (w := .instantiable rc.1 rc.2.2) (hwd _ (by simp)) rfl args) (hT.use (w := .initialized rc.1) (hwd _ (by simp)) rfl args) hK hR.1 (lk_ws_D h) hR.2 (fun q hq => hq) hrc (fs := fs) hdf hcl hsl hdg (fun q1 H1 hP hD hS => ?_)
    refine lk_bound (fun hb1 => ?_)
    have hq1 := lk_fresh (by omega) hP hD
    subst hq1
    have k := kk.push (H := H1) (locs := locs) ⟨by rw [lk_ws_app]; simp only [lk_se]; rw [hmap]; exact hP, hS⟩ hl
    rw [hcz] at k
    exact k
  · cases hst
theorem lk_s_newarray_int (hC : lk_C HB z L xs dC dI aC p s m meth c cc own name) (hR : lk_R HB z dC dI aC h H locs) (hl : lk_L HB.size z ls lo) (hdg : decode cc pc = .ok (.newarray .int, 2)) (hwd : ∀ w ∈ lk_wd own (.newarray .int) inf, w ∈ lk_tbl) (hbd : s.heap.size + cells = HB.size + h.length) (hcl : cells + (q.2.2.2.length - h.length) ≤ R.cells) (hsl : slots + (lk_sz q.2.2.2 - lk_sz h) ≤ R.slots) (hst : lk_newa 0 pc lo st h = some q) (kk : lk_k p l e R s m args below meth c cells slots Q HB z dC dI aC lo h q) : W p l e R s m args below meth c H locs cells slots Q (F0 m pc ls (st.map (lk_sv HB.size z))) := by
  obtain ⟨hx, hb, hown, hT, hK, hN, hX, hz, hnm⟩ := id hC
  unfold lk_newa at hst
  split at hst
  · rename_i n r
    split at hst
    · cases hst
    · rename_i hn
      cases hst
      have hn1 : ¬ n < 0 := fun q => hn (Or.inl q)
      have hn2 : ¬ 65536 < n.toNatClampNeg := fun q => hn (Or.inr q)
      dsimp only at hcl hsl
      rw [lk_sz_app, Nat.add_sub_cancel_left] at hsl
      rw [List.length_append, Nat.add_sub_cancel_left] at hcl
      refine va_newa (atype := .int) hx hb (hT.use (w := .arrayClass .int) (hwd _ List.mem_cons_self) rfl args) (ty := .int) rfl hK hR.1 (lk_ws_D h) hR.2 (fun q hq => hq) (a0 := (n.toNatClampNeg, .inl (fun _ => 0))) (fun cA => rfl) hn1 rfl (by show n.toNatClampNeg * 4 ≤ 536870912; omega) hcl hsl hdg (fun q1 cA H1 hK1 hP hD hS => ?_)
      refine lk_bound (fun hb1 => ?_)
      have hq1 := lk_fresh (by omega) hP hD
      subst hq1
      have h1 := (hK1.2 5 (cA, .int) rfl).2
      have h2 := (hK.2 0 (aC 0, .int) rfl).2
      have h3 : cA = aC 0 := Option.some.inj (Eq.trans (Eq.symm h1) h2)
      subst h3
      exact kk.push (H := H1) (locs := locs) ⟨by rw [lk_ws_app]; exact hP, hS⟩ hl
  · cases hst
theorem lk_s_newarray_boolean (hC : lk_C HB z L xs dC dI aC p s m meth c cc own name) (hR : lk_R HB z dC dI aC h H locs) (hl : lk_L HB.size z ls lo) (hdg : decode cc pc = .ok (.newarray .boolean, 2)) (hwd : ∀ w ∈ lk_wd own (.newarray .boolean) inf, w ∈ lk_tbl) (hbd : s.heap.size + cells = HB.size + h.length) (hcl : cells + (q.2.2.2.length - h.length) ≤ R.cells) (hsl : slots + (lk_sz q.2.2.2 - lk_sz h) ≤ R.slots) (hst : lk_newa 1 pc lo st h = some q) (kk : lk_k p l e R s m args below meth c cells slots Q HB z dC dI aC lo h q) : W p l e R s m args below meth c H locs cells slots Q (F0 m pc ls (st.map (lk_sv HB.size z))) := by
  obtain ⟨hx, hb, hown, hT, hK, hN, hX, hz, hnm⟩ := id hC
  unfold lk_newa at hst
  split at hst
  · rename_i n r
    split at hst
    · cases hst
    · rename_i hn
      cases hst
      have hn1 : ¬ n < 0 := fun q => hn (Or.inl q)
      have hn2 : ¬ 65536 < n.toNatClampNeg := fun q => hn (Or.inr q)
      dsimp only at hcl hsl
      rw [lk_sz_app, Nat.add_sub_cancel_left] at hsl
      rw [List.length_append, Nat.add_sub_cancel_left] at hcl
      refine va_newa (atype := .boolean) hx hb (hT.use (w := .arrayClass .boolean) (hwd _ List.mem_cons_self) rfl args) (ty := .boolean) rfl hK hR.1 (lk_ws_D h) hR.2 (fun q hq => hq) (a0 := (n.toNatClampNeg, .inl (fun _ => 0))) (fun cA => rfl) hn1 rfl (by show n.toNatClampNeg * 1 ≤ 536870912; omega) hcl hsl hdg (fun q1 cA H1 hK1 hP hD hS => ?_)
      refine lk_bound (fun hb1 => ?_)
      have hq1 := lk_fresh (by omega) hP hD
      subst hq1
      have h1 := (hK1.2 5 (cA, .boolean) rfl).2
      have h2 := (hK.2 1 (aC 1, .boolean) rfl).2
      have h3 : cA = aC 1 := Option.some.inj (Eq.trans (Eq.symm h1) h2)
      subst h3
      exact kk.push (H := H1) (locs := locs) ⟨by rw [lk_ws_app]; exact hP, hS⟩ hl
  · cases hst
theorem lk_s_anewarray (hC : lk_C HB z L xs dC dI aC p s m meth c cc own name) (hR : lk_R HB z dC dI aC h H locs) (hl : lk_L HB.size z ls lo) {idx : Nat} (hdg : decode cc pc = .ok (.anewarray idx, 3)) (hwd : ∀ w ∈ lk_wd own (.anewarray idx) inf, w ∈ lk_tbl) (hbd : s.heap.size + cells = HB.size + h.length) (hcl : cells + (q.2.2.2.length - h.length) ≤ R.cells) (hsl : slots + (lk_sz q.2.2.2 - lk_sz h) ≤ R.slots) (hst : lk_newq inf.1 pc lo st h = some q) (kk : lk_k p l e R s m args below meth c cells slots Q HB z dC dI aC lo h q) : W p l e R s m args below meth c H locs cells slots Q (F0 m pc ls (st.map (lk_sv HB.size z))) := by
  obtain ⟨hx, hb, hown, hT, hK, hN, hX, hz, hnm⟩ := id hC
  unfold lk_newq at hst
  split at hst
  · rename_i n r
    split at hst
    · cases hst
    · rename_i hn
      split at hst
      · rename_i ht
        cases hst
        have hn1 : ¬ n < 0 := fun q => hn (Or.inl q)
        have hn2 : ¬ 65536 < n.toNatClampNeg := fun q => hn (Or.inr q)
        dsimp only at hcl hsl
        rw [lk_sz_app, Nat.add_sub_cancel_left] at hsl
        rw [List.length_append, Nat.add_sub_cancel_left] at hcl
        refine va_newq hx hb (C := lk_tgC inf.1) hown (hT.use (w := .classLink own idx (lk_tgC inf.1)) (hwd _ (by simp [lk_wd])) rfl args) (va_AO.of (hT.use (w := .arrayOver (.object (lk_tgC inf.1))) (hwd _ (by simp [lk_wd])) rfl args)) hK hR.1 (lk_ws_D h) hR.2 (fun q hq => hq) hn1 rfl (by omega) hcl hsl hdg (fun q1 cA H1 hK1 hP hD hS => ?_)
        refine lk_bound (fun hb1 => ?_)
        have hq1 := lk_fresh (by omega) hP hD
        subst hq1
        have h1 := (hK1.2 5 (cA, .object (lk_tgC inf.1)) rfl).2
        have h2 := (hK.2 inf.1 (aC inf.1, lk_tgT inf.1) (lk_tyat aC ht.2)).2
        rw [lk_tgq ht.1] at h2
        obtain ⟨_, _, _, _, _, h1⟩ := h1
        obtain ⟨_, _, _, _, _, h2⟩ := h2
        have h3 : cA = aC inf.1 := Option.some.inj (h1.symm.trans h2)
        subst h3
        exact kk.push (H := H1) (locs := locs) ⟨by rw [lk_ws_app]; exact hP, hS⟩ hl
      · cases hst
  · cases hst
theorem lk_s_instanceof (hC : lk_C HB z L xs dC dI aC p s m meth c cc own name) (hR : lk_R HB z dC dI aC h H locs) (hl : lk_L HB.size z ls lo) {idx : Nat} (hdg : decode cc pc = .ok (.instanceof idx, 3)) (hwd : ∀ w ∈ lk_wd own (.instanceof idx) inf, w ∈ lk_tbl) (hsd : lk_sd own name pc (.instanceof idx) inf = true) (hst : lk_inst inf pc lo st h = some q) (kk : lk_k p l e R s m args below meth c cells slots Q HB z dC dI aC lo h q) : W p l e R s m args below meth c H locs cells slots Q (F0 m pc ls (st.map (lk_sv HB.size z))) := by
  obtain ⟨hx, hb, hown, hT, hK, hN, hX, hz, hnm⟩ := id hC
  have hlk : (Cond.classLink own idx (lk_cn inf.1)).before args s = true := hT.use (hwd _ List.mem_cons_self) rfl args
  unfold lk_inst at hst
  split at hst
  · rename_i a r
    split at hst
    · rename_i ci fs ha
      have ha' := lk_ws_at (b := HB.size) (z := z) (aC := aC) ha
      obtain ⟨rc, hrc, -⟩ := hR.1 a _ ha'
      dsimp only [lk_se] at hrc
      have hrv := va_recv hK hR.1 hrc ha'
      have hcn := lk_cn_of hrc
      split at hst
      · rename_i hf
        cases hst
        have hm := lk_find_inv hf
        by_cases hci : ci = inf.1
        · rw [← hci, hcn] at hlk
          exact va_instS hx hb hown hlk (hK.1 ci rc hrc).2 hrv hdg (kk.same hR hl rfl)
        · have hw : Cond.castable (lk_cn ci) (lk_cn inf.1) ∈ lk_tbl := hwd _ (List.mem_cons_of_mem _ (List.mem_flatMap.mpr ⟨(ci, 1), hm, by simp [lk_wi, hci]⟩))
          rw [hcn] at hw
          exact va_instY hx hb hown hlk (va_Nw.of rfl (hT.use hw rfl args)) hrv hdg (kk.same hR hl rfl)
      · rename_i hf
        cases hst
        have hm := lk_find_inv hf
        simp only [lk_sd, Bool.and_eq_true] at hsd
        have h1 := List.all_eq_true.mp hsd.1 (ci, 0) hm
        have h2 : (ci, inf.1) ∈ lk_nc := by simpa using h1
        have h3 := hN _ h2
        dsimp only at h3
        rw [hcn] at h3
        exact va_instNo hx hb hown hlk h3 hrv hdg (kk.same hR hl rfl)
      · cases hst
    · cases hst
  · rename_i r
    cases hst
    exact lv_instN hx hb hdg (kk.same hR hl rfl)
  · cases hst
theorem lk_s_checkcast (hC : lk_C HB z L xs dC dI aC p s m meth c cc own name) (hR : lk_R HB z dC dI aC h H locs) (hl : lk_L HB.size z ls lo) {idx : Nat} (hdg : decode cc pc = .ok (.checkcast idx, 3)) (hwd : ∀ w ∈ lk_wd own (.checkcast idx) inf, w ∈ lk_tbl) (hst : lk_cast inf pc lo st h = some q) (kk : lk_k p l e R s m args below meth c cells slots Q HB z dC dI aC lo h q) : W p l e R s m args below meth c H locs cells slots Q (F0 m pc ls (st.map (lk_sv HB.size z))) := by
  obtain ⟨hx, hb, hown, hT, hK, hN, hX, hz, hnm⟩ := id hC
  have hlk : (Cond.classLink own idx (lk_cn inf.1)).before args s = true := hT.use (hwd _ List.mem_cons_self) rfl args
  unfold lk_cast at hst
  split at hst
  · rename_i a r
    split at hst
    · rename_i ci fs ha
      have ha' := lk_ws_at (b := HB.size) (z := z) (aC := aC) ha
      obtain ⟨rc, hrc, -⟩ := hR.1 a _ ha'
      dsimp only [lk_se] at hrc
      have hrv := va_recv hK hR.1 hrc ha'
      have hcn := lk_cn_of hrc
      split at hst
      · rename_i hf
        cases hst
        have hm := lk_find_inv hf
        by_cases hci : ci = inf.1
        · rw [← hci, hcn] at hlk
          exact va_castS hx hb hown hlk (hK.1 ci rc hrc).2 hrv hdg (kk.same hR hl rfl)
        · have hw : Cond.castable (lk_cn ci) (lk_cn inf.1) ∈ lk_tbl := hwd _ (List.mem_cons_of_mem _ (List.mem_flatMap.mpr ⟨(ci, 1), hm, by simp [lk_wi, hci]⟩))
          rw [hcn] at hw
          exact va_castY hx hb hown hlk (va_Nw.of rfl (hT.use hw rfl args)) hrv hdg (kk.same hR hl rfl)
      · cases hst
    · cases hst
  · rename_i r
    cases hst
    exact lv_castN hx hb hdg (kk.same hR hl rfl)
  · cases hst
theorem lk_s_objInit (hC : lk_C HB z L xs dC dI aC p s m meth c cc own name) (hR : lk_R HB z dC dI aC h H locs) (hl : lk_L HB.size z ls lo) {idx : Nat} (hdg : decode cc pc = .ok (.invokespecial idx, 3)) (hwd : ∀ w ∈ lk_wd own (.invokespecial idx) inf, w ∈ lk_tbl) (hn : c.maxLocals = lo.length) (hfr : 1 ≤ R.frames) (hlo : 64 ≤ R.locals) (hst : lk_obj inf pc lo st h = some q) (kk : lk_k p l e R s m args below meth c cells slots Q HB z dC dI aC lo h q) : W p l e R s m args below meth c H locs cells slots Q (F0 m pc ls (st.map (lk_sv HB.size z))) := by
  obtain ⟨hx, hb, hown, hT, hK, hN, hX, hz, hnm⟩ := id hC
  unfold lk_obj at hst
  split at hst
  · rename_i a r
    split at hst
    · rename_i h100
      split at hst
      · rename_i hcs
        cases hst
        simp only [lk_wd, h100, if_true] at hwd
        have hroom := lv_room (m := m) (pc := pc) (ls := ls) (rest := lk_sv HB.size z (.ref a) :: r.map (lk_sv HB.size z)) (st := r.map (lk_sv HB.size z)) (by rw [lk_catsum]; exact hcs)
        exact W.objInit hx hb hown (hT.use (w := .methodLink own idx objectInit) (hwd _ (by simp)) rfl args) (hT.use (w := .instanceMethod objectInit) (hwd _ (by simp)) rfl args) (hT.use (w := .code objectInit ⟨#[0xb1]⟩ 1 none) (hwd _ (by simp)) rfl args) rfl (hl.1.trans hn.symm) rfl hdg hfr (Nat.le_trans (Nat.add_le_add_right hroom 12) (by omega)) (kk.same hR hl rfl)
      · cases hst
    · cases hst
  · cases hst
theorem lk_s_arraycopy (hC : lk_C HB z L xs dC dI aC p s m meth c cc own name) (hR : lk_R HB z dC dI aC h H locs) (hl : lk_L HB.size z ls lo) {idx : Nat} (hdg : decode cc pc = .ok (.invokestatic idx, 3)) (hwd : ∀ w ∈ lk_wd own (.invokestatic idx) inf, w ∈ lk_tbl) (hn : c.maxLocals = lo.length) (hfr : 1 ≤ R.frames) (hlo : 64 ≤ R.locals) (hst : lk_cpy inf pc lo st h = some q) (kk : lk_k p l e R s m args below meth c cells slots Q HB z dC dI aC lo h q) : W p l e R s m args below meth c H locs cells slots Q (F0 m pc ls (st.map (lk_sv HB.size z))) := by
  obtain ⟨hx, hb, hown, hT, hK, hN, hX, hz, hnm⟩ := id hC
  unfold lk_cpy at hst
  split at hst
  · rename_i n dp a1 sp a0 r
    split at hst
    · rename_i h101
      split at hst
      · rename_i hcs
        split at hst
        · rename_i n0 f ha0
          split at hst
          · rename_i n1 g ha1
            split at hst
            · cases hst
            · rename_i hok
              cases hst
              simp only [lk_wd, h101, if_true] at hwd
              have hnw : nativeFrameWords "java/lang/System" "arraycopy" 5 = 7 := by decide +kernel
              exact va_copyi hx hb (hn.trans hl.1.symm) hown (hT.use (w := .methodLink own idx arraycopyName) (hwd _ (by simp)) rfl args) (hT.use (w := .native arraycopyName) (hwd _ (by simp)) rfl args) (hT.use (w := .static arraycopyName) (hwd _ (by simp)) rfl args) (hT.use (w := .initialized "java/lang/System") (hwd _ (by simp)) rfl args) hK hR.1 (lk_ws_D h) (lk_S.self hR.2) a0 a1 0 0 (ty := .int) (lk_ws_at ha0) (lk_ws_at ha1) (lk_tyat aC (t := 0) (by decide)) (lk_tyat aC (t := 0) (by decide)) rfl (fun q => hok (Or.inl q)) (fun q => hok (Or.inr (Or.inl q))) (fun q => hok (Or.inr (Or.inr (Or.inl q)))) (Nat.not_lt.mp fun q => hok (Or.inr (Or.inr (Or.inr (Or.inl q))))) (Nat.not_lt.mp fun q => hok (Or.inr (Or.inr (Or.inr (Or.inr q))))) (fun i _ => rfl) hfr (by rw [lk_catsum]; omega) hdg (fun H1 locs1 hP _ hS => kk.set ha1 rfl ⟨by rw [lk_ws_set]; exact hP, lk_S.trans hR.2 hS⟩ hl)
          · cases hst
        · cases hst
      · cases hst
    · cases hst
  · cases hst
theorem lk_s_math (hC : lk_C HB z L xs dC dI aC p s m meth c cc own name) (hR : lk_R HB z dC dI aC h H locs) (hl : lk_L HB.size z ls lo) {idx : Nat} (hdg : decode cc pc = .ok (.invokestatic idx, 3)) (hwd : ∀ w ∈ lk_wd own (.invokestatic idx) inf, w ∈ lk_tbl) (hn : c.maxLocals = lo.length) (hfr : 1 ≤ R.frames) (hlo : 64 ≤ R.locals) (hcl : cells ≤ R.cells) (hsl : slots ≤ R.slots) (hst : lk_mm inf pc lo st h = some q) (kk : lk_k p l e R s m args below meth c cells slots Q HB z dC dI aC lo h q) : W p l e R s m args below meth c H locs cells slots Q (F0 m pc ls (st.map (lk_sv HB.size z))) := by
  obtain ⟨hx, hb, hown, hT, hK, hN, hX, hz, hnm⟩ := id hC
  unfold lk_mm at hst
  split at hst
  · rename_i y x r
    split at hst
    · rename_i hcs
      split at hst
      · rename_i h102
        cases hst
        simp only [lk_wd, h102] at hwd
        exact va_mmax hx hb (hn.trans hl.1.symm) hown (hT.use (w := .methodLink own idx Lib.Math.max.name) (hwd _ (by simp)) rfl args) (hT.use (w := .static Lib.Math.max.name) (hwd _ (by simp)) rfl args) (hT.use (w := .initialized "java/lang/Math") (hwd _ (by simp)) rfl args) (hT.use (w := .code Lib.Math.max.name Lib.Math.max.code 2 (some .int)) (hwd _ (by simp)) rfl args) hfr (by rw [lk_catsum]; omega) hcl hsl hdg (kk.same hR hl rfl)
      · split at hst
        · rename_i h103
          cases hst
          simp only [lk_wd, h103] at hwd
          exact va_mmin hx hb (hn.trans hl.1.symm) hown (hT.use (w := .methodLink own idx Lib.Math.min.name) (hwd _ (by simp)) rfl args) (hT.use (w := .static Lib.Math.min.name) (hwd _ (by simp)) rfl args) (hT.use (w := .initialized "java/lang/Math") (hwd _ (by simp)) rfl args) (hT.use (w := .code Lib.Math.min.name Lib.Math.min.code 2 (some .int)) (hwd _ (by simp)) rfl args) hfr (by rw [lk_catsum]; omega) hcl hsl hdg (kk.same hR hl rfl)
        · cases hst
    · cases hst
  · cases hst
end LKS4
