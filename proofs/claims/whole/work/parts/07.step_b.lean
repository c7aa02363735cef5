section LKS3
variable {p : Program} {l : Launch} {e : Env} {R : Room} {s : State} {m : MethodId} {args : Array Value} {below : List Frame} {meth : Method} {c : Code} {H : Heap} {locs : List Loc} {cells slots : Nat} {Q : State → Prop}
variable {HB : Heap} {z L : Nat} {xs : Nat → Int32} {dC : Nat → ClassId} {dI : Nat → Nat → Nat} {aC : Nat → ClassId} {cc : ByteArray} {own name : String}
variable {pc : Nat} {lo st : List Value} {h : lk_H} {ls : Array Slot} {inf : lk_I} {q : lk_S}
theorem lk_tyat (aC : Nat → ClassId) {t : Nat} (ht : t ≤ 4) : (lk_tys aC)[t]? = some (aC t, lk_tgT t) := by
  match t, ht with
  | 0, _ => rfl
  | 1, _ => rfl
  | 2, _ => rfl
  | 3, _ => rfl
  | 4, _ => rfl
theorem lk_tgq {t : Nat} (ht : 2 ≤ t) : lk_tgT t = .object (lk_tgC t) := by
  match t, ht with
  | t + 2, _ => rfl
theorem lk_rfsv (b z : Nat) (o : Option Nat) : va_rf (o.map (fun a => b + a)) = lk_sv b z (va_rf o) := by cases o <;> rfl
theorem lk_upmap (b : Nat) (f : Nat → Option Nat) (i : Nat) (o : Option Nat) : (fun k => (va_up f i o k).map (fun a => b + a)) = va_up (fun k => (f k).map (fun a => b + a)) i (o.map (fun a => b + a)) := by
  funext k
  by_cases hk : k = i
  · subst hk; simp [va_up]
  · simp [va_up, hk]
theorem lk_catsum (b z : Nat) (r : List Value) : ((r.map (lk_sv b z)).map fun v => v.category).sum = (r.map fun v => v.category).sum := by
  rw [List.map_map]
  congr 1
  apply List.map_congr_left
  intro v _
  exact lk_sv_cat b z v
theorem lk_uws {C : String} {T : u_T} {N : Nat} : ∀ w ∈ u_ws C T N, lk_kd w = true := by
  intro w hw
  unfold u_ws at hw
  obtain ⟨k, -, rfl⟩ := List.mem_map.mp hw
  unfold u_lay
  split <;> rfl
theorem lk_has_inv {l : List (Nat × Nat)} {c : Nat} (h : lk_has l c = true) : ∃ q ∈ l, q.1 = c := by
  unfold lk_has at h
  obtain ⟨q, h1, h2⟩ := List.any_eq_true.mp h
  exact ⟨q, h1, beq_iff_eq.mp h2⟩
theorem lk_find_inv {l : List (Nat × Nat)} {c v : Nat} (h : lk_find l c = some v) : (c, v) ∈ l := by
  unfold lk_find at h
  cases hf : l.find? (fun q => q.1 == c) with
  | none => rw [hf] at h; cases h
  | some q =>
    rw [hf] at h
    have h1 := List.mem_of_find?_eq_some hf
    have h2 : (q.1 == c) = true := by simpa using List.find?_some hf
    have h3 : q.1 = c := beq_iff_eq.mp h2
    have h4 : q.2 = v := Option.some.inj h
    rw [← h3, ← h4]
    exact h1
theorem lk_cn_of {ci : Nat} {r : vw_C} (h : vwCl[ci]? = some r) : lk_cn ci = r.1 := by unfold lk_cn; rw [h]

theorem lk_s_iaload (hC : lk_C HB z L xs dC dI aC p s m meth c cc own name) (hR : lk_R HB z dC dI aC h H locs) (hl : lk_L HB.size z ls lo) (hdg : decode cc pc = .ok (.iaload, 1)) (hst : lk_aldi (L, xs) pc lo st h = some q) (kk : lk_k p l e R s m args below meth c cells slots Q HB z dC dI aC lo h q) : W p l e R s m args below meth c H locs cells slots Q (F0 m pc ls (st.map (lk_sv HB.size z))) := by
  obtain ⟨hx, hb, hown, hT, hK, hN, hX, hz, hnm⟩ := id hC
  unfold lk_aldi at hst
  split at hst
  · rename_i i a r
    split at hst
    · rename_i n f ha
      split at hst
      · cases hst
      · rename_i hin
        cases hst
        exact va_iald hx hb hK hR.1 a 0 (lk_ws_at ha) (lk_tyat aC (t := 0) (by decide)) hin hdg (kk.same hR hl rfl)
    · cases hst
  · rename_i i k r
    split at hst
    · cases hst
    · rename_i hin
      cases hst
      exact va_sld hx hb hX hz (by omega) hR.2 hin hdg (kk.same hR hl rfl)
  · cases hst
theorem lk_s_iastore (hC : lk_C HB z L xs dC dI aC p s m meth c cc own name) (hR : lk_R HB z dC dI aC h H locs) (hl : lk_L HB.size z ls lo) (hdg : decode cc pc = .ok (.iastore, 1)) (hst : lk_asti pc lo st h = some q) (kk : lk_k p l e R s m args below meth c cells slots Q HB z dC dI aC lo h q) : W p l e R s m args below meth c H locs cells slots Q (F0 m pc ls (st.map (lk_sv HB.size z))) := by
  obtain ⟨hx, hb, hown, hT, hK, hN, hX, hz, hnm⟩ := id hC
  unfold lk_asti at hst
  split at hst
  · rename_i x i a r
    split at hst
    · rename_i n f ha
      split at hst
      · cases hst
      · rename_i hin
        cases hst
        exact va_iast hx hb hK hR.1 (lk_ws_D h) (lk_S.self hR.2) a 0 (lk_ws_at ha) (lk_tyat aC (t := 0) (by decide)) hin hdg (fun H1 locs1 hP hD hS => kk.set ha rfl ⟨by rw [lk_ws_set]; exact hP, lk_S.trans hR.2 hS⟩ hl)
    · cases hst
  · cases hst
theorem lk_s_bastore (hC : lk_C HB z L xs dC dI aC p s m meth c cc own name) (hR : lk_R HB z dC dI aC h H locs) (hl : lk_L HB.size z ls lo) (hdg : decode cc pc = .ok (.bastore, 1)) (hst : lk_astz pc lo st h = some q) (kk : lk_k p l e R s m args below meth c cells slots Q HB z dC dI aC lo h q) : W p l e R s m args below meth c H locs cells slots Q (F0 m pc ls (st.map (lk_sv HB.size z))) := by
  obtain ⟨hx, hb, hown, hT, hK, hN, hX, hz, hnm⟩ := id hC
  unfold lk_astz at hst
  split at hst
  · rename_i x i a r
    split at hst
    · rename_i n f ha
      split at hst
      · cases hst
      · rename_i hin
        cases hst
        exact va_zast hx hb hK hR.1 (lk_ws_D h) (lk_S.self hR.2) a 1 (lk_ws_at ha) (lk_tyat aC (t := 1) (by decide)) hin hdg (fun H1 locs1 hP hD hS => kk.set ha rfl ⟨by rw [lk_ws_set]; exact hP, lk_S.trans hR.2 hS⟩ hl)
    · cases hst
  · cases hst
theorem lk_s_baload (hC : lk_C HB z L xs dC dI aC p s m meth c cc own name) (hR : lk_R HB z dC dI aC h H locs) (hl : lk_L HB.size z ls lo) (hdg : decode cc pc = .ok (.baload, 1)) (hst : lk_aldz pc lo st h = some q) (kk : lk_k p l e R s m args below meth c cells slots Q HB z dC dI aC lo h q) : W p l e R s m args below meth c H locs cells slots Q (F0 m pc ls (st.map (lk_sv HB.size z))) := by
  obtain ⟨hx, hb, hown, hT, hK, hN, hX, hz, hnm⟩ := id hC
  unfold lk_aldz at hst
  split at hst
  · rename_i i a r
    split at hst
    · rename_i n f ha
      split at hst
      · cases hst
      · rename_i hin
        cases hst
        exact va_zald hx hb hK hR.1 a 1 (lk_ws_at ha) (lk_tyat aC (t := 1) (by decide)) hin hdg (kk.same hR hl rfl)
    · cases hst
  · cases hst
theorem lk_s_aaload (hC : lk_C HB z L xs dC dI aC p s m meth c cc own name) (hR : lk_R HB z dC dI aC h H locs) (hl : lk_L HB.size z ls lo) (hdg : decode cc pc = .ok (.aaload, 1)) (hst : lk_alda pc lo st h = some q) (kk : lk_k p l e R s m args below meth c cells slots Q HB z dC dI aC lo h q) : W p l e R s m args below meth c H locs cells slots Q (F0 m pc ls (st.map (lk_sv HB.size z))) := by
  obtain ⟨hx, hb, hown, hT, hK, hN, hX, hz, hnm⟩ := id hC
  unfold lk_alda at hst
  split at hst
  · rename_i i a r
    split at hst
    · rename_i t n f ha
      split at hst
      · cases hst
      · rename_i hin
        split at hst
        · rename_i ht
          cases hst
          have k := kk.same hR hl rfl
          rw [List.map_cons, ← lk_rfsv] at k
          exact va_aldq hx hb hK hR.1 a t (C := lk_tgC t) (lk_ws_at ha) (by rw [lk_tyat aC ht.2, lk_tgq ht.1]) hin hdg k
        · cases hst
    · cases hst
  · cases hst
theorem lk_s_aastore (hC : lk_C HB z L xs dC dI aC p s m meth c cc own name) (hR : lk_R HB z dC dI aC h H locs) (hl : lk_L HB.size z ls lo) (hdg : decode cc pc = .ok (.aastore, 1)) (hst : lk_asta pc lo st h = some q) (kk : lk_k p l e R s m args below meth c cells slots Q HB z dC dI aC lo h q) : W p l e R s m args below meth c H locs cells slots Q (F0 m pc ls (st.map (lk_sv HB.size z))) := by
  obtain ⟨hx, hb, hown, hT, hK, hN, hX, hz, hnm⟩ := id hC
  unfold lk_asta at hst
  split at hst
  · rename_i v i a r
    split at hst
    · rename_i t n f ha
      split at hst
      · cases hst
      · rename_i hin
        split at hst
        · rename_i cv vs hv
          split at hst
          · rename_i hcm
            cases hst
            have hv' := lk_ws_at (b := HB.size) (z := z) (aC := aC) hv
            obtain ⟨rc, hrc, -⟩ := hR.1 v _ hv'
            dsimp only [lk_se] at hrc
            have go : ∀ (H1 : Heap) (locs1 : List Loc), va_P (dC, dI) vwCl ((lk_ws HB.size z aC h).set a (HB.size + a, .inl (aC t, n, .inr (.inr (.inr (.inr (va_up (fun k => (f k).map (fun a => HB.size + a)) i.toNatClampNeg (some (HB.size + v)))))))))  H1 → va_D (fun q : Nat => HB.size ≤ q) ((lk_ws HB.size z aC h).set a (HB.size + a, .inl (aC t, n, .inr (.inr (.inr (.inr (va_up (fun k => (f k).map (fun a => HB.size + a)) i.toNatClampNeg (some (HB.size + v))))))))) → va_S (fun q : Nat => HB.size ≤ q) H H1 locs1 → W p l e R s m args below meth c H1 locs1 cells slots Q (F0 m (pc + 1) ls (r.map (lk_sv HB.size z))) := by
              intro H1 locs1 hP _ hS
              refine kk.set ha rfl ⟨?_, lk_S.trans hR.2 hS⟩ hl
              rw [lk_ws_set]
              have e1 := lk_upmap HB.size f i.toNatClampNeg (some v)
              simp only [lk_se, lk_sa]
              rw [e1]
              exact hP
            match t, hcm, ha, go with
            | 2, hcm, ha, go =>
              have : cv = 8 := by simpa [lk_cm] using hcm
              subst this
              cases hrc
              exact va_astq hx hb hK hR.1 (lk_ws_D h) (lk_S.self hR.2) a 2 v 8 (r := (RX8, TX8, 4)) (lk_ws_at ha) (lk_tyat aC (t := 2) (by decide)) hv' rfl hin hdg go
            | 4, hcm, ha, go =>
              have : cv = 1 := by simpa [lk_cm] using hcm
              subst this
              cases hrc
              exact va_astq hx hb hK hR.1 (lk_ws_D h) (lk_S.self hR.2) a 4 v 1 (r := (RX1, TX1, 5)) (lk_ws_at ha) (lk_tyat aC (t := 4) (by decide)) hv' rfl hin hdg go
            | 3, hcm, ha, go =>
              have hm : cv ∈ lk_thg := by simpa [lk_cm] using hcm
              have hw := lk_thg_ok cv hm
              rw [hrc] at hw
              exact va_astqO hx hb hK hR.1 (lk_ws_D h) (lk_S.self hR.2) a 3 v cv (E := lk_tgC 3) (lk_ws_at ha) (lk_tyat aC (t := 3) (by decide)) (va_Nw.of rfl (hT.use hw rfl args)) hv' hrc hin hdg go
            | 0, hcm, _, _ => simp [lk_cm] at hcm
            | 1, hcm, _, _ => simp [lk_cm] at hcm
            | k + 5, hcm, _, _ => simp [lk_cm] at hcm
          · cases hst
        · cases hst
    · cases hst
  · rename_i i a r
    split at hst
    · rename_i t n f ha
      split at hst
      · cases hst
      · rename_i hin
        split at hst
        · rename_i ht
          cases hst
          refine va_astqN hx hb hK hR.1 (lk_ws_D h) (lk_S.self hR.2) a t (C := lk_tgC t) (lk_ws_at ha) (by rw [lk_tyat aC ht.2, lk_tgq ht.1]) hin hdg (fun H1 locs1 hP _ hS => ?_)
          refine kk.set ha rfl ⟨?_, lk_S.trans hR.2 hS⟩ hl
          rw [lk_ws_set]
          have e1 := lk_upmap HB.size f i.toNatClampNeg none
          simp only [lk_se, lk_sa]
          rw [e1]
          exact hP
        · cases hst
    · cases hst
  · cases hst
theorem lk_s_arraylength (hC : lk_C HB z L xs dC dI aC p s m meth c cc own name) (hR : lk_R HB z dC dI aC h H locs) (hl : lk_L HB.size z ls lo) (hdg : decode cc pc = .ok (.arraylength, 1)) (hst : lk_len (L, xs) pc lo st h = some q) (kk : lk_k p l e R s m args below meth c cells slots Q HB z dC dI aC lo h q) : W p l e R s m args below meth c H locs cells slots Q (F0 m pc ls (st.map (lk_sv HB.size z))) := by
  obtain ⟨hx, hb, hown, hT, hK, hN, hX, hz, hnm⟩ := id hC
  unfold lk_len at hst
  split at hst
  · rename_i a r
    split at hst
    · rename_i t x ha
      split at hst
      · rename_i ht
        cases hst
        exact va_alen hx hb hK hR.1 a t (lk_ws_at ha) (lk_tyat aC ht) rfl hdg (kk.same hR hl rfl)
      · cases hst
    · cases hst
  · rename_i k r
    cases hst
    exact va_slen hx hb hX hz (by omega) hR.2 hdg (kk.same hR hl rfl)
  · cases hst
end LKS3
