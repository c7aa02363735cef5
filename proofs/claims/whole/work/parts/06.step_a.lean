section LKS2
variable {p : Program} {l : Launch} {e : Env} {R : Room} {s : State} {m : MethodId} {args : Array Value} {below : List Frame} {meth : Method} {c : Code} {H : Heap} {locs : List Loc} {cells slots : Nat} {Q : State → Prop}
variable {HB : Heap} {z L : Nat} {xs : Nat → Int32} {dC : Nat → ClassId} {dI : Nat → Nat → Nat} {aC : Nat → ClassId} {cc : ByteArray} {own name : String}
variable {pc : Nat} {lo st : List Value} {h : lk_H} {ls : Array Slot} {inf : lk_I} {q : lk_S}

theorem lk_s_iload (hC : lk_C HB z L xs dC dI aC p s m meth c cc own name) (hR : lk_R HB z dC dI aC h H locs) (hl : lk_L HB.size z ls lo) {i : Nat} (hdg : decode cc pc = .ok (.iload i, 2)) (hst : lk_ldi lo i (pc + 2) st h = some q) (kk : lk_k p l e R s m args below meth c cells slots Q HB z dC dI aC lo h q) : W p l e R s m args below meth c H locs cells slots Q (F0 m pc ls (st.map (lk_sv HB.size z))) := by
  obtain ⟨hx, hb, hown, hT, hK, hN, hX, hz, hnm⟩ := id hC
  obtain ⟨x, h1, rfl⟩ := lk_ldi_inv hst
  exact lv_iload hx hb hdg (hl.at h1 rfl) (kk.same hR hl rfl)
theorem lk_s_iload_n (hC : lk_C HB z L xs dC dI aC p s m meth c cc own name) (hR : lk_R HB z dC dI aC h H locs) (hl : lk_L HB.size z ls lo) {i : Fin 4} (hdg : decode cc pc = .ok (.iload_n i, 1)) (hst : lk_ldi lo i (pc + 1) st h = some q) (kk : lk_k p l e R s m args below meth c cells slots Q HB z dC dI aC lo h q) : W p l e R s m args below meth c H locs cells slots Q (F0 m pc ls (st.map (lk_sv HB.size z))) := by
  obtain ⟨hx, hb, hown, hT, hK, hN, hX, hz, hnm⟩ := id hC
  obtain ⟨x, h1, rfl⟩ := lk_ldi_inv hst
  exact lv_iload_n hx hb hdg rfl (hl.at h1 rfl) (kk.same hR hl rfl)
theorem lk_s_lload (hC : lk_C HB z L xs dC dI aC p s m meth c cc own name) (hR : lk_R HB z dC dI aC h H locs) (hl : lk_L HB.size z ls lo) {i : Nat} (hdg : decode cc pc = .ok (.lload i, 2)) (hst : lk_ldl lo i (pc + 2) st h = some q) (kk : lk_k p l e R s m args below meth c cells slots Q HB z dC dI aC lo h q) : W p l e R s m args below meth c H locs cells slots Q (F0 m pc ls (st.map (lk_sv HB.size z))) := by
  obtain ⟨hx, hb, hown, hT, hK, hN, hX, hz, hnm⟩ := id hC
  obtain ⟨x, h1, rfl⟩ := lk_ldl_inv hst
  exact lv_lload hx hb hdg (hl.at h1 rfl) (kk.same hR hl rfl)
theorem lk_s_lload_n (hC : lk_C HB z L xs dC dI aC p s m meth c cc own name) (hR : lk_R HB z dC dI aC h H locs) (hl : lk_L HB.size z ls lo) {i : Fin 4} (hdg : decode cc pc = .ok (.lload_n i, 1)) (hst : lk_ldl lo i (pc + 1) st h = some q) (kk : lk_k p l e R s m args below meth c cells slots Q HB z dC dI aC lo h q) : W p l e R s m args below meth c H locs cells slots Q (F0 m pc ls (st.map (lk_sv HB.size z))) := by
  obtain ⟨hx, hb, hown, hT, hK, hN, hX, hz, hnm⟩ := id hC
  obtain ⟨x, h1, rfl⟩ := lk_ldl_inv hst
  exact lv_lload_n hx hb hdg rfl (hl.at h1 rfl) (kk.same hR hl rfl)
theorem lk_s_aload (hC : lk_C HB z L xs dC dI aC p s m meth c cc own name) (hR : lk_R HB z dC dI aC h H locs) (hl : lk_L HB.size z ls lo) {i : Nat} (hdg : decode cc pc = .ok (.aload i, 2)) (hst : lk_lda lo i (pc + 2) st h = some q) (kk : lk_k p l e R s m args below meth c cells slots Q HB z dC dI aC lo h q) : W p l e R s m args below meth c H locs cells slots Q (F0 m pc ls (st.map (lk_sv HB.size z))) := by
  obtain ⟨hx, hb, hown, hT, hK, hN, hX, hz, hnm⟩ := id hC
  obtain ⟨v, h1, h2, h3, rfl⟩ := lk_lda_inv hst
  have h4 := hl.at h1 h2
  have k := kk.same hR hl rfl
  rw [List.map_cons] at k
  rcases h3 with h3 | rfl
  · obtain ⟨x, hv⟩ := h3 HB.size z
    rw [hv] at h4 k
    exact lv_aload hx hb hdg h4 k
  · exact lv_aloadN hx hb hdg h4 k
theorem lk_s_istore (hC : lk_C HB z L xs dC dI aC p s m meth c cc own name) (hR : lk_R HB z dC dI aC h H locs) (hl : lk_L HB.size z ls lo) {i : Nat} (hdg : decode cc pc = .ok (.istore i, 2)) (hst : lk_sti lo i (pc + 2) st h = some q) (kk : lk_k p l e R s m args below meth c cells slots Q HB z dC dI aC lo h q) : W p l e R s m args below meth c H locs cells slots Q (F0 m pc ls (st.map (lk_sv HB.size z))) := by
  obtain ⟨hx, hb, hown, hT, hK, hN, hX, hz, hnm⟩ := id hC
  obtain ⟨x, r, lo', rfl, h1, rfl⟩ := lk_sti_inv hst
  exact lv_istore hx hb hdg hl.has (lk_set_len h1).1 rfl (fun ls' h' => kk.same hR (lk_L.set (v := .int x) h1 h') (lk_set_len h1).2)
theorem lk_s_astore (hC : lk_C HB z L xs dC dI aC p s m meth c cc own name) (hR : lk_R HB z dC dI aC h H locs) (hl : lk_L HB.size z ls lo) {i : Nat} (hdg : decode cc pc = .ok (.astore i, 2)) (hst : lk_sta lo i (pc + 2) st h = some q) (kk : lk_k p l e R s m args below meth c cells slots Q HB z dC dI aC lo h q) : W p l e R s m args below meth c H locs cells slots Q (F0 m pc ls (st.map (lk_sv HB.size z))) := by
  obtain ⟨hx, hb, hown, hT, hK, hN, hX, hz, hnm⟩ := id hC
  obtain ⟨v, r, lo', rfl, h1, h2, rfl⟩ := lk_sta_inv hst
  rcases h2 with ⟨x, rfl⟩ | rfl
  · exact lv_astore hx hb hdg hl.has (lk_set_len h1).1 rfl (fun ls' h' => kk.same hR (lk_L.set (v := .ref x) h1 h') (lk_set_len h1).2)
  · exact lv_astoreN hx hb hdg hl.has (lk_set_len h1).1 rfl (fun ls' h' => kk.same hR (lk_L.set (v := .null) h1 h') (lk_set_len h1).2)
theorem lk_s_aload_n (hC : lk_C HB z L xs dC dI aC p s m meth c cc own name) (hR : lk_R HB z dC dI aC h H locs) (hl : lk_L HB.size z ls lo) {i : Fin 4} (hdg : decode cc pc = .ok (.aload_n i, 1)) (hst : lk_lda lo i (pc + 1) st h = some q) (kk : lk_k p l e R s m args below meth c cells slots Q HB z dC dI aC lo h q) : W p l e R s m args below meth c H locs cells slots Q (F0 m pc ls (st.map (lk_sv HB.size z))) := by
  obtain ⟨hx, hb, hown, hT, hK, hN, hX, hz, hnm⟩ := id hC
  obtain ⟨v, h1, h2, h3, rfl⟩ := lk_lda_inv hst
  have h4 := hl.at h1 h2
  have k := kk.same hR hl rfl
  rw [List.map_cons] at k
  rcases h3 with h3 | rfl
  · obtain ⟨x, hv⟩ := h3 HB.size z
    rw [hv] at h4 k
    exact lv_aload_n hx hb hdg rfl h4 k
  · exact lv_aload_nN hx hb hdg rfl h4 k
theorem lk_s_istore_n (hC : lk_C HB z L xs dC dI aC p s m meth c cc own name) (hR : lk_R HB z dC dI aC h H locs) (hl : lk_L HB.size z ls lo) {i : Fin 4} (hdg : decode cc pc = .ok (.istore_n i, 1)) (hst : lk_sti lo i (pc + 1) st h = some q) (kk : lk_k p l e R s m args below meth c cells slots Q HB z dC dI aC lo h q) : W p l e R s m args below meth c H locs cells slots Q (F0 m pc ls (st.map (lk_sv HB.size z))) := by
  obtain ⟨hx, hb, hown, hT, hK, hN, hX, hz, hnm⟩ := id hC
  obtain ⟨x, r, lo', rfl, h1, rfl⟩ := lk_sti_inv hst
  exact lv_istore_n hx hb hdg rfl hl.has (lk_set_len h1).1 rfl (fun ls' h' => kk.same hR (lk_L.set (v := .int x) h1 h') (lk_set_len h1).2)
theorem lk_s_astore_n (hC : lk_C HB z L xs dC dI aC p s m meth c cc own name) (hR : lk_R HB z dC dI aC h H locs) (hl : lk_L HB.size z ls lo) {i : Fin 4} (hdg : decode cc pc = .ok (.astore_n i, 1)) (hst : lk_sta lo i (pc + 1) st h = some q) (kk : lk_k p l e R s m args below meth c cells slots Q HB z dC dI aC lo h q) : W p l e R s m args below meth c H locs cells slots Q (F0 m pc ls (st.map (lk_sv HB.size z))) := by
  obtain ⟨hx, hb, hown, hT, hK, hN, hX, hz, hnm⟩ := id hC
  obtain ⟨v, r, lo', rfl, h1, h2, rfl⟩ := lk_sta_inv hst
  rcases h2 with ⟨x, rfl⟩ | rfl
  · exact lv_astore_n hx hb hdg rfl hl.has (lk_set_len h1).1 rfl (fun ls' h' => kk.same hR (lk_L.set (v := .ref x) h1 h') (lk_set_len h1).2)
  · exact lv_astore_nN hx hb hdg rfl hl.has (lk_set_len h1).1 rfl (fun ls' h' => kk.same hR (lk_L.set (v := .null) h1 h') (lk_set_len h1).2)
theorem lk_s_lstore (hC : lk_C HB z L xs dC dI aC p s m meth c cc own name) (hR : lk_R HB z dC dI aC h H locs) (hl : lk_L HB.size z ls lo) {i : Nat} (hdg : decode cc pc = .ok (.lstore i, 2)) (hst : lk_stl lo i (pc + 2) st h = some q) (kk : lk_k p l e R s m args below meth c cells slots Q HB z dC dI aC lo h q) : W p l e R s m args below meth c H locs cells slots Q (F0 m pc ls (st.map (lk_sv HB.size z))) := by
  obtain ⟨hx, hb, hown, hT, hK, hN, hX, hz, hnm⟩ := id hC
  obtain ⟨x, r, lo', rfl, h1, rfl⟩ := lk_stl_inv hst
  exact lv_lstore hx hb hdg hl.has (lk_set2_len h1).1 rfl (fun ls' h' => kk.same hR (lk_L.set2 (v := .long x) h1 h') (lk_set2_len h1).2)
theorem lk_s_iinc (hC : lk_C HB z L xs dC dI aC p s m meth c cc own name) (hR : lk_R HB z dC dI aC h H locs) (hl : lk_L HB.size z ls lo) {i : Nat} {n : Int} (hdg : decode cc pc = .ok (.iinc i n, 3)) (hsd : inf.2.2 = .int (Int32.ofInt n)) (hst : lk_inc lo i (pc + 3) inf.2.2 st h = some q) (kk : lk_k p l e R s m args below meth c cells slots Q HB z dC dI aC lo h q) : W p l e R s m args below meth c H locs cells slots Q (F0 m pc ls (st.map (lk_sv HB.size z))) := by
  obtain ⟨hx, hb, hown, hT, hK, hN, hX, hz, hnm⟩ := id hC
  obtain ⟨x, y, lo', h0, h2, h1, rfl⟩ := lk_inc_inv hst
  rw [hsd] at h2
  cases h2
  obtain ⟨k, hk⟩ := List.getElem?_of_mem (lk_al_mem (b := HB.size) (z := z) h0 rfl)
  exact lv_iinc hx hb hdg hl.has hk rfl (lk_set_len h1).1 rfl (fun ls' h' => kk.same hR (lk_L.set (v := .int (x + Int32.ofInt n)) h1 h') (lk_set_len h1).2)
theorem lk_s_iadd (hC : lk_C HB z L xs dC dI aC p s m meth c cc own name) (hR : lk_R HB z dC dI aC h H locs) (hl : lk_L HB.size z ls lo) (hdg : decode cc pc = .ok (.iadd, 1)) (hst : lk_ii (fun x y => some (.int (x + y))) pc lo st h = some q) (kk : lk_k p l e R s m args below meth c cells slots Q HB z dC dI aC lo h q) : W p l e R s m args below meth c H locs cells slots Q (F0 m pc ls (st.map (lk_sv HB.size z))) := by
  obtain ⟨hx, hb, hown, hT, hK, hN, hX, hz, hnm⟩ := id hC
  obtain ⟨x, y, r, v, rfl, h1, rfl⟩ := lk_ii_inv hst
  cases h1
  exact lv_iadd hx hb hdg (kk.same hR hl rfl)
theorem lk_s_isub (hC : lk_C HB z L xs dC dI aC p s m meth c cc own name) (hR : lk_R HB z dC dI aC h H locs) (hl : lk_L HB.size z ls lo) (hdg : decode cc pc = .ok (.isub, 1)) (hst : lk_ii (fun x y => some (.int (x - y))) pc lo st h = some q) (kk : lk_k p l e R s m args below meth c cells slots Q HB z dC dI aC lo h q) : W p l e R s m args below meth c H locs cells slots Q (F0 m pc ls (st.map (lk_sv HB.size z))) := by
  obtain ⟨hx, hb, hown, hT, hK, hN, hX, hz, hnm⟩ := id hC
  obtain ⟨x, y, r, v, rfl, h1, rfl⟩ := lk_ii_inv hst
  cases h1
  exact lv_isub hx hb hdg (kk.same hR hl rfl)
theorem lk_s_imul (hC : lk_C HB z L xs dC dI aC p s m meth c cc own name) (hR : lk_R HB z dC dI aC h H locs) (hl : lk_L HB.size z ls lo) (hdg : decode cc pc = .ok (.imul, 1)) (hst : lk_ii (fun x y => some (.int (x * y))) pc lo st h = some q) (kk : lk_k p l e R s m args below meth c cells slots Q HB z dC dI aC lo h q) : W p l e R s m args below meth c H locs cells slots Q (F0 m pc ls (st.map (lk_sv HB.size z))) := by
  obtain ⟨hx, hb, hown, hT, hK, hN, hX, hz, hnm⟩ := id hC
  obtain ⟨x, y, r, v, rfl, h1, rfl⟩ := lk_ii_inv hst
  cases h1
  exact lv_imul hx hb hdg (kk.same hR hl rfl)
theorem lk_s_iand (hC : lk_C HB z L xs dC dI aC p s m meth c cc own name) (hR : lk_R HB z dC dI aC h H locs) (hl : lk_L HB.size z ls lo) (hdg : decode cc pc = .ok (.iand, 1)) (hst : lk_ii (fun x y => some (.int (x &&& y))) pc lo st h = some q) (kk : lk_k p l e R s m args below meth c cells slots Q HB z dC dI aC lo h q) : W p l e R s m args below meth c H locs cells slots Q (F0 m pc ls (st.map (lk_sv HB.size z))) := by
  obtain ⟨hx, hb, hown, hT, hK, hN, hX, hz, hnm⟩ := id hC
  obtain ⟨x, y, r, v, rfl, h1, rfl⟩ := lk_ii_inv hst
  cases h1
  exact lv_iand hx hb hdg (kk.same hR hl rfl)
theorem lk_s_ior (hC : lk_C HB z L xs dC dI aC p s m meth c cc own name) (hR : lk_R HB z dC dI aC h H locs) (hl : lk_L HB.size z ls lo) (hdg : decode cc pc = .ok (.ior, 1)) (hst : lk_ii (fun x y => some (.int (x ||| y))) pc lo st h = some q) (kk : lk_k p l e R s m args below meth c cells slots Q HB z dC dI aC lo h q) : W p l e R s m args below meth c H locs cells slots Q (F0 m pc ls (st.map (lk_sv HB.size z))) := by
  obtain ⟨hx, hb, hown, hT, hK, hN, hX, hz, hnm⟩ := id hC
  obtain ⟨x, y, r, v, rfl, h1, rfl⟩ := lk_ii_inv hst
  cases h1
  exact lv_ior hx hb hdg (kk.same hR hl rfl)
theorem lk_s_ishl (hC : lk_C HB z L xs dC dI aC p s m meth c cc own name) (hR : lk_R HB z dC dI aC h H locs) (hl : lk_L HB.size z ls lo) (hdg : decode cc pc = .ok (.ishl, 1)) (hst : lk_ii (fun x y => some (.int (x <<< (y &&& 31)))) pc lo st h = some q) (kk : lk_k p l e R s m args below meth c cells slots Q HB z dC dI aC lo h q) : W p l e R s m args below meth c H locs cells slots Q (F0 m pc ls (st.map (lk_sv HB.size z))) := by
  obtain ⟨hx, hb, hown, hT, hK, hN, hX, hz, hnm⟩ := id hC
  obtain ⟨x, y, r, v, rfl, h1, rfl⟩ := lk_ii_inv hst
  cases h1
  exact lv_ishl hx hb hdg (kk.same hR hl rfl)
theorem lk_s_ishr (hC : lk_C HB z L xs dC dI aC p s m meth c cc own name) (hR : lk_R HB z dC dI aC h H locs) (hl : lk_L HB.size z ls lo) (hdg : decode cc pc = .ok (.ishr, 1)) (hst : lk_ii (fun x y => some (.int (x >>> (y &&& 31)))) pc lo st h = some q) (kk : lk_k p l e R s m args below meth c cells slots Q HB z dC dI aC lo h q) : W p l e R s m args below meth c H locs cells slots Q (F0 m pc ls (st.map (lk_sv HB.size z))) := by
  obtain ⟨hx, hb, hown, hT, hK, hN, hX, hz, hnm⟩ := id hC
  obtain ⟨x, y, r, v, rfl, h1, rfl⟩ := lk_ii_inv hst
  cases h1
  exact lv_ishr hx hb hdg (kk.same hR hl rfl)
theorem lk_s_idiv (hC : lk_C HB z L xs dC dI aC p s m meth c cc own name) (hR : lk_R HB z dC dI aC h H locs) (hl : lk_L HB.size z ls lo) (hdg : decode cc pc = .ok (.idiv, 1)) (hst : lk_ii (fun x y => if y = 0 then none else some (.int (x / y))) pc lo st h = some q) (kk : lk_k p l e R s m args below meth c cells slots Q HB z dC dI aC lo h q) : W p l e R s m args below meth c H locs cells slots Q (F0 m pc ls (st.map (lk_sv HB.size z))) := by
  obtain ⟨hx, hb, hown, hT, hK, hN, hX, hz, hnm⟩ := id hC
  obtain ⟨x, y, r, v, rfl, h1, rfl⟩ := lk_ii_inv hst
  by_cases hy : y = 0
  · rw [if_pos hy] at h1; cases h1
  · rw [if_neg hy] at h1
    cases h1
    exact lv_idiv hx hb hdg hy (kk.same hR hl rfl)
theorem lk_s_irem (hC : lk_C HB z L xs dC dI aC p s m meth c cc own name) (hR : lk_R HB z dC dI aC h H locs) (hl : lk_L HB.size z ls lo) (hdg : decode cc pc = .ok (.irem, 1)) (hst : lk_ii (fun x y => if y = 0 then none else some (.int (x - x / y * y))) pc lo st h = some q) (kk : lk_k p l e R s m args below meth c cells slots Q HB z dC dI aC lo h q) : W p l e R s m args below meth c H locs cells slots Q (F0 m pc ls (st.map (lk_sv HB.size z))) := by
  obtain ⟨hx, hb, hown, hT, hK, hN, hX, hz, hnm⟩ := id hC
  obtain ⟨x, y, r, v, rfl, h1, rfl⟩ := lk_ii_inv hst
  by_cases hy : y = 0
  · rw [if_pos hy] at h1; cases h1
  · rw [if_neg hy] at h1
    cases h1
    exact lv_irem hx hb hdg hy (kk.same hR hl rfl)
theorem lk_s_ladd (hC : lk_C HB z L xs dC dI aC p s m meth c cc own name) (hR : lk_R HB z dC dI aC h H locs) (hl : lk_L HB.size z ls lo) (hdg : decode cc pc = .ok (.ladd, 1)) (hst : lk_ll (fun x y => some (.long (x + y))) pc lo st h = some q) (kk : lk_k p l e R s m args below meth c cells slots Q HB z dC dI aC lo h q) : W p l e R s m args below meth c H locs cells slots Q (F0 m pc ls (st.map (lk_sv HB.size z))) := by
  obtain ⟨hx, hb, hown, hT, hK, hN, hX, hz, hnm⟩ := id hC
  obtain ⟨x, y, r, v, rfl, h1, rfl⟩ := lk_ll_inv hst
  cases h1
  exact lv_ladd hx hb hdg (kk.same hR hl rfl)
theorem lk_s_lsub (hC : lk_C HB z L xs dC dI aC p s m meth c cc own name) (hR : lk_R HB z dC dI aC h H locs) (hl : lk_L HB.size z ls lo) (hdg : decode cc pc = .ok (.lsub, 1)) (hst : lk_ll (fun x y => some (.long (x - y))) pc lo st h = some q) (kk : lk_k p l e R s m args below meth c cells slots Q HB z dC dI aC lo h q) : W p l e R s m args below meth c H locs cells slots Q (F0 m pc ls (st.map (lk_sv HB.size z))) := by
  obtain ⟨hx, hb, hown, hT, hK, hN, hX, hz, hnm⟩ := id hC
  obtain ⟨x, y, r, v, rfl, h1, rfl⟩ := lk_ll_inv hst
  cases h1
  exact lv_lsub hx hb hdg (kk.same hR hl rfl)
theorem lk_s_lmul (hC : lk_C HB z L xs dC dI aC p s m meth c cc own name) (hR : lk_R HB z dC dI aC h H locs) (hl : lk_L HB.size z ls lo) (hdg : decode cc pc = .ok (.lmul, 1)) (hst : lk_ll (fun x y => some (.long (x * y))) pc lo st h = some q) (kk : lk_k p l e R s m args below meth c cells slots Q HB z dC dI aC lo h q) : W p l e R s m args below meth c H locs cells slots Q (F0 m pc ls (st.map (lk_sv HB.size z))) := by
  obtain ⟨hx, hb, hown, hT, hK, hN, hX, hz, hnm⟩ := id hC
  obtain ⟨x, y, r, v, rfl, h1, rfl⟩ := lk_ll_inv hst
  cases h1
  exact lv_lmul hx hb hdg (kk.same hR hl rfl)
theorem lk_s_lcmp (hC : lk_C HB z L xs dC dI aC p s m meth c cc own name) (hR : lk_R HB z dC dI aC h H locs) (hl : lk_L HB.size z ls lo) (hdg : decode cc pc = .ok (.lcmp, 1)) (hst : lk_ll (fun x y => some (.int (lg_cmp x y))) pc lo st h = some q) (kk : lk_k p l e R s m args below meth c cells slots Q HB z dC dI aC lo h q) : W p l e R s m args below meth c H locs cells slots Q (F0 m pc ls (st.map (lk_sv HB.size z))) := by
  obtain ⟨hx, hb, hown, hT, hK, hN, hX, hz, hnm⟩ := id hC
  obtain ⟨x, y, r, v, rfl, h1, rfl⟩ := lk_ll_inv hst
  cases h1
  exact W.lcmp hx hb hdg (kk.same hR hl rfl)
theorem lk_s_i2l (hC : lk_C HB z L xs dC dI aC p s m meth c cc own name) (hR : lk_R HB z dC dI aC h H locs) (hl : lk_L HB.size z ls lo) (hdg : decode cc pc = .ok (.i2l, 1)) (hst : lk_i1 (fun x => .long x.toInt64) pc lo st h = some q) (kk : lk_k p l e R s m args below meth c cells slots Q HB z dC dI aC lo h q) : W p l e R s m args below meth c H locs cells slots Q (F0 m pc ls (st.map (lk_sv HB.size z))) := by
  obtain ⟨hx, hb, hown, hT, hK, hN, hX, hz, hnm⟩ := id hC
  obtain ⟨x, r, rfl, rfl⟩ := lk_i1_inv hst
  exact lv_i2l hx hb hdg rfl (kk.same hR hl rfl)
theorem lk_s_i2b (hC : lk_C HB z L xs dC dI aC p s m meth c cc own name) (hR : lk_R HB z dC dI aC h H locs) (hl : lk_L HB.size z ls lo) (hdg : decode cc pc = .ok (.i2b, 1)) (hst : lk_i1 (fun x => .int x.toInt8.toInt32) pc lo st h = some q) (kk : lk_k p l e R s m args below meth c cells slots Q HB z dC dI aC lo h q) : W p l e R s m args below meth c H locs cells slots Q (F0 m pc ls (st.map (lk_sv HB.size z))) := by
  obtain ⟨hx, hb, hown, hT, hK, hN, hX, hz, hnm⟩ := id hC
  obtain ⟨x, r, rfl, rfl⟩ := lk_i1_inv hst
  exact lv_i2b hx hb hdg rfl (kk.same hR hl rfl)
theorem lk_s_i2s (hC : lk_C HB z L xs dC dI aC p s m meth c cc own name) (hR : lk_R HB z dC dI aC h H locs) (hl : lk_L HB.size z ls lo) (hdg : decode cc pc = .ok (.i2s, 1)) (hst : lk_i1 (fun x => .int x.toInt16.toInt32) pc lo st h = some q) (kk : lk_k p l e R s m args below meth c cells slots Q HB z dC dI aC lo h q) : W p l e R s m args below meth c H locs cells slots Q (F0 m pc ls (st.map (lk_sv HB.size z))) := by
  obtain ⟨hx, hb, hown, hT, hK, hN, hX, hz, hnm⟩ := id hC
  obtain ⟨x, r, rfl, rfl⟩ := lk_i1_inv hst
  exact lv_i2s hx hb hdg rfl (kk.same hR hl rfl)
end LKS2
