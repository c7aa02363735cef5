section LKS5
variable {p : Program} {l : Launch} {e : Env} {R : Room} {s : State} {m : MethodId} {args : Array Value} {below : List Frame} {meth : Method} {c : Code} {H : Heap} {locs : List Loc} {cells slots : Nat} {Q : State → Prop}
variable {HB : Heap} {z L : Nat} {xs : Nat → Int32} {dC : Nat → ClassId} {dI : Nat → Nat → Nat} {aC : Nat → ClassId} {cc : ByteArray} {own name : String}
variable {pc : Nat} {lo st : List Value} {h : lk_H} {ls : Array Slot} {inf : lk_I} {q : lk_S}

theorem lk_s_ifCond (hC : lk_C HB z L xs dC dI aC p s m meth c cc own name) (hR : lk_R HB z dC dI aC h H locs) (hl : lk_L HB.size z ls lo) {cd : Jvm.ClassFile.Cond} {off : Int} (hdg : decode cc pc = .ok (.ifCond cd off, 3)) (hsd : (pc : Int) + off = (inf.1 : Int)) (hst : (match st with
    | .int x :: r => lk_if cd x 0 (some (inf.1, lo, r, h)) (some (pc + 3, lo, r, h))
    | _ => none) = some q) (kk : lk_k p l e R s m args below meth c cells slots Q HB z dC dI aC lo h q) : W p l e R s m args below meth c H locs cells slots Q (F0 m pc ls (st.map (lk_sv HB.size z))) := by
  obtain ⟨hx, hb, hown, hT, hK, hN, hX, hz, hnm⟩ := id hC
  split at hst
  · rename_i x r
    cases cd with
    | eq =>
      refine lv_if_eq (tgt := inf.1) hx hb hdg hsd (fun hc => ?_) (fun hc => ?_)
      · simp only [lk_if] at hst
        rw [if_pos hc] at hst
        cases hst
        exact kk.same hR hl rfl
      · simp only [lk_if] at hst
        rw [if_neg hc] at hst
        cases hst
        exact kk.same hR hl rfl
    | ne =>
      refine lv_if_ne (tgt := inf.1) hx hb hdg hsd (fun hc => ?_) (fun hc => ?_)
      · simp only [lk_if] at hst
        rw [if_pos hc] at hst
        cases hst
        exact kk.same hR hl rfl
      · simp only [lk_if] at hst
        rw [if_neg (fun q => q hc)] at hst
        cases hst
        exact kk.same hR hl rfl
    | lt =>
      refine lv_if_lt (tgt := inf.1) hx hb hdg hsd (fun hc => ?_) (fun hc => ?_)
      · simp only [lk_if] at hst
        rw [if_pos hc] at hst
        cases hst
        exact kk.same hR hl rfl
      · simp only [lk_if] at hst
        rw [if_neg hc] at hst
        cases hst
        exact kk.same hR hl rfl
    | ge =>
      refine lv_if_ge (tgt := inf.1) hx hb hdg hsd (fun hc => ?_) (fun hc => ?_)
      · simp only [lk_if] at hst
        rw [if_pos hc] at hst
        cases hst
        exact kk.same hR hl rfl
      · simp only [lk_if] at hst
        rw [if_neg hc] at hst
        cases hst
        exact kk.same hR hl rfl
    | gt =>
      refine lv_if_gt (tgt := inf.1) hx hb hdg hsd (fun hc => ?_) (fun hc => ?_)
      · simp only [lk_if] at hst
        rw [if_pos hc] at hst
        cases hst
        exact kk.same hR hl rfl
      · simp only [lk_if] at hst
        rw [if_neg hc] at hst
        cases hst
        exact kk.same hR hl rfl
    | le =>
      refine lv_if_le (tgt := inf.1) hx hb hdg hsd (fun hc => ?_) (fun hc => ?_)
      · simp only [lk_if] at hst
        rw [if_pos hc] at hst
        cases hst
        exact kk.same hR hl rfl
      · simp only [lk_if] at hst
        rw [if_neg hc] at hst
        cases hst
        exact kk.same hR hl rfl
  · cases hst
theorem lk_s_if_icmp (hC : lk_C HB z L xs dC dI aC p s m meth c cc own name) (hR : lk_R HB z dC dI aC h H locs) (hl : lk_L HB.size z ls lo) {cd : Jvm.ClassFile.Cond} {off : Int} (hdg : decode cc pc = .ok (.if_icmp cd off, 3)) (hsd : (pc : Int) + off = (inf.1 : Int)) (hst : (match st with
    | .int y :: .int x :: r => lk_if cd x y (some (inf.1, lo, r, h)) (some (pc + 3, lo, r, h))
    | _ => none) = some q) (kk : lk_k p l e R s m args below meth c cells slots Q HB z dC dI aC lo h q) : W p l e R s m args below meth c H locs cells slots Q (F0 m pc ls (st.map (lk_sv HB.size z))) := by
  obtain ⟨hx, hb, hown, hT, hK, hN, hX, hz, hnm⟩ := id hC
  split at hst
  · rename_i y x r
    cases cd with
    | eq =>
      refine lv_icmp_eq (tgt := inf.1) hx hb hdg hsd (fun hc => ?_) (fun hc => ?_)
      · simp only [lk_if] at hst
        rw [if_pos hc] at hst
        cases hst
        exact kk.same hR hl rfl
      · simp only [lk_if] at hst
        rw [if_neg hc] at hst
        cases hst
        exact kk.same hR hl rfl
    | ne =>
      refine lv_icmp_ne (tgt := inf.1) hx hb hdg hsd (fun hc => ?_) (fun hc => ?_)
      · simp only [lk_if] at hst
        rw [if_pos hc] at hst
        cases hst
        exact kk.same hR hl rfl
      · simp only [lk_if] at hst
        rw [if_neg (fun q => q hc)] at hst
        cases hst
        exact kk.same hR hl rfl
    | lt =>
      refine lv_icmp_lt (tgt := inf.1) hx hb hdg hsd (fun hc => ?_) (fun hc => ?_)
      · simp only [lk_if] at hst
        rw [if_pos hc] at hst
        cases hst
        exact kk.same hR hl rfl
      · simp only [lk_if] at hst
        rw [if_neg hc] at hst
        cases hst
        exact kk.same hR hl rfl
    | ge =>
      refine lv_icmp_ge (tgt := inf.1) hx hb hdg hsd (fun hc => ?_) (fun hc => ?_)
      · simp only [lk_if] at hst
        rw [if_pos hc] at hst
        cases hst
        exact kk.same hR hl rfl
      · simp only [lk_if] at hst
        rw [if_neg hc] at hst
        cases hst
        exact kk.same hR hl rfl
    | gt =>
      refine lv_icmp_gt (tgt := inf.1) hx hb hdg hsd (fun hc => ?_) (fun hc => ?_)
      · simp only [lk_if] at hst
        rw [if_pos hc] at hst
        cases hst
        exact kk.same hR hl rfl
      · simp only [lk_if] at hst
        rw [if_neg hc] at hst
        cases hst
        exact kk.same hR hl rfl
    | le =>
      refine lv_icmp_le (tgt := inf.1) hx hb hdg hsd (fun hc => ?_) (fun hc => ?_)
      · simp only [lk_if] at hst
        rw [if_pos hc] at hst
        cases hst
        exact kk.same hR hl rfl
      · simp only [lk_if] at hst
        rw [if_neg hc] at hst
        cases hst
        exact kk.same hR hl rfl
  · cases hst
theorem lk_s_ifnull (hC : lk_C HB z L xs dC dI aC p s m meth c cc own name) (hR : lk_R HB z dC dI aC h H locs) (hl : lk_L HB.size z ls lo) {off : Int} (hdg : decode cc pc = .ok (.ifnull off, 3)) (hsd : (pc : Int) + off = (inf.1 : Int)) (hst : (match st with
    | .null :: r => some (inf.1, lo, r, h)
    | .ref _ :: r => some (pc + 3, lo, r, h)
    | _ => none) = some q) (kk : lk_k p l e R s m args below meth c cells slots Q HB z dC dI aC lo h q) : W p l e R s m args below meth c H locs cells slots Q (F0 m pc ls (st.map (lk_sv HB.size z))) := by
  obtain ⟨hx, hb, hown, hT, hK, hN, hX, hz, hnm⟩ := id hC
  split at hst
  · rename_i r
    cases hst
    exact lv_ifnullN hx hb hdg hsd (kk.same hR hl rfl)
  · rename_i a r
    cases hst
    exact lv_ifnull hx hb hdg (kk.same hR hl rfl)
  · cases hst
theorem lk_s_ifnonnull (hC : lk_C HB z L xs dC dI aC p s m meth c cc own name) (hR : lk_R HB z dC dI aC h H locs) (hl : lk_L HB.size z ls lo) {off : Int} (hdg : decode cc pc = .ok (.ifnonnull off, 3)) (hsd : (pc : Int) + off = (inf.1 : Int)) (hst : (match st with
    | .null :: r => some (pc + 3, lo, r, h)
    | .ref _ :: r => some (inf.1, lo, r, h)
    | _ => none) = some q) (kk : lk_k p l e R s m args below meth c cells slots Q HB z dC dI aC lo h q) : W p l e R s m args below meth c H locs cells slots Q (F0 m pc ls (st.map (lk_sv HB.size z))) := by
  obtain ⟨hx, hb, hown, hT, hK, hN, hX, hz, hnm⟩ := id hC
  split at hst
  · rename_i r
    cases hst
    exact lv_ifnonnullN hx hb hdg (kk.same hR hl rfl)
  · rename_i a r
    cases hst
    exact lv_ifnonnull hx hb hdg hsd (kk.same hR hl rfl)
  · cases hst
theorem lk_s_table (hC : lk_C HB z L xs dC dI aC p s m meth c cc own name) (hR : lk_R HB z dC dI aC h H locs) (hl : lk_L HB.size z ls lo) {d lw hi : Int} {offs : Array Int} {len : Nat} (hdg : decode cc pc = .ok (.tableswitch d lw hi offs, len)) (hsd : lk_sd own name pc (.tableswitch d lw hi offs) inf = true) (hst : (match st with
    | .int x :: r => some (lk_sw inf.2.1 inf.1 x, lo, r, h)
    | _ => none) = some q) (kk : lk_k p l e R s m args below meth c cells slots Q HB z dC dI aC lo h q) : W p l e R s m args below meth c H locs cells slots Q (F0 m pc ls (st.map (lk_sv HB.size z))) := by
  obtain ⟨hx, hb, hown, hT, hK, hN, hX, hz, hnm⟩ := id hC
  split at hst
  · rename_i x r
    cases hst
    simp only [lk_sd, Bool.and_eq_true, decide_eq_true_eq] at hsd
    obtain ⟨⟨⟨⟨h1, h2⟩, h3⟩, h4⟩, h5⟩ := hsd
    subst h1
    have hlen : inf.2.1.length = offs.size := by
      have h6 := congrArg List.length h5
      simpa using h6
    have hat : ∀ (k v w : Nat), inf.2.1[k]? = some (v, w) → v = k ∧ ∃ o, offs[k]? = some o ∧ (pc : Int) + o = (w : Int) := by
      intro k v w hk
      have h6 : (inf.2.1.map (fun q => ((q.1 : Int), (q.2 : Int))))[k]? = some ((v : Int), (w : Int)) := by rw [List.getElem?_map, hk]; rfl
      rw [h5, List.getElem?_map, List.getElem?_zipIdx] at h6
      cases ho : offs.toList[k]? with
      | none => rw [ho] at h6; cases h6
      | some o =>
        rw [ho] at h6
        simp only [Option.map_some, Option.some.injEq, Prod.mk.injEq] at h6
        refine ⟨by omega, o, by rw [← Array.getElem?_toList]; exact ho, h6.2⟩
    by_cases hout : x.toInt < 0 ∨ hi < x.toInt
    · refine lv_tableOut hx hb hdg hout (tgt := lk_sw inf.2.1 inf.1 x) ?_ (kk.same hR hl rfl)
      rw [lk_sw_no]
      · exact h3
      · intro q hq hxq
        obtain ⟨k, hk⟩ := List.getElem?_of_mem hq
        have hkl := (List.getElem?_eq_some_iff.mp hk).1
        obtain ⟨h7, -⟩ := hat k q.1 q.2 hk
        have h8 : x.toInt = (q.1 : Int) := by rw [hxq]; exact nI_toInt (by omega)
        rcases hout with h9 | h9 <;> omega
    · have h6 : ¬ x.toInt < 0 := fun q => hout (Or.inl q)
      have h7 : ¬ hi < x.toInt := fun q => hout (Or.inr q)
      have hk : x.toInt.toNat < inf.2.1.length := by omega
      obtain ⟨v, w, hvw⟩ : ∃ v w, inf.2.1[x.toInt.toNat]? = some (v, w) := ⟨_, _, List.getElem?_eq_getElem hk⟩
      obtain ⟨rfl, o, ho, hpo⟩ := hat _ v w hvw
      have hxx : x = Int32.ofNat x.toInt.toNat := Int32.toInt_inj.mp (by rw [show (Int32.ofNat x.toInt.toNat).toInt = (x.toInt.toNat : Int) from nI_toInt (by omega)]; omega)
      have hsw : lk_sw inf.2.1 inf.1 x = w := by
        refine lk_sw_yes hvw hxx (fun k v2 w2 hk2 hlt => ?_)
        obtain ⟨h10, -⟩ := hat k v2 w2 hk2
        intro hq
        have h11 := congrArg Int32.toInt hq
        rw [show (Int32.ofNat x.toInt.toNat).toInt = (x.toInt.toNat : Int) from nI_toInt (by omega), show (Int32.ofNat v2).toInt = (v2 : Int) from nI_toInt (by omega)] at h11
        omega
      refine lv_tableIn hx hb hdg h6 h7 (off := o) (tgt := lk_sw inf.2.1 inf.1 x) (by rw [Int.sub_zero]; exact ho) (by rw [hsw]; exact hpo) (kk.same hR hl rfl)
  · cases hst
theorem lk_s_look (hC : lk_C HB z L xs dC dI aC p s m meth c cc own name) (hR : lk_R HB z dC dI aC h H locs) (hl : lk_L HB.size z ls lo) {d : Int} {ps : Array (Int × Int)} {len : Nat} (hdg : decode cc pc = .ok (.lookupswitch d ps, len)) (hsd : lk_sd own name pc (.lookupswitch d ps) inf = true) (hst : (match st with
    | .int x :: r => some (lk_sw inf.2.1 inf.1 x, lo, r, h)
    | _ => none) = some q) (kk : lk_k p l e R s m args below meth c cells slots Q HB z dC dI aC lo h q) : W p l e R s m args below meth c H locs cells slots Q (F0 m pc ls (st.map (lk_sv HB.size z))) := by
  obtain ⟨hx, hb, hown, hT, hK, hN, hX, hz, hnm⟩ := id hC
  split at hst
  · rename_i x r
    cases hst
    simp only [lk_sd, Bool.and_eq_true, decide_eq_true_eq] at hsd
    obtain ⟨⟨⟨h1, h2⟩, h3⟩, h5⟩ := hsd
    refine lv_lookup hx hb hdg h1 (off := Op.lookupswitch.offset ps.toList d x.toInt) rfl (tgt := lk_sw inf.2.1 inf.1 x) ?_ (kk.same hR hl rfl)
    exact lk_sw_look h2 _ _ h5 (fun q hq => of_decide_eq_true (List.all_eq_true.mp h3 q hq))
  · cases hst
/-- EVERY STEP: what the small machine does the machine does -/
theorem lk_step (hC : lk_C HB z L xs dC dI aC p s m meth c cc own name) (hR : lk_R HB z dC dI aC h H locs) (hl : lk_L HB.size z ls lo) {I : Instr} {len : Nat} (hdg : decode cc pc = .ok (I, len)) (hln : lk_ls I len = true) (hwd : ∀ w ∈ lk_wd own I inf, w ∈ lk_tbl) (hsd : lk_sd own name pc I inf = true) (hn : c.maxLocals = lo.length) (hfr : 1 ≤ R.frames) (hlo : 64 ≤ R.locals) (hbd : s.heap.size + cells = HB.size + h.length) (hcl : cells + (q.2.2.2.length - h.length) ≤ R.cells) (hsl : slots + (lk_sz q.2.2.2 - lk_sz h) ≤ R.slots)
    (hst : lk_st1 (L, xs) I len inf pc lo st h = some q) (kk : lk_k p l e R s m args below meth c cells slots Q HB z dC dI aC lo h q) : W p l e R s m args below meth c H locs cells slots Q (F0 m pc ls (st.map (lk_sv HB.size z))) := by
  obtain ⟨hx, hb, hown, hT, hK, hN, hX, hz, hnm⟩ := id hC
  have key : ∀ k : Nat, lk_ls I len = (len == k) → len = k := fun k hk => by rw [hk] at hln; exact beq_iff_eq.mp hln
  cases I
  case iadd  =>
    obtain rfl := key 1 rfl
    exact lk_s_iadd hC hR hl hdg hst kk
  case isub  =>
    obtain rfl := key 1 rfl
    exact lk_s_isub hC hR hl hdg hst kk
  case imul  =>
    obtain rfl := key 1 rfl
    exact lk_s_imul hC hR hl hdg hst kk
  case idiv  =>
    obtain rfl := key 1 rfl
    exact lk_s_idiv hC hR hl hdg hst kk
  case irem  =>
    obtain rfl := key 1 rfl
    exact lk_s_irem hC hR hl hdg hst kk
  case iand  =>
    obtain rfl := key 1 rfl
    exact lk_s_iand hC hR hl hdg hst kk
  case ior  =>
    obtain rfl := key 1 rfl
    exact lk_s_ior hC hR hl hdg hst kk
  case ishl  =>
    obtain rfl := key 1 rfl
    exact lk_s_ishl hC hR hl hdg hst kk
  case ishr  =>
    obtain rfl := key 1 rfl
    exact lk_s_ishr hC hR hl hdg hst kk
  case ladd  =>
    obtain rfl := key 1 rfl
    exact lk_s_ladd hC hR hl hdg hst kk
  case lsub  =>
    obtain rfl := key 1 rfl
    exact lk_s_lsub hC hR hl hdg hst kk
  case lmul  =>
    obtain rfl := key 1 rfl
    exact lk_s_lmul hC hR hl hdg hst kk
  case lcmp  =>
    obtain rfl := key 1 rfl
    exact lk_s_lcmp hC hR hl hdg hst kk
  case i2l  =>
    obtain rfl := key 1 rfl
    exact lk_s_i2l hC hR hl hdg hst kk
  case i2b  =>
    obtain rfl := key 1 rfl
    exact lk_s_i2b hC hR hl hdg hst kk
  case i2s  =>
    obtain rfl := key 1 rfl
    exact lk_s_i2s hC hR hl hdg hst kk
  case iaload  =>
    obtain rfl := key 1 rfl
    exact lk_s_iaload hC hR hl hdg hst kk
  case iastore  =>
    obtain rfl := key 1 rfl
    exact lk_s_iastore hC hR hl hdg hst kk
  case baload  =>
    obtain rfl := key 1 rfl
    exact lk_s_baload hC hR hl hdg hst kk
  case bastore  =>
    obtain rfl := key 1 rfl
    exact lk_s_bastore hC hR hl hdg hst kk
  case aaload  =>
    obtain rfl := key 1 rfl
    exact lk_s_aaload hC hR hl hdg hst kk
  case aastore  =>
    obtain rfl := key 1 rfl
    exact lk_s_aastore hC hR hl hdg hst kk
  case arraylength  =>
    obtain rfl := key 1 rfl
    exact lk_s_arraylength hC hR hl hdg hst kk
  case iload i =>
    obtain rfl := key 2 rfl
    exact lk_s_iload hC hR hl hdg hst kk
  case iload_n i =>
    obtain rfl := key 1 rfl
    exact lk_s_iload_n hC hR hl hdg hst kk
  case lload i =>
    obtain rfl := key 2 rfl
    exact lk_s_lload hC hR hl hdg hst kk
  case lload_n i =>
    obtain rfl := key 1 rfl
    exact lk_s_lload_n hC hR hl hdg hst kk
  case aload i =>
    obtain rfl := key 2 rfl
    exact lk_s_aload hC hR hl hdg hst kk
  case aload_n i =>
    obtain rfl := key 1 rfl
    exact lk_s_aload_n hC hR hl hdg hst kk
  case istore i =>
    obtain rfl := key 2 rfl
    exact lk_s_istore hC hR hl hdg hst kk
  case istore_n i =>
    obtain rfl := key 1 rfl
    exact lk_s_istore_n hC hR hl hdg hst kk
  case lstore i =>
    obtain rfl := key 2 rfl
    exact lk_s_lstore hC hR hl hdg hst kk
  case astore i =>
    obtain rfl := key 2 rfl
    exact lk_s_astore hC hR hl hdg hst kk
  case astore_n i =>
    obtain rfl := key 1 rfl
    exact lk_s_astore_n hC hR hl hdg hst kk
  case iinc i n =>
    obtain rfl := key 3 rfl
    exact lk_s_iinc hC hR hl hdg (of_decide_eq_true hsd) hst kk
  case iconst i =>
    obtain rfl := key 1 rfl
    cases hst
    have k := kk.same hR hl rfl
    rw [List.map_cons, of_decide_eq_true hsd] at k
    exact lv_iconst hx hb hdg rfl k
  case bipush i =>
    obtain rfl := key 2 rfl
    cases hst
    have k := kk.same hR hl rfl
    rw [List.map_cons, of_decide_eq_true hsd] at k
    exact lv_bipush hx hb hdg rfl k
  case sipush i =>
    obtain rfl := key 3 rfl
    cases hst
    have k := kk.same hR hl rfl
    rw [List.map_cons, of_decide_eq_true hsd] at k
    exact lv_sipush hx hb hdg rfl k
  case lconst i =>
    obtain rfl := key 1 rfl
    cases hst
    have k := kk.same hR hl rfl
    rw [List.map_cons, of_decide_eq_true hsd] at k
    exact lv_lconst hx hb hdg rfl k
  case ldc i =>
    obtain rfl := key 2 rfl
    cases hst
    have k := kk.same hR hl rfl
    rw [List.map_cons] at k
    cases hv : inf.2.2 with
    | int v =>
      rw [hv] at k
      simp only [lk_wd, hv] at hwd
      exact lv_ldc hx hb hown (hT.use (w := .constant own i v) (hwd _ List.mem_cons_self) rfl args) hdg k
    | _ => simp [lk_sd, hv] at hsd
  case ldc2_w i =>
    obtain rfl := key 3 rfl
    cases hst
    have k := kk.same hR hl rfl
    rw [List.map_cons] at k
    cases hv : inf.2.2 with
    | long v =>
      rw [hv] at k
      simp only [lk_wd, hv] at hwd
      exact lv_ldc2 hx hb hown (hT.use (w := .constantLong own i v) (hwd _ List.mem_cons_self) rfl args) hdg k
    | _ => simp [lk_sd, hv] at hsd
  case aconst_null  =>
    obtain rfl := key 1 rfl
    cases hst
    exact lv_null hx hb hdg (kk.same hR hl rfl)
  case l2i  =>
    obtain rfl := key 1 rfl
    simp only [lk_st1] at hst
    split at hst
    · cases hst
      exact lv_l2i hx hb hdg rfl (kk.same hR hl rfl)
    · cases hst
  case dup  =>
    obtain rfl := key 1 rfl
    simp only [lk_st1] at hst
    split at hst
    · split at hst
      · rename_i hv
        cases hst
        exact lv_dup hx hb hdg (by rw [lk_sv_cat]; exact beq_iff_eq.mp hv) (kk.same hR hl rfl)
      · cases hst
    · cases hst
  case dup2  =>
    obtain rfl := key 1 rfl
    simp only [lk_st1] at hst
    split at hst
    · split at hst
      · rename_i hv
        split at hst
        · rename_i hw
          cases hst
          exact lv_dup2_11 hx hb hdg (by rw [lk_sv_cat]; exact beq_iff_eq.mp hv) (by rw [lk_sv_cat]; exact beq_iff_eq.mp hw) (kk.same hR hl rfl)
        · cases hst
      · cases hst
    · cases hst
  case ifCond cd off =>
    obtain rfl := key 3 rfl
    exact lk_s_ifCond hC hR hl hdg (of_decide_eq_true hsd) hst kk
  case if_icmp cd off =>
    obtain rfl := key 3 rfl
    exact lk_s_if_icmp hC hR hl hdg (of_decide_eq_true hsd) hst kk
  case ifnull off =>
    obtain rfl := key 3 rfl
    exact lk_s_ifnull hC hR hl hdg (of_decide_eq_true hsd) hst kk
  case ifnonnull off =>
    obtain rfl := key 3 rfl
    exact lk_s_ifnonnull hC hR hl hdg (of_decide_eq_true hsd) hst kk
  case goto off =>
    obtain rfl := key 3 rfl
    cases hst
    exact lv_goto hx hb hdg (of_decide_eq_true hsd) (kk.same hR hl rfl)
  case tableswitch d lw hi offs =>
    exact lk_s_table hC hR hl hdg hsd hst kk
  case lookupswitch d ps =>
    exact lk_s_look hC hR hl hdg hsd hst kk
  case getfield i =>
    obtain rfl := key 3 rfl
    exact lk_s_getfield hC hR hl hdg hwd hsd hst kk
  case putfield i =>
    obtain rfl := key 3 rfl
    exact lk_s_putfield hC hR hl hdg hwd hsd hst kk
  case new i =>
    obtain rfl := key 3 rfl
    exact lk_s_new hC hR hl hdg hwd hbd hcl hsl hst kk
  case newarray a =>
    obtain rfl := key 2 rfl
    cases a
    case int => exact lk_s_newarray_int hC hR hl hdg hwd hbd hcl hsl hst kk
    case boolean => exact lk_s_newarray_boolean hC hR hl hdg hwd hbd hcl hsl hst kk
    all_goals (simp [lk_st1] at hst)
  case anewarray i =>
    obtain rfl := key 3 rfl
    exact lk_s_anewarray hC hR hl hdg hwd hbd hcl hsl hst kk
  case instanceof i =>
    obtain rfl := key 3 rfl
    exact lk_s_instanceof hC hR hl hdg hwd hsd hst kk
  case checkcast i =>
    obtain rfl := key 3 rfl
    exact lk_s_checkcast hC hR hl hdg hwd hst kk
  case invokespecial i =>
    obtain rfl := key 3 rfl
    exact lk_s_objInit hC hR hl hdg hwd hn hfr hlo hst kk
  case invokestatic i =>
    obtain rfl := key 3 rfl
    simp only [lk_st1] at hst
    split at hst
    · exact lk_s_arraycopy hC hR hl hdg hwd hn hfr hlo hst kk
    · have hq4 : q.2.2.2 = h := by
        unfold lk_mm at hst
        repeat' (split at hst)
        all_goals (cases hst; try rfl)
      rw [hq4, Nat.sub_self, Nat.add_zero] at hcl hsl
      exact lk_s_math hC hR hl hdg hwd hn hfr hlo hcl hsl hst kk
  all_goals (simp [lk_st1] at hst)
end LKS5
