/-! what the tables must say of a call -/
def lk_wo (X : MethodName × String × Nat × Nat) : List Cond := match X.2.2.2 with
  | 1 => [.declares ⟨X.2.1, X.1.name, X.1.desc⟩]
  | n + 2 => match lk_mt[n]? with
    | some M => [.instanceMethod M.1, .code M.1 M.2.1 M.2.2.1 M.2.2.2]
    | none => []
  | _ => []
def lk_so (X : MethodName × String × Nat × Nat) : Bool := match X.2.2.2 with
  | 1 => true
  | n + 2 => match lk_mt[n]? with
    | some M => decide (M.1 = ⟨X.2.1, X.1.name, X.1.desc⟩)
    | none => false
  | _ => false
def lk_wc1 (own : String) (I : Instr) (inf : lk_I) (X : MethodName × String × Nat × Nat) (q : Nat × Nat) (M : lk_M) : List Cond :=
  .code M.1 M.2.1 M.2.2.1 M.2.2.2 :: .initialized M.1.cls :: (match I with
    | .invokestatic idx => [.methodLink own idx M.1, .static M.1]
    | .invokevirtual idx => if inf.1 = 1 then [.methodLink own idx M.1, .instanceMethod M.1, .selects (lk_cn q.1) M.1 M.1]
      else [.methodLink own idx X.1, .sameMethod X.1.cls X.2.1 X.1.name X.1.desc, .selects (lk_cn q.1) X.1 M.1, .instanceMethod M.1] ++ lk_wo X
    | .invokespecial idx => if inf.1 = 3 then [.methodLink own idx M.1, .instanceMethod M.1]
      else if inf.1 = 4 then [.methodLinkNest own idx M.1 X.2.1, .instanceMethod M.1]
      else [.methodLink own idx X.1, .sameMethod X.1.cls X.2.1 X.1.name X.1.desc, .superclass own X.1.cls, .instanceMethod M.1] ++ (if inf.1 = 6 then [.superclass X.1.cls X.2.1] else [])
    | _ => [])
def lk_wc (own : String) (I : Instr) (inf : lk_I) : List Cond := match inf.2.2 with
  | .ref xi => match lk_xn[xi]? with
    | some X => inf.2.1.flatMap (fun q => match lk_mt[q.2]? with
      | some M => lk_wc1 own I inf X q M
      | none => [])
    | none => []
  | _ => []
def lk_nMH (s : String) : Bool := decide (s ≠ "java/lang/invoke/MethodHandle") && decide (s ≠ "java/lang/invoke/VarHandle")
def lk_sc1 (I : Instr) (inf : lk_I) (X : MethodName × String × Nat × Nat) (M : lk_M) : Bool :=
  lk_nMH M.1.cls && lk_nMH X.2.1 && decide ((parseMethodDescriptor X.1.desc).map (fun d => d.parameters.length) = some X.2.2.1) && decide (M.2.2.1 ≤ 45) && plainName M.1.cls && (match I with
    | .invokestatic _ => decide (M.1 = X.1)
    | .invokevirtual _ => (decide (inf.1 = 1) && decide (M.1 = X.1)) || (decide (inf.1 = 2) && lk_so X)
    | .invokespecial _ => ((decide (inf.1 = 3) || decide (inf.1 = 4)) && decide (M.1 = X.1) && decide (M.1.name = "<init>") && decide (M.2.2.2 = none)) || (((decide (inf.1 = 5) && decide (X.1.cls = X.2.1)) || decide (inf.1 = 6)) && decide (M.1 = ⟨X.2.1, X.1.name, X.1.desc⟩) && decide (X.1.name ≠ "<init>"))
    | _ => false)
def lk_sc (I : Instr) (inf : lk_I) : Bool := match inf.2.2 with
  | .ref xi => match lk_xn[xi]? with
    | some X => inf.2.1.all (fun q => match lk_mt[q.2]? with
      | some M => lk_sc1 I inf X M
      | none => false)
    | none => false
  | _ => true
/-- of an instruction of a method, all that is asked -/
def lk_vd1 (M : lk_M) (pc : Nat) (E : lk_E) : Prop := decode M.2.1 pc = .ok (E.1, E.2.1) ∧ lk_ls E.1 E.2.1 = true ∧ (∀ w ∈ lk_wd M.1.cls E.1 E.2.2, w ∈ lk_tbl) ∧ lk_sd M.1.cls M.1.name pc E.1 E.2.2 = true ∧ (∀ w ∈ lk_wc M.1.cls E.1 E.2.2, w ∈ lk_tbl) ∧ lk_sc E.1 E.2.2 = true
def lk_vd : Prop := ∀ (j pc : Nat) (E : lk_E) (M : lk_M), lk_ins j pc = some E → lk_mt[j]? = some M → lk_vd1 M pc E
/-! a method's end -/
def lk_rt (ret : Option FieldType) (I : Instr) (v : Option Value) : Prop := (I = .ireturn ∧ ∃ x ty, v = some (.int x) ∧ ret = some ty ∧ narrow ty (.int x) = .int x) ∨ (I = .areturn ∧ ∃ w ty, v = some w ∧ ret = some ty ∧ ((∃ n, ty = .object n) ∨ ∃ t, ty = .array t) ∧ (w = .null ∨ ∃ a, w = .ref a)) ∨ (I = .return_ ∧ v = none ∧ ret = none)
theorem lk_ret_inv {ret : Option FieldType} {I : Instr} {st : List Value} {v : Option Value} (h : lk_ret ret I st = some v) : lk_rt ret I v ∧ st = v.toList := by
  unfold lk_ret at h
  split at h
  · split at h
    · rename_i x
      split at h
      · cases h
        exact ⟨Or.inl ⟨rfl, x, _, rfl, rfl, rfl⟩, rfl⟩
      · split at h
        · rename_i hx
          cases h
          refine ⟨Or.inl ⟨rfl, x, _, rfl, rfl, ?_⟩, rfl⟩
          rcases hx with rfl | rfl <;> rfl
        · cases h
      · cases h
    · cases h
  · split at h
    · split at h
      · cases h; exact ⟨Or.inr (Or.inl ⟨rfl, _, _, rfl, rfl, Or.inl ⟨_, rfl⟩, Or.inr ⟨_, rfl⟩⟩), rfl⟩
      · cases h; exact ⟨Or.inr (Or.inl ⟨rfl, _, _, rfl, rfl, Or.inl ⟨_, rfl⟩, Or.inl rfl⟩), rfl⟩
      · cases h
    · split at h
      · cases h; exact ⟨Or.inr (Or.inl ⟨rfl, _, _, rfl, rfl, Or.inr ⟨_, rfl⟩, Or.inr ⟨_, rfl⟩⟩), rfl⟩
      · cases h; exact ⟨Or.inr (Or.inl ⟨rfl, _, _, rfl, rfl, Or.inr ⟨_, rfl⟩, Or.inl rfl⟩), rfl⟩
      · cases h
    · cases h
  · split at h
    · split at h
      · cases h; exact ⟨Or.inr (Or.inr ⟨rfl, rfl, rfl⟩), rfl⟩
      · cases h
    · cases h
  · cases h
/-! contracts of methods out of runs -/
def lk_B (HB : Heap) (z L : Nat) (xs : Nat → Int32) (dC : Nat → ClassId) (dI : Nat → Nat → Nat) (aC : Nat → ClassId) (h : lk_H) (U : State) : Prop :=
  U.heap.size = HB.size + h.length ∧ va_P (dC, dI) vwCl (lk_ws HB.size z aC h) U.heap ∧ va_S (fun q : Nat => HB.size ≤ q) HB U.heap [] ∧ lk_T U ∧ va_K (dC, dI) vwCl (lk_tys aC) U ∧ lk_N U ∧ va_X z L xs U HB ∧ z < HB.size
def lk_Q (HB : Heap) (z : Nat) (dC : Nat → ClassId) (dI : Nat → Nat → Nat) (aC : Nat → ClassId) (v : Option Value) (h' : lk_H) : Array Value → State → Outcome → State → Prop := fun _ _ oc t => oc = .returned (v.map (lk_sv HB.size z)) ∧ va_P (dC, dI) vwCl (lk_ws HB.size z aC h') t.heap ∧ va_S (fun q : Nat => HB.size ≤ q) HB t.heap []
def lk_rm (d mc ms : Nat) : Room := { frames := d + 1, cells := mc, slots := ms, locals := 64 * (d + 1) }
def lk_Sd (n : Nat) : Prop := ∀ (HB : Heap) (z L : Nat) (xs : Nat → Int32) (dC : Nat → ClassId) (dI : Nat → Nat → Nat) (aC : Nat → ClassId) (d j pc : Nat) (lo st : List Value) (h : lk_H) (v : Option Value) (h' : lk_H) (M : lk_M), lk_run (L, xs) n d j pc lo st h = some (v, h') → lk_mt[j]? = some M →
  ∀ (p : Program) (l : Launch) (e : Env) (R : Room) (s : State) (m : MethodId) (args : Array Value) (below : List Frame) (meth : Method) (c : Code) (H : Heap) (locs : List Loc) (cells slots : Nat) (Q : State → Prop) (ls : Array Slot),
  lk_C HB z L xs dC dI aC p s m meth c M.2.1 M.1.cls M.1.name → lk_R HB z dC dI aC h H locs → lk_L HB.size z ls lo → c.maxLocals = lo.length → s.heap.size + cells = HB.size + h.length → cells + (h'.length - h.length) ≤ R.cells → slots + (lk_sz h' - lk_sz h) ≤ R.slots → d + 1 ≤ R.frames → 64 * (d + 1) ≤ R.locals →
  (∀ (H' : Heap) (locs' : List Loc) (ls' : Array Slot) (pcr : Nat) (I : Instr), lk_R HB z dC dI aC h' H' locs' → decode M.2.1 pcr = .ok (I, 1) → lk_rt M.2.2.2 I v → W p l e R s m args below meth c H' locs' (cells + (h'.length - h.length)) (slots + (lk_sz h' - lk_sz h)) Q (F0 m pcr ls' (v.toList.map (lk_sv HB.size z)))) →
  W p l e R s m args below meth c H locs cells slots Q (F0 m pc ls (st.map (lk_sv HB.size z)))
theorem lk_met {n : Nat} (hS : lk_Sd n) (l : Launch) {HB : Heap} {z L : Nat} {xs : Nat → Int32} {dC : Nat → ClassId} {dI : Nat → Nat → Nat} {aC : Nat → ClassId} {d k : Nat} {as : List Value} {h h1 : lk_H} {v : Option Value} {K : lk_M}
    (hrun : lk_run (L, xs) n d k 0 (lk_ent K.2.2.1 as) [] h = some (v, h1)) (hK : lk_mt[k]? = some K) (hex : (lk_ex as).length ≤ K.2.2.1) (hpl : plainName K.1.cls = true) :
    Met l K.1 [.code K.1 K.2.1 K.2.2.1 K.2.2.2] (lk_rm d (h1.length - h.length) (lk_sz h1 - lk_sz h)) (va_Pc (as.map (lk_sv HB.size z)) (lk_B HB z L xs dC dI aC h)) (lk_Q HB z dC dI aC v h1) (h1.length - h.length) (lk_sz h1 - lk_sz h) (fun q => HB.size ≤ q) := by
  refine Met.ofW (cc := K.2.1) (maxL := K.2.2.1) (ret := K.2.2.2) hpl rfl ?_
  intro p e s m args below meth c s₁ B hml hv
  obtain ⟨rfl, b1, b2, b3, b4, b5, b6, b7, b8⟩ := hv
  have hlocks : meth.locks = false := B.notSynchronized
  rw [lg_entry_eq]
  have hl := lk_L.entry HB.size z K.2.2.1 as hex
  have hlen : (lk_ent K.2.2.1 as).length = K.2.2.1 := by
    unfold lk_ent
    rw [List.length_append, List.length_replicate]
    omega
  refine hS HB z L xs dC dI aC d k 0 _ [] h v h1 K hrun hK p l e _ s m _ below meth c s.heap [] 0 0 _ _ ⟨B.exec, B.bytes, findClass_of_methodNamed B.named, b4, b5, b6, b7, b8, (name_of_methodNamed B.named B.method).1⟩ ⟨b2, b3⟩ hl (by rw [hlen]; exact hml) (by omega) (by rw [Nat.zero_add]; exact Nat.le_refl _) (by rw [Nat.zero_add]; exact Nat.le_refl _) (Nat.le_refl _) (Nat.le_refl _) ?_
  intro H' locs' ls' pcr I hR hdg hrt
  rw [Nat.zero_add, Nat.zero_add]
  have hend : ∀ (o : Option Value), o = v.map (lk_sv HB.size z) → ∀ t : State, t.heap = H' → s.WarmedH t.vm → lk_Q HB z dC dI aC v h1 ((as.map (lk_sv HB.size z)).toArray) s (.returned o) t := by
    intro o ho t ht _
    subst ho
    exact ⟨rfl, by rw [ht]; exact hR.1, by rw [ht]; exact ⟨hR.2.1, hR.2.2.1, fun q hq => by cases hq⟩⟩
  rcases hrt with ⟨rfl, x, ty, rfl, hr, hn⟩ | ⟨rfl, w, ty, rfl, hr, hty, hw⟩ | ⟨rfl, rfl, hr⟩
  · exact W.zret B.exec B.bytes (B.returns.trans hr) hn (hend _ rfl) hR.2.2.2 hdg
  · refine W.aret B.exec B.bytes (B.returns.trans hr) hty ?_ (hend _ rfl) hR.2.2.2 hdg
    rcases hw with rfl | ⟨a, rfl⟩
    · exact Or.inl rfl
    · exact Or.inr ⟨_, rfl⟩
  · exact W.vret B.exec B.bytes (B.returns.trans hr) (hend _ rfl) hR.2.2.2 hdg
/-! a super call of what the superclass has or inherits -/
section LKSX
variable {p : Program} {l : Launch} {e : Env} {R : Room} {s : State} {m : MethodId} {args : Array Value} {below : List Frame} {meth : Method} {c : Code} {H : Heap} {locs : List Loc} {cells slots : Nat}
theorem lk_runSX {x y : MethodName} {bytes cc : ByteArray} {maxL nL mc ms index : Nat} {ret : Option FieldType} {ws : List Cond} {rm : Room} {Pc : Array Value → State → Prop} {Qc : Array Value → State → Outcome → State → Prop} {free : Addr → Prop} {own C owner : String} {cC : ClassId} {b : Addr} {As rest : List Value} {g : JFrame}
    (hat : ClassAt s C cC) (hx : p.tables.exec = Jvm.exec) (hb : c.code = cc) (hml : c.maxLocals = nL) (ho : s.vm.findClass own = some m.cls) (hM : Met l y ws rm Pc Qc mc ms free) (hyx : y = ⟨owner, x.name, x.desc⟩)
    (hrc : rm.cells = mc) (hrs : rm.slots = ms) (hfr : rm.frames + 1 ≤ R.frames) (hlo : 8 + (maxL + 11) + rm.locals ≤ R.locals) (hws : ∀ w ∈ ws, ∀ (a' : Array Value) (U : State), s.WarmedH U.vm → w.before a' U = true) (hcw : Cond.code y bytes maxL ret ∈ ws)
    (hl1 : (Cond.methodLink own index x).before args s = true) (hl2 : (Cond.sameMethod x.cls owner x.name x.desc).before args s = true) (hl3 : (Cond.superclass own x.cls).before args s = true) (hl4 : (Cond.instanceMethod y).before args s = true) (hini : (Cond.initialized y.cls).before args s = true) (hcode : (Cond.code y bytes maxL ret).before args s = true) (hno : x.name ≠ "<init>")
    (hsub : x.cls = owner ∨ (Cond.superclass x.cls owner).before args s = true) (hlen : ∀ sig, parseMethodDescriptor x.desc = some sig → As.length = sig.parameters.length) (hp : PreV s H C b Pc As)
    (hg : g.method = m) (hsize : g.locals.size = nL) (hstack : g.stack = As.reverse ++ .ref b :: rest) (hW : 2 * g.monitorRoom + (rest.map fun v => v.category).sum ≤ 8) (hdg : decode cc g.pc = .ok (.invokespecial index, 3)) (hf : cells + mc ≤ R.cells ∧ slots + ms ≤ R.slots) :
    va_Run p l e R s m args below meth c H locs cells slots mc ms g rest (Qc (Value.ref b :: As).toArray) (free) := by
  have hK : Back l R p e below s args y 3 8 (PreOf R mc ms Pc) (PostOf Qc mc ms free) := back_of (bytes := bytes) (maxL := maxL) (ret := ret) hM hp.1 hrc hrs hfr hlo hws hcw (fun a' U hW => word_at hW (Or.inl (by first | rfl | simp [Cond.onTables, Cond.keeps, Cond.steady])) hini)
  obtain ⟨-, ⟨cellB, hcB, hoB, hclB⟩, hPc⟩ := hp
  obtain ⟨hfc, kB, hkB, -⟩ := hat
  cases hfc.symm.trans hclB
  obtain ⟨mk, methM, hnamed, hmethM, hstM, habM⟩ := Cond.instanceMethod_spec hl4
  obtain ⟨methM', cM, hmethM', -, -, -, -, -, -, hsigM⟩ := Cond.code_spec hnamed hcode
  cases hmethM.symm.trans hmethM'
  obtain ⟨ps, dk, kp, hps, hdk, hkp, hsuper, -, -, hnid⟩ := Cond.superclass_spec ho hl3
  have hn : s.methodNamed? ⟨owner, x.name, x.desc⟩ = some mk := by rw [← hyx]; exact hnamed
  have hpm : s.vm.findClass owner = some mk.cls := by
    have := findClass_of_methodNamed hn
    exact this
  have hsb : s.vm.isSubclass ps mk.cls = true := by
    rcases hsub with hq | hq
    · rw [hq] at hps
      cases hps.symm.trans hpm
      simp [Vm.isSubclass, Vm.isSubclassAux]
    · obtain ⟨ps2, dk2, kp2, hps2, hdk2, hkp2, hsuper2, -⟩ := Cond.superclass_spec hps hq
      cases hps2.symm.trans hpm
      have hpos : 0 < s.vm.classes.size := by
        have := (Array.getElem?_eq_some_iff.mp hdk2).1
        omega
      obtain ⟨k, hk⟩ : ∃ k, s.vm.classes.size = k + 1 := ⟨s.vm.classes.size - 1, by omega⟩
      unfold Vm.isSubclass
      rw [hk]
      simp [Vm.isSubclassAux, hdk2, hsuper2]
  have hsigd : parseMethodDescriptor x.desc = some methM.sig := by
    rw [hyx] at hsigM
    exact hsigM
  intro T hT X
  obtain ⟨vm₁, X₁, hstep₁⟩ := X.invokespecialUp hx ho hl1 hl2 hn hmethM hstM habM hno hdk hnid hps hsuper hsb (a := b) (cell := cellB) (by rw [hT]; exact hcB)
    (fun z h => by rw [h] at hoB; cases hoB) hkB (g := g) hg (argsL := As) (rest := rest) (hlen _ hsigd) hstack (by rw [hb]; exact hdg)
  obtain ⟨v, ⟨U', l2, c2, s2⟩, X', ⟨g', mk', t, L, e1, e2, hq, h1, hL, h2, h3⟩, st⟩ := hK m meth c ⟨T.setVm vm₁, locs, cells, slots⟩ { g with stack := rest } (.invokespecial index) mk (Value.ref b :: As).toArray X₁ hg (hsize.trans hml.symm) (by rw [hb]; exact hdg) hW (X₁.named hnamed) ⟨hf.1, hf.2, hPc (T.setVm vm₁) hT X₁.warmed⟩
  dsimp only [Pt.U, Pt.locs, Pt.cells, Pt.slots] at X' e1 e2 h1 h2 h3 st
  subst h1; subst h2; subst h3
  exact ⟨v, (T.setVm vm₁).calling g' mk' (Value.ref b :: As).toArray, t, U', L, hT, X', hL, e1, e2, hq, fun target h => hstep₁ _ (by rw [doInvoke_state]; exact st.trans h)⟩
end LKSX
