/-! one instruction of the small machine that is no call and no return -/
def lk_cd (c : Jvm.ClassFile.Cond) (x y : Int32) : Prop := match c with
  | .eq => x = y
  | .ne => ¬ x = y
  | .lt => x < y
  | .ge => y ≤ x
  | .gt => y < x
  | .le => x ≤ y
def lk_sw : List (Nat × Nat) → Nat → Int32 → Nat
  | [], d, _ => d
  | q :: r, d, x => if x = Int32.ofNat q.1 then q.2 else lk_sw r d x
/-- does a value fit a field of that type as it is -/
def lk_fit (ty : Option FieldType) (v : Value) : Bool := match ty, v with
  | some .int, .int _ => true
  | some .boolean, .int x => x == 0 || x == 1
  | some (.object _), .ref _ => true
  | some (.object _), .null => true
  | some (.array _), .ref _ => true
  | some (.array _), .null => true
  | _, _ => false
def lk_has (l : List (Nat × Nat)) (c : Nat) : Bool := l.any (fun q => q.1 == c)
def lk_find (l : List (Nat × Nat)) (c : Nat) : Option Nat := (l.find? (fun q => q.1 == c)).map (fun q => q.2)
abbrev lk_S : Type := Nat × List Value × List Value × lk_H
noncomputable def lk_if (c : Jvm.ClassFile.Cond) (x y : Int32) (a b : Option lk_S) : Option lk_S := match c with
  | .eq => if x = y then a else b
  | .ne => if ¬ x = y then a else b
  | .lt => if x < y then a else b
  | .ge => if y ≤ x then a else b
  | .gt => if y < x then a else b
  | .le => if x ≤ y then a else b
def lk_ldi (lo : List Value) (i pc : Nat) (st : List Value) (h : lk_H) : Option lk_S := match lo[i]? with
  | some (.int x) => some (pc, lo, .int x :: st, h)
  | _ => none
def lk_ldl (lo : List Value) (i pc : Nat) (st : List Value) (h : lk_H) : Option lk_S := match lo[i]? with
  | some (.long x) => some (pc, lo, .long x :: st, h)
  | _ => none
def lk_lda (lo : List Value) (i pc : Nat) (st : List Value) (h : lk_H) : Option lk_S := match lo[i]? with
  | some (.ref x) => some (pc, lo, .ref x :: st, h)
  | some .null => some (pc, lo, .null :: st, h)
  | some (.retAddr (n + 1)) => some (pc, lo, .retAddr (n + 1) :: st, h)
  | _ => none
def lk_sti (lo : List Value) (i pc : Nat) (st : List Value) (h : lk_H) : Option lk_S := match st with
  | .int x :: r => (lk_set lo i (.int x)).map (fun lo' => (pc, lo', r, h))
  | _ => none
def lk_sta (lo : List Value) (i pc : Nat) (st : List Value) (h : lk_H) : Option lk_S := match st with
  | .ref x :: r => (lk_set lo i (.ref x)).map (fun lo' => (pc, lo', r, h))
  | .null :: r => (lk_set lo i .null).map (fun lo' => (pc, lo', r, h))
  | _ => none
def lk_stl (lo : List Value) (i pc : Nat) (st : List Value) (h : lk_H) : Option lk_S := match st with
  | .long x :: r => (lk_set2 lo i (.long x)).map (fun lo' => (pc, lo', r, h))
  | _ => none
def lk_inc (lo : List Value) (i pc : Nat) (c : Value) (st : List Value) (h : lk_H) : Option lk_S := match lo[i]? with
  | some (.int x) => match c with
    | .int y => (lk_set lo i (.int (x + y))).map (fun lo' => (pc, lo', st, h))
    | _ => none
  | _ => none
/-- of two ints on the stack -/
def lk_ii (f : Int32 → Int32 → Option Value) (pc : Nat) (lo st : List Value) (h : lk_H) : Option lk_S := match st with
  | .int y :: .int x :: r => (f x y).map (fun v => (pc + 1, lo, v :: r, h))
  | _ => none
def lk_ll (f : Int64 → Int64 → Option Value) (pc : Nat) (lo st : List Value) (h : lk_H) : Option lk_S := match st with
  | .long y :: .long x :: r => (f x y).map (fun v => (pc + 1, lo, v :: r, h))
  | _ => none
def lk_i1 (f : Int32 → Value) (pc : Nat) (lo st : List Value) (h : lk_H) : Option lk_S := match st with
  | .int x :: r => some (pc + 1, lo, f x :: r, h)
  | _ => none
noncomputable def lk_aldi (X : lk_X) (pc : Nat) (lo st : List Value) (h : lk_H) : Option lk_S := match st with
  | .int i :: .ref a :: r => match h[a]? with
    | some (.inl (0, (n, .inl f))) => if i < 0 ∨ n ≤ i.toNatClampNeg then none else some (pc + 1, lo, .int (f i.toNatClampNeg) :: r, h)
    | _ => none
  | .int i :: .retAddr _ :: r => if i < 0 ∨ X.1 ≤ i.toNatClampNeg then none else some (pc + 1, lo, .int (X.2 i.toNatClampNeg) :: r, h)
  | _ => none
noncomputable def lk_asti (pc : Nat) (lo st : List Value) (h : lk_H) : Option lk_S := match st with
  | .int x :: .int i :: .ref a :: r => match h[a]? with
    | some (.inl (0, (n, .inl f))) => if i < 0 ∨ n ≤ i.toNatClampNeg then none else some (pc + 1, lo, r, h.set a (.inl (0, (n, .inl (upd f i.toNatClampNeg x)))))
    | _ => none
  | _ => none
noncomputable def lk_aldz (pc : Nat) (lo st : List Value) (h : lk_H) : Option lk_S := match st with
  | .int i :: .ref a :: r => match h[a]? with
    | some (.inl (1, (n, .inl f))) => if i < 0 ∨ n ≤ i.toNatClampNeg then none else some (pc + 1, lo, .int (f i.toNatClampNeg) :: r, h)
    | _ => none
  | _ => none
noncomputable def lk_astz (pc : Nat) (lo st : List Value) (h : lk_H) : Option lk_S := match st with
  | .int x :: .int i :: .ref a :: r => match h[a]? with
    | some (.inl (1, (n, .inl f))) => if i < 0 ∨ n ≤ i.toNatClampNeg then none else some (pc + 1, lo, r, h.set a (.inl (1, (n, .inl (upd f i.toNatClampNeg (vp_nar .boolean x))))))
    | _ => none
  | _ => none
noncomputable def lk_alda (pc : Nat) (lo st : List Value) (h : lk_H) : Option lk_S := match st with
  | .int i :: .ref a :: r => match h[a]? with
    | some (.inl (t, (n, .inr (.inr (.inr (.inr f)))))) => if i < 0 ∨ n ≤ i.toNatClampNeg then none else if 2 ≤ t ∧ t ≤ 4 then some (pc + 1, lo, va_rf (f i.toNatClampNeg) :: r, h) else none
    | _ => none
  | _ => none
noncomputable def lk_asta (pc : Nat) (lo st : List Value) (h : lk_H) : Option lk_S := match st with
  | .ref v :: .int i :: .ref a :: r => match h[a]? with
    | some (.inl (t, (n, .inr (.inr (.inr (.inr f)))))) => if i < 0 ∨ n ≤ i.toNatClampNeg then none else match h[v]? with
      | some (.inr (c, _)) => if lk_cm t c = true then some (pc + 1, lo, r, h.set a (.inl (t, (n, .inr (.inr (.inr (.inr (va_up f i.toNatClampNeg (some v))))))))) else none
      | _ => none
    | _ => none
  | .null :: .int i :: .ref a :: r => match h[a]? with
    | some (.inl (t, (n, .inr (.inr (.inr (.inr f)))))) => if i < 0 ∨ n ≤ i.toNatClampNeg then none else if 2 ≤ t ∧ t ≤ 4 then some (pc + 1, lo, r, h.set a (.inl (t, (n, .inr (.inr (.inr (.inr (va_up f i.toNatClampNeg none)))))))) else none
    | _ => none
  | _ => none
def lk_len (X : lk_X) (pc : Nat) (lo st : List Value) (h : lk_H) : Option lk_S := match st with
  | .ref a :: r => match h[a]? with
    | some (.inl (t, x)) => if t ≤ 4 then some (pc + 1, lo, .int (Int32.ofNat x.1) :: r, h) else none
    | _ => none
  | .retAddr _ :: r => some (pc + 1, lo, .int (Int32.ofNat X.1) :: r, h)
  | _ => none
def lk_getf (inf : lk_I) (pc : Nat) (lo st : List Value) (h : lk_H) : Option lk_S := match st with
  | .ref a :: r => match h[a]? with
    | some (.inr (c, fs)) => if lk_has inf.2.1 c = true then (fs[inf.1]?).map (fun v => (pc + 3, lo, v :: r, h)) else none
    | _ => none
  | _ => none
def lk_putf (inf : lk_I) (pc : Nat) (lo st : List Value) (h : lk_H) : Option lk_S := match st with
  | v :: .ref a :: r => match h[a]? with
    | some (.inr (c, fs)) => if lk_has inf.2.1 c = true then (if lk_fit ((lk_tyl[c]?).map (fun t => t inf.1)) v = true then (if inf.1 < fs.length then some (pc + 3, lo, r, h.set a (.inr (c, fs.set inf.1 v))) else none) else none) else none
    | _ => none
  | _ => none
noncomputable def lk_newa (t : Nat) (pc : Nat) (lo st : List Value) (h : lk_H) : Option lk_S := match st with
  | .int n :: r => if n < 0 ∨ 65536 < n.toNatClampNeg then none else some (pc + 2, lo, .ref h.length :: r, h ++ [.inl (t, (n.toNatClampNeg, .inl (fun _ => 0)))])
  | _ => none
noncomputable def lk_newq (t : Nat) (pc : Nat) (lo st : List Value) (h : lk_H) : Option lk_S := match st with
  | .int n :: r => if n < 0 ∨ 65536 < n.toNatClampNeg then none else if 2 ≤ t ∧ t ≤ 4 then some (pc + 3, lo, .ref h.length :: r, h ++ [.inl (t, (n.toNatClampNeg, .inr (.inr (.inr (.inr (fun _ => none))))))]) else none
  | _ => none
def lk_new (c : Nat) (pc : Nat) (lo st : List Value) (h : lk_H) : Option lk_S := match lk_df[c]? with
  | some fs => some (pc + 3, lo, .ref h.length :: st, h ++ [.inr (c, fs)])
  | none => none
/-- instanceof: the list says of each class 1 or 0 -/
def lk_inst (inf : lk_I) (pc : Nat) (lo st : List Value) (h : lk_H) : Option lk_S := match st with
  | .ref a :: r => match h[a]? with
    | some (.inr (c, _)) => match lk_find inf.2.1 c with
      | some 1 => some (pc + 3, lo, .int 1 :: r, h)
      | some 0 => some (pc + 3, lo, .int 0 :: r, h)
      | _ => none
    | _ => none
  | .null :: r => some (pc + 3, lo, .int 0 :: r, h)
  | _ => none
def lk_cast (inf : lk_I) (pc : Nat) (lo st : List Value) (h : lk_H) : Option lk_S := match st with
  | .ref a :: r => match h[a]? with
    | some (.inr (c, _)) => match lk_find inf.2.1 c with
      | some 1 => some (pc + 3, lo, .ref a :: r, h)
      | _ => none
    | _ => none
  | .null :: r => some (pc + 3, lo, .null :: r, h)
  | _ => none
/-- Object.<init>: number 100 -/
def lk_obj (inf : lk_I) (pc : Nat) (lo st : List Value) (h : lk_H) : Option lk_S := match st with
  | .ref _ :: r => if inf.1 = 100 then (if (r.map fun v => v.category).sum ≤ 8 then some (pc + 3, lo, r, h) else none) else none
  | _ => none
/-- System.arraycopy of ints: number 101 -/
noncomputable def lk_cpy (inf : lk_I) (pc : Nat) (lo st : List Value) (h : lk_H) : Option lk_S := match st with
  | .int n :: .int dp :: .ref a1 :: .int sp :: .ref a0 :: r => if inf.1 = 101 then (if (r.map fun v => v.category).sum ≤ 8 then (match h[a0]? with
    | some (.inl (0, (n0, .inl f))) => match h[a1]? with
      | some (.inl (0, (n1, .inl g))) => if sp < 0 ∨ dp < 0 ∨ n < 0 ∨ n0 < sp.toNatClampNeg + n.toNatClampNeg ∨ n1 < dp.toNatClampNeg + n.toNatClampNeg then none
        else some (pc + 3, lo, r, h.set a1 (.inl (0, (n1, .inl (va_cpy f g sp.toNatClampNeg dp.toNatClampNeg n.toNatClampNeg)))))
      | _ => none
    | _ => none) else none) else none
  | _ => none
/-- Math.max, Math.min of ints: numbers 102, 103 -/
noncomputable def lk_mm (inf : lk_I) (pc : Nat) (lo st : List Value) (h : lk_H) : Option lk_S := match st with
  | .int y :: .int x :: r => if (r.map fun v => v.category).sum ≤ 8 then (if inf.1 = 102 then some (pc + 3, lo, .int (if x < y then y else x) :: r, h) else if inf.1 = 103 then some (pc + 3, lo, .int (if y < x then y else x) :: r, h) else none) else none
  | _ => none
def lk_c1 (v : Value) : Bool := v.category == 1
noncomputable def lk_st1 (X : lk_X) (I : Instr) (len : Nat) (inf : lk_I) (pc : Nat) (lo st : List Value) (h : lk_H) : Option lk_S :=
  match I with
  | .iconst _ | .bipush _ | .sipush _ | .ldc _ | .lconst _ | .ldc2_w _ => some (pc + len, lo, inf.2.2 :: st, h)
  | .aconst_null => some (pc + 1, lo, .null :: st, h)
  | .iload i => lk_ldi lo i (pc + 2) st h
  | .iload_n i => lk_ldi lo i (pc + 1) st h
  | .lload i => lk_ldl lo i (pc + 2) st h
  | .lload_n i => lk_ldl lo i (pc + 1) st h
  | .aload i => lk_lda lo i (pc + 2) st h
  | .aload_n i => lk_lda lo i (pc + 1) st h
  | .istore i => lk_sti lo i (pc + 2) st h
  | .istore_n i => lk_sti lo i (pc + 1) st h
  | .lstore i => lk_stl lo i (pc + 2) st h
  | .astore i => lk_sta lo i (pc + 2) st h
  | .astore_n i => lk_sta lo i (pc + 1) st h
  | .iinc i _ => lk_inc lo i (pc + 3) inf.2.2 st h
  | .iadd => lk_ii (fun x y => some (.int (x + y))) pc lo st h
  | .isub => lk_ii (fun x y => some (.int (x - y))) pc lo st h
  | .imul => lk_ii (fun x y => some (.int (x * y))) pc lo st h
  | .idiv => lk_ii (fun x y => if y = 0 then none else some (.int (x / y))) pc lo st h
  | .irem => lk_ii (fun x y => if y = 0 then none else some (.int (x - x / y * y))) pc lo st h
  | .iand => lk_ii (fun x y => some (.int (x &&& y))) pc lo st h
  | .ior => lk_ii (fun x y => some (.int (x ||| y))) pc lo st h
  | .ishl => lk_ii (fun x y => some (.int (x <<< (y &&& 31)))) pc lo st h
  | .ishr => lk_ii (fun x y => some (.int (x >>> (y &&& 31)))) pc lo st h
  | .ladd => lk_ll (fun x y => some (.long (x + y))) pc lo st h
  | .lsub => lk_ll (fun x y => some (.long (x - y))) pc lo st h
  | .lmul => lk_ll (fun x y => some (.long (x * y))) pc lo st h
  | .lcmp => lk_ll (fun x y => some (.int (lg_cmp x y))) pc lo st h
  | .i2l => lk_i1 (fun x => .long x.toInt64) pc lo st h
  | .i2b => lk_i1 (fun x => .int x.toInt8.toInt32) pc lo st h
  | .i2s => lk_i1 (fun x => .int x.toInt16.toInt32) pc lo st h
  | .l2i => match st with
    | .long x :: r => some (pc + 1, lo, .int x.toInt32 :: r, h)
    | _ => none
  | .dup => match st with
    | v :: r => if lk_c1 v = true then some (pc + 1, lo, v :: v :: r, h) else none
    | _ => none
  | .dup2 => match st with
    | v :: w :: r => if lk_c1 v = true then (if lk_c1 w = true then some (pc + 1, lo, v :: w :: v :: w :: r, h) else none) else none
    | _ => none
  | .ifCond c _ => match st with
    | .int x :: r => lk_if c x 0 (some (inf.1, lo, r, h)) (some (pc + 3, lo, r, h))
    | _ => none
  | .if_icmp c _ => match st with
    | .int y :: .int x :: r => lk_if c x y (some (inf.1, lo, r, h)) (some (pc + 3, lo, r, h))
    | _ => none
  | .ifnull _ => match st with
    | .null :: r => some (inf.1, lo, r, h)
    | .ref _ :: r => some (pc + 3, lo, r, h)
    | _ => none
  | .ifnonnull _ => match st with
    | .null :: r => some (pc + 3, lo, r, h)
    | .ref _ :: r => some (inf.1, lo, r, h)
    | _ => none
  | .goto _ => some (inf.1, lo, st, h)
  | .tableswitch _ _ _ _ => match st with
    | .int x :: r => some (lk_sw inf.2.1 inf.1 x, lo, r, h)
    | _ => none
  | .lookupswitch _ _ => match st with
    | .int x :: r => some (lk_sw inf.2.1 inf.1 x, lo, r, h)
    | _ => none
  | .iaload => lk_aldi X pc lo st h
  | .iastore => lk_asti pc lo st h
  | .baload => lk_aldz pc lo st h
  | .bastore => lk_astz pc lo st h
  | .aaload => lk_alda pc lo st h
  | .aastore => lk_asta pc lo st h
  | .arraylength => lk_len X pc lo st h
  | .getfield _ => lk_getf inf pc lo st h
  | .putfield _ => lk_putf inf pc lo st h
  | .newarray .int => lk_newa 0 pc lo st h
  | .newarray .boolean => lk_newa 1 pc lo st h
  | .anewarray _ => lk_newq inf.1 pc lo st h
  | .new _ => lk_new inf.1 pc lo st h
  | .instanceof _ => lk_inst inf pc lo st h
  | .checkcast _ => lk_cast inf pc lo st h
  | .invokespecial _ => lk_obj inf pc lo st h
  | .invokestatic _ => if inf.1 = 101 then lk_cpy inf pc lo st h else lk_mm inf pc lo st h
  | _ => none
/-! what the tables must say of an instruction -/
/-- words that hold on, whatever has been linked since -/
def lk_kd : Cond → Bool
  | .declares _ => true
  | .methodLinkNest .. => true
  | .castable .. => true
  | .arrayOver (.object _) => true
  | w => goodWord w
theorem lk_mv {w : Cond} (hk : lk_kd w = true) {a a' : Array Value} {s U : State} (hW : s.WarmedH U.vm) (h : w.before a s = true) : w.before a' U = true := by
  have good : goodWord w = true → w.before a' U = true := fun hg => word_at hW (good_of_word hg) h
  cases w with
  | declares x => exact va_Nw.use rfl (va_Nw.warmD hW (va_Nw.of rfl h))
  | methodLinkNest a b c d => exact va_Nw.use rfl (va_Nw.warmM hW (va_Nw.of rfl h))
  | castable a b => exact va_Nw.use rfl (va_Nw.warmC hW (va_Nw.of rfl h))
  | arrayOver t =>
    cases t with
    | object C => exact va_AO.use (va_AO.moved hW.alike (va_AO.of h))
    | _ => exact good hk
  | _ => exact good hk
def lk_T (s : State) : Prop := ∀ w ∈ lk_tbl, lk_kd w = true → w.before #[] s = true
theorem lk_T.moved {s U : State} (h : lk_T s) (hW : s.WarmedH U.vm) : lk_T U := fun w hw hk => lk_mv hk hW (h w hw hk)
theorem lk_T.use {s : State} (h : lk_T s) {w : Cond} (hw : w ∈ lk_tbl) (hk : lk_kd w = true) (a : Array Value) : w.before a s = true := lk_mv hk (State.WarmedH.refl s) (h w hw hk)
theorem lk_T.vm {s U : State} (h : lk_T s) (hv : s.vm = U.vm) : lk_T U := h.moved (by rw [← hv]; exact State.WarmedH.refl s)
/-- the name of a class by its number -/
def lk_cn (c : Nat) : String := match vwCl[c]? with
  | some q => q.1
  | none => ""
def lk_N (s : State) : Prop := ∀ q ∈ lk_nc, va_Nc (lk_cn q.1) (lk_cn q.2) s
theorem lk_N.moved {s U : State} (h : lk_N s) (hv : s.vm.Alike U.vm) : lk_N U := fun q hq => (h q hq).moved hv
def lk_tys (aC : Nat → ClassId) : List (ClassId × FieldType) := [(aC 0, lk_tgT 0), (aC 1, lk_tgT 1), (aC 2, lk_tgT 2), (aC 3, lk_tgT 3), (aC 4, lk_tgT 4)]
/-- through which class a field is named: 0 the one that declares it, n + 1 class n, 100 Thing's own -/
def lk_rf (r : Nat) (decl : String) : String := match r with
  | 0 => decl
  | n + 1 => lk_cn n
def lk_wf (own : String) (idx k : Nat) (q : Nat × Nat) : List Cond := match vwCl[q.1]? with
  | some c => .fieldLink own idx (lk_rf q.2 (c.2.1 k).1) (c.2.1 k).2.1 (c.2.1 k).2.2.1 :: (match q.2 with
    | 0 => []
    | _ => [.sameField (lk_rf q.2 (c.2.1 k).1) (c.2.1 k).1 (c.2.1 k).2.1 (c.2.1 k).2.2.1])
  | none => []
def lk_wi (nm : Nat) (q : Nat × Nat) : List Cond := if q.2 = 1 then (if q.1 = nm then [] else [.castable (lk_cn q.1) (lk_cn nm)]) else []
/-- the words of the tables that an instruction of class 'own' asks -/
def lk_wd (own : String) (I : Instr) (inf : lk_I) : List Cond := match I with
  | .ldc idx => match inf.2.2 with
    | .int v => [.constant own idx v]
    | _ => []
  | .ldc2_w idx => match inf.2.2 with
    | .long v => [.constantLong own idx v]
    | _ => []
  | .getfield idx => inf.2.1.flatMap (lk_wf own idx inf.1)
  | .putfield idx => inf.2.1.flatMap (lk_wf own idx inf.1)
  | .newarray .int => [.arrayClass .int]
  | .newarray .boolean => [.arrayClass .boolean]
  | .anewarray idx => [.classLink own idx (lk_tgC inf.1), .arrayOver (.object (lk_tgC inf.1))]
  | .new idx => match vwCl[inf.1]? with
    | some c => [.classLink own idx c.1, .instantiable c.1 c.2.2, .initialized c.1]
    | none => []
  | .instanceof idx => .classLink own idx (lk_cn inf.1) :: inf.2.1.flatMap (lk_wi inf.1)
  | .checkcast idx => .classLink own idx (lk_cn inf.1) :: inf.2.1.flatMap (lk_wi inf.1)
  | .invokespecial idx => if inf.1 = 100 then [.methodLink own idx objectInit, .instanceMethod objectInit, .code objectInit ⟨#[0xb1]⟩ 1 none] else []
  | .invokestatic idx => if inf.1 = 101 then [.methodLink own idx arraycopyName, .native arraycopyName, .static arraycopyName, .initialized "java/lang/System"] else if inf.1 = 102 then [.methodLink own idx Lib.Math.max.name, .static Lib.Math.max.name, .initialized "java/lang/Math", .code Lib.Math.max.name Lib.Math.max.code 2 (some .int)] else if inf.1 = 103 then [.methodLink own idx Lib.Math.min.name, .static Lib.Math.min.name, .initialized "java/lang/Math", .code Lib.Math.min.name Lib.Math.min.code 2 (some .int)] else []
  | _ => []
/-- what else must hold of an instruction: targets, constants, fields that are final, classes that aren't castable -/
def lk_sd (own name : String) (pc : Nat) (I : Instr) (inf : lk_I) : Bool := match I with
  | .iconst i => decide (inf.2.2 = .int (Int32.ofInt i))
  | .bipush i => decide (inf.2.2 = .int (Int8.ofInt i).toInt32)
  | .sipush i => decide (inf.2.2 = .int (Int16.ofInt i).toInt32)
  | .lconst i => decide (inf.2.2 = .long (Int64.ofNat (i : Nat)))
  | .ldc _ => (match inf.2.2 with
    | .int _ => true
    | _ => false)
  | .ldc2_w _ => (match inf.2.2 with
    | .long _ => true
    | _ => false)
  | .iinc _ n => decide (inf.2.2 = .int (Int32.ofInt n))
  | .ifCond _ off | .if_icmp _ off | .ifnull off | .ifnonnull off | .goto off => decide ((pc : Int) + off = (inf.1 : Int))
  | .tableswitch d lo hi offs => decide (lo = 0) && decide (hi + 1 = (offs.size : Int)) && decide ((pc : Int) + d = (inf.1 : Int)) && decide (offs.size < 1000) && decide (inf.2.1.map (fun q => ((q.1 : Int), (q.2 : Int))) = offs.toList.zipIdx.map (fun q => ((q.2 : Int), (pc : Int) + q.1)))
  | .lookupswitch d ps => (ps.toList.zip (ps.toList.drop 1)).all (fun (a, next) => a.1 < next.1) && decide ((pc : Int) + d = (inf.1 : Int)) && inf.2.1.all (fun q => decide (q.1 < 1000)) && decide (inf.2.1.map (fun q => ((q.1 : Int), (q.2 : Int))) = ps.toList.map (fun q => (q.1, (pc : Int) + q.2)))
  | .getfield _ => inf.2.1.all (fun q => match vwCl[q.1]? with
    | some c => decide (inf.1 < c.2.2)
    | none => false)
  | .putfield _ => inf.2.1.all (fun q => match vwCl[q.1]? with
    | some c => decide (inf.1 < c.2.2) && (!(c.2.1 inf.1).2.2.2 || (decide (name = "<init>") && decide ((c.2.1 inf.1).1 = own)))
    | none => false)
  | .instanceof _ => inf.2.1.all (fun q => q.2 == 1 || decide ((q.1, inf.1) ∈ lk_nc)) && decide (inf.1 < 12)
  | .checkcast _ => decide (inf.1 < 12)
  | _ => true
/-- how long an instruction is (a switch's length is as it is) -/
def lk_ln : Instr → Nat
  | .bipush _ | .ldc _ | .iload _ | .lload _ | .aload _ | .istore _ | .lstore _ | .astore _ | .newarray _ => 2
  | .sipush _ | .ldc2_w _ | .iinc _ _ | .ifCond _ _ | .if_icmp _ _ | .ifnull _ | .ifnonnull _ | .goto _ | .getfield _ | .putfield _ | .anewarray _ | .new _ | .instanceof _ | .checkcast _ | .invokespecial _ | .invokestatic _ | .invokevirtual _ => 3
  | _ => 1
def lk_ls (I : Instr) (len : Nat) : Bool := match I with
  | .tableswitch _ _ _ _ => true
  | .lookupswitch _ _ => true
  | I => len == lk_ln I
