-- ===== PART A: goes FIRST, ahead of the names: the tables' words, and 'selects' of the private methods out of them =====
/-- a private method of a class that the tables say can be made, by its rows of tables_1 -/
def lw_okq (q : MethodName × Nat) : Prop := (q.1.cls ≠ "java/lang/invoke/MethodHandle" ∧ q.1.cls ≠ "java/lang/invoke/VarHandle") ∧ Cond.instantiable q.1.cls q.2 ∈ tables_1 ∧ Cond.privateMethod q.1 ∈ tables_1 ∧ Cond.instanceMethod q.1 ∈ tables_1
theorem lw_p0 : lw_okq (⟨"LonelyDots", "found", "(I)I"⟩, 7) := ⟨⟨by decide +kernel, by decide +kernel⟩, List.mem_of_getElem? (i := 18) (by decide +kernel), List.mem_of_getElem? (i := 134) (by decide +kernel), List.mem_of_getElem? (i := 135) (by decide +kernel)⟩
theorem lw_p1 : lw_okq (⟨"LonelyDots", "settled", "(I)I"⟩, 7) := ⟨⟨by decide +kernel, by decide +kernel⟩, List.mem_of_getElem? (i := 18) (by decide +kernel), List.mem_of_getElem? (i := 144) (by decide +kernel), List.mem_of_getElem? (i := 145) (by decide +kernel)⟩
theorem lw_p2 : lw_okq (⟨"LonelyDots", "findingOfItems", "(III)I"⟩, 7) := ⟨⟨by decide +kernel, by decide +kernel⟩, List.mem_of_getElem? (i := 18) (by decide +kernel), List.mem_of_getElem? (i := 178) (by decide +kernel), List.mem_of_getElem? (i := 179) (by decide +kernel)⟩
theorem lw_p3 : lw_okq (⟨"LonelyDots", "shelve", "(ILLonelyDots$Thing;)I"⟩, 7) := ⟨⟨by decide +kernel, by decide +kernel⟩, List.mem_of_getElem? (i := 18) (by decide +kernel), List.mem_of_getElem? (i := 268) (by decide +kernel), List.mem_of_getElem? (i := 269) (by decide +kernel)⟩
theorem lw_p4 : lw_okq (⟨"LonelyDots$Marks", "hasAllDistances", "()Z"⟩, 1) := ⟨⟨by decide +kernel, by decide +kernel⟩, List.mem_of_getElem? (i := 300) (by decide +kernel), List.mem_of_getElem? (i := 314) (by decide +kernel), List.mem_of_getElem? (i := 315) (by decide +kernel)⟩
theorem lw_p5 : lw_okq (⟨"LonelyDots", "orderAt", "(I)LLonelyDots$Order;"⟩, 7) := ⟨⟨by decide +kernel, by decide +kernel⟩, List.mem_of_getElem? (i := 18) (by decide +kernel), List.mem_of_getElem? (i := 361) (by decide +kernel), List.mem_of_getElem? (i := 362) (by decide +kernel)⟩
theorem lw_p6 : lw_okq (⟨"LonelyDots", "findingOfNoOrder", "(I)I"⟩, 7) := ⟨⟨by decide +kernel, by decide +kernel⟩, List.mem_of_getElem? (i := 18) (by decide +kernel), List.mem_of_getElem? (i := 366) (by decide +kernel), List.mem_of_getElem? (i := 367) (by decide +kernel)⟩
theorem lw_p7 : lw_okq (⟨"LonelyDots", "lonelyList", "(I)LLonelyDots$LonelyList;"⟩, 7) := ⟨⟨by decide +kernel, by decide +kernel⟩, List.mem_of_getElem? (i := 18) (by decide +kernel), List.mem_of_getElem? (i := 411) (by decide +kernel), List.mem_of_getElem? (i := 412) (by decide +kernel)⟩
theorem lw_p8 : lw_okq (⟨"LonelyDots$LonelyList", "keep", "()V"⟩, 5) := ⟨⟨by decide +kernel, by decide +kernel⟩, List.mem_of_getElem? (i := 418) (by decide +kernel), List.mem_of_getElem? (i := 445) (by decide +kernel), List.mem_of_getElem? (i := 446) (by decide +kernel)⟩
theorem lw_p9 : lw_okq (⟨"LonelyDots$LonelyList", "isFirstOfItsTurns", "()Z"⟩, 5) := ⟨⟨by decide +kernel, by decide +kernel⟩, List.mem_of_getElem? (i := 418) (by decide +kernel), List.mem_of_getElem? (i := 452) (by decide +kernel), List.mem_of_getElem? (i := 453) (by decide +kernel)⟩
theorem lw_p10 : lw_okq (⟨"LonelyDots$LonelyList", "isLonelyUpTo", "(I)Z"⟩, 5) := ⟨⟨by decide +kernel, by decide +kernel⟩, List.mem_of_getElem? (i := 418) (by decide +kernel), List.mem_of_getElem? (i := 457) (by decide +kernel), List.mem_of_getElem? (i := 458) (by decide +kernel)⟩
theorem lw_p11 : lw_okq (⟨"LonelyDots$Moves", "mostMovedByRows", "([I[II)I"⟩, 2) := ⟨⟨by decide +kernel, by decide +kernel⟩, List.mem_of_getElem? (i := 44) (by decide +kernel), List.mem_of_getElem? (i := 584) (by decide +kernel), List.mem_of_getElem? (i := 585) (by decide +kernel)⟩
theorem lw_p12 : lw_okq (⟨"LonelyDots$Moves", "tallyFits", "([III)V"⟩, 2) := ⟨⟨by decide +kernel, by decide +kernel⟩, List.mem_of_getElem? (i := 44) (by decide +kernel), List.mem_of_getElem? (i := 606) (by decide +kernel), List.mem_of_getElem? (i := 607) (by decide +kernel)⟩
theorem lw_p13 : lw_okq (⟨"LonelyDots$Moves", "firstBest", "()I"⟩, 2) := ⟨⟨by decide +kernel, by decide +kernel⟩, List.mem_of_getElem? (i := 44) (by decide +kernel), List.mem_of_getElem? (i := 610) (by decide +kernel), List.mem_of_getElem? (i := 611) (by decide +kernel)⟩
theorem lw_p14 : lw_okq (⟨"LonelyDots$RulerSearch", "hasNewDistances", "(II)Z"⟩, 4) := ⟨⟨by decide +kernel, by decide +kernel⟩, List.mem_of_getElem? (i := 59) (by decide +kernel), List.mem_of_getElem? (i := 629) (by decide +kernel), List.mem_of_getElem? (i := 630) (by decide +kernel)⟩
theorem lw_p15 : lw_okq (⟨"LonelyDots$RulerSearch", "mindDistances", "(IIZ)V"⟩, 4) := ⟨⟨by decide +kernel, by decide +kernel⟩, List.mem_of_getElem? (i := 59) (by decide +kernel), List.mem_of_getElem? (i := 633) (by decide +kernel), List.mem_of_getElem? (i := 634) (by decide +kernel)⟩
def lw_privs_1 : List (MethodName × Nat) := [(⟨"LonelyDots", "found", "(I)I"⟩, 7), (⟨"LonelyDots", "settled", "(I)I"⟩, 7), (⟨"LonelyDots", "findingOfItems", "(III)I"⟩, 7), (⟨"LonelyDots", "shelve", "(ILLonelyDots$Thing;)I"⟩, 7), (⟨"LonelyDots$Marks", "hasAllDistances", "()Z"⟩, 1), (⟨"LonelyDots", "orderAt", "(I)LLonelyDots$Order;"⟩, 7), (⟨"LonelyDots", "findingOfNoOrder", "(I)I"⟩, 7), (⟨"LonelyDots", "lonelyList", "(I)LLonelyDots$LonelyList;"⟩, 7), (⟨"LonelyDots$LonelyList", "keep", "()V"⟩, 5), (⟨"LonelyDots$LonelyList", "isFirstOfItsTurns", "()Z"⟩, 5), (⟨"LonelyDots$LonelyList", "isLonelyUpTo", "(I)Z"⟩, 5), (⟨"LonelyDots$Moves", "mostMovedByRows", "([I[II)I"⟩, 2), (⟨"LonelyDots$Moves", "tallyFits", "([III)V"⟩, 2), (⟨"LonelyDots$Moves", "firstBest", "()I"⟩, 2), (⟨"LonelyDots$RulerSearch", "hasNewDistances", "(II)Z"⟩, 4), (⟨"LonelyDots$RulerSearch", "mindDistances", "(IIZ)V"⟩, 4)]
theorem lw_r1 : ∀ q ∈ lw_privs_1, lw_okq q := List.forall_mem_cons.mpr ⟨lw_p0, List.forall_mem_cons.mpr ⟨lw_p1, List.forall_mem_cons.mpr ⟨lw_p2, List.forall_mem_cons.mpr ⟨lw_p3, List.forall_mem_cons.mpr ⟨lw_p4, List.forall_mem_cons.mpr ⟨lw_p5, List.forall_mem_cons.mpr ⟨lw_p6, List.forall_mem_cons.mpr ⟨lw_p7, List.forall_mem_cons.mpr ⟨lw_p8, List.forall_mem_cons.mpr ⟨lw_p9, List.forall_mem_cons.mpr ⟨lw_p10, List.forall_mem_cons.mpr ⟨lw_p11, List.forall_mem_cons.mpr ⟨lw_p12, List.forall_mem_cons.mpr ⟨lw_p13, List.forall_mem_cons.mpr ⟨lw_p14, List.forall_mem_cons.mpr ⟨lw_p15, fun _ h => absurd h List.not_mem_nil⟩⟩⟩⟩⟩⟩⟩⟩⟩⟩⟩⟩⟩⟩⟩⟩
theorem lw_p16 : lw_okq (⟨"LonelyDots", "sheetsThere", "()I"⟩, 7) := ⟨⟨by decide +kernel, by decide +kernel⟩, List.mem_of_getElem? (i := 18) (by decide +kernel), List.mem_of_getElem? (i := 641) (by decide +kernel), List.mem_of_getElem? (i := 642) (by decide +kernel)⟩
theorem lw_p17 : lw_okq (⟨"LonelyDots", "thingsOfKind", "(I)I"⟩, 7) := ⟨⟨by decide +kernel, by decide +kernel⟩, List.mem_of_getElem? (i := 18) (by decide +kernel), List.mem_of_getElem? (i := 645) (by decide +kernel), List.mem_of_getElem? (i := 646) (by decide +kernel)⟩
theorem lw_p18 : lw_okq (⟨"LonelyDotsModel", "finds", "(I)I"⟩, 17) := ⟨⟨by decide +kernel, by decide +kernel⟩, List.mem_of_getElem? (i := 653) (by decide +kernel), List.mem_of_getElem? (i := 724) (by decide +kernel), List.mem_of_getElem? (i := 725) (by decide +kernel)⟩
theorem lw_p19 : lw_okq (⟨"LonelyDotsModel", "well", "(I)I"⟩, 17) := ⟨⟨by decide +kernel, by decide +kernel⟩, List.mem_of_getElem? (i := 653) (by decide +kernel), List.mem_of_getElem? (i := 729) (by decide +kernel), List.mem_of_getElem? (i := 730) (by decide +kernel)⟩
theorem lw_p20 : lw_okq (⟨"LonelyDotsModel", "make", "(II)V"⟩, 17) := ⟨⟨by decide +kernel, by decide +kernel⟩, List.mem_of_getElem? (i := 653) (by decide +kernel), List.mem_of_getElem? (i := 754) (by decide +kernel), List.mem_of_getElem? (i := 755) (by decide +kernel)⟩
theorem lw_p21 : lw_okq (⟨"LonelyDotsModel", "keep", "(IZ)I"⟩, 17) := ⟨⟨by decide +kernel, by decide +kernel⟩, List.mem_of_getElem? (i := 653) (by decide +kernel), List.mem_of_getElem? (i := 758) (by decide +kernel), List.mem_of_getElem? (i := 759) (by decide +kernel)⟩
theorem lw_p22 : lw_okq (⟨"LonelyDotsModel", "findAlike", "(IZ)Z"⟩, 17) := ⟨⟨by decide +kernel, by decide +kernel⟩, List.mem_of_getElem? (i := 653) (by decide +kernel), List.mem_of_getElem? (i := 762) (by decide +kernel), List.mem_of_getElem? (i := 763) (by decide +kernel)⟩
theorem lw_p23 : lw_okq (⟨"LonelyDotsModel", "areAlike", "(IZIIII)Z"⟩, 17) := ⟨⟨by decide +kernel, by decide +kernel⟩, List.mem_of_getElem? (i := 653) (by decide +kernel), List.mem_of_getElem? (i := 766) (by decide +kernel), List.mem_of_getElem? (i := 767) (by decide +kernel)⟩
theorem lw_p24 : lw_okq (⟨"LonelyDotsModel", "at0", "(II)I"⟩, 17) := ⟨⟨by decide +kernel, by decide +kernel⟩, List.mem_of_getElem? (i := 653) (by decide +kernel), List.mem_of_getElem? (i := 770) (by decide +kernel), List.mem_of_getElem? (i := 771) (by decide +kernel)⟩
theorem lw_p25 : lw_okq (⟨"LonelyDotsModel", "hasAll", "(I)Z"⟩, 17) := ⟨⟨by decide +kernel, by decide +kernel⟩, List.mem_of_getElem? (i := 653) (by decide +kernel), List.mem_of_getElem? (i := 775) (by decide +kernel), List.mem_of_getElem? (i := 776) (by decide +kernel)⟩
theorem lw_p26 : lw_okq (⟨"LonelyDotsModel", "copyThing", "(II)V"⟩, 17) := ⟨⟨by decide +kernel, by decide +kernel⟩, List.mem_of_getElem? (i := 653) (by decide +kernel), List.mem_of_getElem? (i := 779) (by decide +kernel), List.mem_of_getElem? (i := 780) (by decide +kernel)⟩
theorem lw_p27 : lw_okq (⟨"LonelyDotsModel", "refusal", "(II)I"⟩, 17) := ⟨⟨by decide +kernel, by decide +kernel⟩, List.mem_of_getElem? (i := 653) (by decide +kernel), List.mem_of_getElem? (i := 812) (by decide +kernel), List.mem_of_getElem? (i := 813) (by decide +kernel)⟩
theorem lw_p28 : lw_okq (⟨"LonelyDotsModel", "turned", "(III)I"⟩, 17) := ⟨⟨by decide +kernel, by decide +kernel⟩, List.mem_of_getElem? (i := 653) (by decide +kernel), List.mem_of_getElem? (i := 828) (by decide +kernel), List.mem_of_getElem? (i := 829) (by decide +kernel)⟩
theorem lw_p29 : lw_okq (⟨"LonelyDotsModel", "turned4", "(III)I"⟩, 17) := ⟨⟨by decide +kernel, by decide +kernel⟩, List.mem_of_getElem? (i := 653) (by decide +kernel), List.mem_of_getElem? (i := 832) (by decide +kernel), List.mem_of_getElem? (i := 833) (by decide +kernel)⟩
theorem lw_p30 : lw_okq (⟨"LonelyDotsModel", "first", "(I)V"⟩, 17) := ⟨⟨by decide +kernel, by decide +kernel⟩, List.mem_of_getElem? (i := 653) (by decide +kernel), List.mem_of_getElem? (i := 840) (by decide +kernel), List.mem_of_getElem? (i := 841) (by decide +kernel)⟩
theorem lw_p31 : lw_okq (⟨"LonelyDotsModel", "next", "()Z"⟩, 17) := ⟨⟨by decide +kernel, by decide +kernel⟩, List.mem_of_getElem? (i := 653) (by decide +kernel), List.mem_of_getElem? (i := 844) (by decide +kernel), List.mem_of_getElem? (i := 845) (by decide +kernel)⟩
def lw_privs_2 : List (MethodName × Nat) := [(⟨"LonelyDots", "sheetsThere", "()I"⟩, 7), (⟨"LonelyDots", "thingsOfKind", "(I)I"⟩, 7), (⟨"LonelyDotsModel", "finds", "(I)I"⟩, 17), (⟨"LonelyDotsModel", "well", "(I)I"⟩, 17), (⟨"LonelyDotsModel", "make", "(II)V"⟩, 17), (⟨"LonelyDotsModel", "keep", "(IZ)I"⟩, 17), (⟨"LonelyDotsModel", "findAlike", "(IZ)Z"⟩, 17), (⟨"LonelyDotsModel", "areAlike", "(IZIIII)Z"⟩, 17), (⟨"LonelyDotsModel", "at0", "(II)I"⟩, 17), (⟨"LonelyDotsModel", "hasAll", "(I)Z"⟩, 17), (⟨"LonelyDotsModel", "copyThing", "(II)V"⟩, 17), (⟨"LonelyDotsModel", "refusal", "(II)I"⟩, 17), (⟨"LonelyDotsModel", "turned", "(III)I"⟩, 17), (⟨"LonelyDotsModel", "turned4", "(III)I"⟩, 17), (⟨"LonelyDotsModel", "first", "(I)V"⟩, 17), (⟨"LonelyDotsModel", "next", "()Z"⟩, 17)]
theorem lw_r2 : ∀ q ∈ lw_privs_2, lw_okq q := List.forall_mem_cons.mpr ⟨lw_p16, List.forall_mem_cons.mpr ⟨lw_p17, List.forall_mem_cons.mpr ⟨lw_p18, List.forall_mem_cons.mpr ⟨lw_p19, List.forall_mem_cons.mpr ⟨lw_p20, List.forall_mem_cons.mpr ⟨lw_p21, List.forall_mem_cons.mpr ⟨lw_p22, List.forall_mem_cons.mpr ⟨lw_p23, List.forall_mem_cons.mpr ⟨lw_p24, List.forall_mem_cons.mpr ⟨lw_p25, List.forall_mem_cons.mpr ⟨lw_p26, List.forall_mem_cons.mpr ⟨lw_p27, List.forall_mem_cons.mpr ⟨lw_p28, List.forall_mem_cons.mpr ⟨lw_p29, List.forall_mem_cons.mpr ⟨lw_p30, List.forall_mem_cons.mpr ⟨lw_p31, fun _ h => absurd h List.not_mem_nil⟩⟩⟩⟩⟩⟩⟩⟩⟩⟩⟩⟩⟩⟩⟩⟩
theorem lw_p32 : lw_okq (⟨"LonelyDotsModel", "sizeOf", "(I)I"⟩, 17) := ⟨⟨by decide +kernel, by decide +kernel⟩, List.mem_of_getElem? (i := 653) (by decide +kernel), List.mem_of_getElem? (i := 869) (by decide +kernel), List.mem_of_getElem? (i := 870) (by decide +kernel)⟩
theorem lw_p33 : lw_okq (⟨"LonelyDotsModel", "begins", "(I)V"⟩, 17) := ⟨⟨by decide +kernel, by decide +kernel⟩, List.mem_of_getElem? (i := 653) (by decide +kernel), List.mem_of_getElem? (i := 873) (by decide +kernel), List.mem_of_getElem? (i := 874) (by decide +kernel)⟩
theorem lw_p34 : lw_okq (⟨"LonelyDotsModel", "countMarks", "(I)I"⟩, 17) := ⟨⟨by decide +kernel, by decide +kernel⟩, List.mem_of_getElem? (i := 653) (by decide +kernel), List.mem_of_getElem? (i := 877) (by decide +kernel), List.mem_of_getElem? (i := 878) (by decide +kernel)⟩
theorem lw_p35 : lw_okq (⟨"LonelyDotsModel", "mark", "(I)I"⟩, 17) := ⟨⟨by decide +kernel, by decide +kernel⟩, List.mem_of_getElem? (i := 653) (by decide +kernel), List.mem_of_getElem? (i := 881) (by decide +kernel), List.mem_of_getElem? (i := 882) (by decide +kernel)⟩
theorem lw_p36 : lw_okq (⟨"LonelyDotsModel", "meet", "(IIII)I"⟩, 17) := ⟨⟨by decide +kernel, by decide +kernel⟩, List.mem_of_getElem? (i := 653) (by decide +kernel), List.mem_of_getElem? (i := 906) (by decide +kernel), List.mem_of_getElem? (i := 907) (by decide +kernel)⟩
theorem lw_p37 : lw_okq (⟨"LonelyDotsModel", "greatest", "(IIZ)I"⟩, 17) := ⟨⟨by decide +kernel, by decide +kernel⟩, List.mem_of_getElem? (i := 653) (by decide +kernel), List.mem_of_getElem? (i := 914) (by decide +kernel), List.mem_of_getElem? (i := 915) (by decide +kernel)⟩
theorem lw_p38 : lw_okq (⟨"LonelyDotsModel", "isLeast", "()Z"⟩, 17) := ⟨⟨by decide +kernel, by decide +kernel⟩, List.mem_of_getElem? (i := 653) (by decide +kernel), List.mem_of_getElem? (i := 931) (by decide +kernel), List.mem_of_getElem? (i := 932) (by decide +kernel)⟩
theorem lw_p39 : lw_okq (⟨"LonelyDotsModel", "canBe", "(II)Z"⟩, 17) := ⟨⟨by decide +kernel, by decide +kernel⟩, List.mem_of_getElem? (i := 653) (by decide +kernel), List.mem_of_getElem? (i := 940) (by decide +kernel), List.mem_of_getElem? (i := 941) (by decide +kernel)⟩
def lw_privs_3 : List (MethodName × Nat) := [(⟨"LonelyDotsModel", "sizeOf", "(I)I"⟩, 17), (⟨"LonelyDotsModel", "begins", "(I)V"⟩, 17), (⟨"LonelyDotsModel", "countMarks", "(I)I"⟩, 17), (⟨"LonelyDotsModel", "mark", "(I)I"⟩, 17), (⟨"LonelyDotsModel", "meet", "(IIII)I"⟩, 17), (⟨"LonelyDotsModel", "greatest", "(IIZ)I"⟩, 17), (⟨"LonelyDotsModel", "isLeast", "()Z"⟩, 17), (⟨"LonelyDotsModel", "canBe", "(II)Z"⟩, 17)]
theorem lw_r3 : ∀ q ∈ lw_privs_3, lw_okq q := List.forall_mem_cons.mpr ⟨lw_p32, List.forall_mem_cons.mpr ⟨lw_p33, List.forall_mem_cons.mpr ⟨lw_p34, List.forall_mem_cons.mpr ⟨lw_p35, List.forall_mem_cons.mpr ⟨lw_p36, List.forall_mem_cons.mpr ⟨lw_p37, List.forall_mem_cons.mpr ⟨lw_p38, List.forall_mem_cons.mpr ⟨lw_p39, fun _ h => absurd h List.not_mem_nil⟩⟩⟩⟩⟩⟩⟩⟩
def lw_privs : List (MethodName × Nat) := lw_privs_1 ++ (lw_privs_2 ++ (lw_privs_3))
def lw_tbl : List Cond := k2_sels lw_privs ++ tables_1
theorem lw_privs_ok : ∀ q ∈ lw_privs, lw_okq q := by
  show ∀ q ∈ lw_privs_1 ++ (lw_privs_2 ++ (lw_privs_3)), lw_okq q
  exact List.forall_mem_append.mpr ⟨lw_r1, List.forall_mem_append.mpr ⟨lw_r2, lw_r3⟩⟩
-- ===== end of PART A; then your names; then what follows =====
def RX0 : String := "LonelyDots$Lonely"
def TX0 : u_T := fun k => match k with
  | _ => ("LonelyDots$Thing", "numbers", "[I", true)
def tyX0 : Nat → FieldType := fun k => match k with
  | _ => .array .int
abbrev wsX00 : List Cond := u_ws RX0 TX0 1
theorem nmX0 : ∀ a, a < 1 → ∀ b, b < 1 → a ≠ b → (TX0 a).2.1 ≠ (TX0 b).2.1 := by decide +kernel
theorem tyX0_ok : ∀ k, k < 1 → parseFieldDescriptor (TX0 k).2.2.1 = some (tyX0 k) := by decide +kernel
abbrev cX0_init : ByteArray := prog_2_method_1_code
def yX0_init : MethodName := ⟨RX0, "<init>", "([I)V"⟩
abbrev cX0_toldKind : ByteArray := prog_2_method_2_code
def yX0_toldKind : MethodName := ⟨RX0, "toldKind", "()I"⟩
abbrev cX0_askMark : ByteArray := prog_2_method_3_code
def yX0_askMark : MethodName := ⟨RX0, "askMark", "(LLonelyDots$Trace;)I"⟩
def RX1 : String := "LonelyDots$LonelyList"
def TX1 : u_T := fun k => match k with
  | 0 => ("LonelyDots$LonelyList", "columns", "[I", true)
  | 1 => ("LonelyDots$LonelyList", "turned", "[I", true)
  | 2 => ("LonelyDots$LonelyList", "codes", "[I", true)
  | 3 => ("LonelyDots$LonelyList", "size", "I", false)
  | _ => ("LonelyDots$LonelyList", "sizeUpToTurns", "I", false)
def tyX1 : Nat → FieldType := fun k => match k with
  | 0 => .array .int
  | 1 => .array .int
  | 2 => .array .int
  | 3 => .int
  | _ => .int
abbrev wsX10 : List Cond := u_ws RX1 TX1 5
theorem nmX1 : ∀ a, a < 5 → ∀ b, b < 5 → a ≠ b → (TX1 a).2.1 ≠ (TX1 b).2.1 := by decide +kernel
theorem tyX1_ok : ∀ k, k < 5 → parseFieldDescriptor (TX1 k).2.2.1 = some (tyX1 k) := by decide +kernel
abbrev cX1_init : ByteArray := prog_3_method_1_code
def yX1_init : MethodName := ⟨RX1, "<init>", "(I)V"⟩
abbrev cX1_searched : ByteArray := prog_3_method_2_code
def yX1_searched : MethodName := ⟨RX1, "searched", "(I)LLonelyDots$LonelyList;"⟩
abbrev cX1_columnsOf : ByteArray := prog_3_method_3_code
def yX1_columnsOf : MethodName := ⟨RX1, "columnsOf", "(I)[I"⟩
abbrev cX1_search : ByteArray := prog_3_method_4_code
def yX1_search : MethodName := ⟨RX1, "search", "(LLonelyDots$LonelyList;I)V"⟩
abbrev cX1_isLonelyUpTo : ByteArray := prog_3_method_5_code
def yX1_isLonelyUpTo : MethodName := ⟨RX1, "isLonelyUpTo", "(I)Z"⟩
abbrev cX1_keep : ByteArray := prog_3_method_6_code
def yX1_keep : MethodName := ⟨RX1, "keep", "()V"⟩
abbrev cX1_isFirstOfItsTurns : ByteArray := prog_3_method_7_code
def yX1_isFirstOfItsTurns : MethodName := ⟨RX1, "isFirstOfItsTurns", "()Z"⟩
abbrev cX1_code : ByteArray := prog_3_method_8_code
def yX1_code : MethodName := ⟨RX1, "code", "([I)I"⟩
def RX2 : String := "LonelyDots$Marks"
def TX2 : u_T := fun k => match k with
  | _ => ("LonelyDots$Thing", "numbers", "[I", true)
def tyX2 : Nat → FieldType := fun k => match k with
  | _ => .array .int
abbrev wsX20 : List Cond := u_ws RX2 TX2 1
theorem nmX2 : ∀ a, a < 1 → ∀ b, b < 1 → a ≠ b → (TX2 a).2.1 ≠ (TX2 b).2.1 := by decide +kernel
theorem tyX2_ok : ∀ k, k < 1 → parseFieldDescriptor (TX2 k).2.2.1 = some (tyX2 k) := by decide +kernel
abbrev cX2_init : ByteArray := prog_4_method_1_code
def yX2_init : MethodName := ⟨RX2, "<init>", "([I)V"⟩
abbrev cX2_told : ByteArray := prog_4_method_2_code
def yX2_told : MethodName := ⟨RX2, "told", "([I)LLonelyDots$Marks;"⟩
abbrev cX2_rise : ByteArray := prog_4_method_3_code
def yX2_rise : MethodName := ⟨RX2, "rise", "([I)Z"⟩
abbrev cX2_hasAllDistances : ByteArray := prog_4_method_4_code
def yX2_hasAllDistances : MethodName := ⟨RX2, "hasAllDistances", "()Z"⟩
abbrev cX2_toldKind : ByteArray := prog_4_method_5_code
def yX2_toldKind : MethodName := ⟨RX2, "toldKind", "()I"⟩
abbrev cX2_secondAlike : ByteArray := prog_4_method_6_code
def yX2_secondAlike : MethodName := ⟨RX2, "secondAlike", "(III)I"⟩
abbrev cX2_askSize : ByteArray := prog_4_method_7_code
def yX2_askSize : MethodName := ⟨RX2, "askSize", "(LLonelyDots$Trace;)I"⟩
abbrev cX2_askMark : ByteArray := prog_4_method_8_code
def yX2_askMark : MethodName := ⟨RX2, "askMark", "(LLonelyDots$Trace;)I"⟩
def RX3 : String := "LonelyDots$Moves"
def TX3 : u_T := fun k => match k with
  | 0 => ("LonelyDots$Moves", "meetings", "[I", true)
  | _ => ("LonelyDots$Moves", "fits", "[I", true)
def tyX3 : Nat → FieldType := fun k => match k with
  | 0 => .array .int
  | _ => .array .int
abbrev wsX30 : List Cond := u_ws RX3 TX3 2
theorem nmX3 : ∀ a, a < 2 → ∀ b, b < 2 → a ≠ b → (TX3 a).2.1 ≠ (TX3 b).2.1 := by decide +kernel
theorem tyX3_ok : ∀ k, k < 2 → parseFieldDescriptor (TX3 k).2.2.1 = some (tyX3 k) := by decide +kernel
abbrev cX3_init : ByteArray := prog_5_method_1_code
def yX3_init : MethodName := ⟨RX3, "<init>", "()V"⟩
abbrev cX3_meetingDots : ByteArray := prog_5_method_2_code
def yX3_meetingDots : MethodName := ⟨RX3, "meetingDots", "([I[III)I"⟩
abbrev cX3_mostOfTwo : ByteArray := prog_5_method_3_code
def yX3_mostOfTwo : MethodName := ⟨RX3, "mostOfTwo", "([I[I)I"⟩
abbrev cX3_mostWithItself : ByteArray := prog_5_method_4_code
def yX3_mostWithItself : MethodName := ⟨RX3, "mostWithItself", "([I)I"⟩
abbrev cX3_mostMovedByRows : ByteArray := prog_5_method_5_code
def yX3_mostMovedByRows : MethodName := ⟨RX3, "mostMovedByRows", "([I[II)I"⟩
abbrev cX3_partOfEcho : ByteArray := prog_5_method_6_code
def yX3_partOfEcho : MethodName := ⟨RX3, "partOfEcho", "(I[I[III)I"⟩
abbrev cX3_tallyFits : ByteArray := prog_5_method_7_code
def yX3_tallyFits : MethodName := ⟨RX3, "tallyFits", "([III)V"⟩
abbrev cX3_firstBest : ByteArray := prog_5_method_8_code
def yX3_firstBest : MethodName := ⟨RX3, "firstBest", "()I"⟩
def RX4 : String := "LonelyDots$Order"
def TX4 : u_T := fun k => match k with
  | _ => ("LonelyDots$Thing", "numbers", "[I", true)
def tyX4 : Nat → FieldType := fun k => match k with
  | _ => .array .int
abbrev wsX40 : List Cond := u_ws RX4 TX4 1
theorem nmX4 : ∀ a, a < 1 → ∀ b, b < 1 → a ≠ b → (TX4 a).2.1 ≠ (TX4 b).2.1 := by decide +kernel
theorem tyX4_ok : ∀ k, k < 1 → parseFieldDescriptor (TX4 k).2.2.1 = some (tyX4 k) := by decide +kernel
abbrev cX4_init : ByteArray := prog_6_method_1_code
def yX4_init : MethodName := ⟨RX4, "<init>", "([I)V"⟩
abbrev cX4_told : ByteArray := prog_6_method_2_code
def yX4_told : MethodName := ⟨RX4, "told", "([I)LLonelyDots$Order;"⟩
abbrev cX4_hasEachColumnOnce : ByteArray := prog_6_method_3_code
def yX4_hasEachColumnOnce : MethodName := ⟨RX4, "hasEachColumnOnce", "([I)Z"⟩
abbrev cX4_turnInto : ByteArray := prog_6_method_4_code
def yX4_turnInto : MethodName := ⟨RX4, "turnInto", "([I[II)V"⟩
abbrev cX4_toldKind : ByteArray := prog_6_method_5_code
def yX4_toldKind : MethodName := ⟨RX4, "toldKind", "()I"⟩
abbrev cX4_secondAlike : ByteArray := prog_6_method_6_code
def yX4_secondAlike : MethodName := ⟨RX4, "secondAlike", "(III)I"⟩
abbrev cX4_askSize : ByteArray := prog_6_method_7_code
def yX4_askSize : MethodName := ⟨RX4, "askSize", "(LLonelyDots$Trace;)I"⟩
abbrev cX4_hasDotInCorner : ByteArray := prog_6_method_8_code
def yX4_hasDotInCorner : MethodName := ⟨RX4, "hasDotInCorner", "(I)Z"⟩
abbrev cX4_columnsWithoutCorner : ByteArray := prog_6_method_9_code
def yX4_columnsWithoutCorner : MethodName := ⟨RX4, "columnsWithoutCorner", "(I)[I"⟩
abbrev cX4_columnsWithCorner : ByteArray := prog_6_method_10_code
def yX4_columnsWithCorner : MethodName := ⟨RX4, "columnsWithCorner", "(I)[I"⟩
abbrev cX4_isBelow : ByteArray := prog_6_method_11_code
def yX4_isBelow : MethodName := ⟨RX4, "isBelow", "(I)Z"⟩
abbrev cX4_isRight : ByteArray := prog_6_method_12_code
def yX4_isRight : MethodName := ⟨RX4, "isRight", "(I)Z"⟩
def RX5 : String := "LonelyDots$Perfect"
def TX5 : u_T := fun k => match k with
  | _ => ("LonelyDots$Thing", "numbers", "[I", true)
def tyX5 : Nat → FieldType := fun k => match k with
  | _ => .array .int
abbrev wsX50 : List Cond := u_ws RX5 TX5 1
theorem nmX5 : ∀ a, a < 1 → ∀ b, b < 1 → a ≠ b → (TX5 a).2.1 ≠ (TX5 b).2.1 := by decide +kernel
theorem tyX5_ok : ∀ k, k < 1 → parseFieldDescriptor (TX5 k).2.2.1 = some (tyX5 k) := by decide +kernel
abbrev cX5_init : ByteArray := prog_7_method_1_code
def yX5_init : MethodName := ⟨RX5, "<init>", "([I)V"⟩
abbrev cX5_toldKind : ByteArray := prog_7_method_2_code
def yX5_toldKind : MethodName := ⟨RX5, "toldKind", "()I"⟩
abbrev cX5_askSize : ByteArray := prog_7_method_3_code
def yX5_askSize : MethodName := ⟨RX5, "askSize", "(LLonelyDots$Trace;)I"⟩
def RX6 : String := "LonelyDots$Ruler"
def TX6 : u_T := fun k => match k with
  | _ => ("LonelyDots$Thing", "numbers", "[I", true)
def tyX6 : Nat → FieldType := fun k => match k with
  | _ => .array .int
abbrev wsX60 : List Cond := u_ws RX6 TX6 1
theorem nmX6 : ∀ a, a < 1 → ∀ b, b < 1 → a ≠ b → (TX6 a).2.1 ≠ (TX6 b).2.1 := by decide +kernel
theorem tyX6_ok : ∀ k, k < 1 → parseFieldDescriptor (TX6 k).2.2.1 = some (tyX6 k) := by decide +kernel
abbrev cX6_init : ByteArray := prog_8_method_1_code
def yX6_init : MethodName := ⟨RX6, "<init>", "([I)V"⟩
abbrev cX6_toldKind : ByteArray := prog_8_method_2_code
def yX6_toldKind : MethodName := ⟨RX6, "toldKind", "()I"⟩
abbrev cX6_askSize : ByteArray := prog_8_method_3_code
def yX6_askSize : MethodName := ⟨RX6, "askSize", "(LLonelyDots$Trace;)I"⟩
def RX7 : String := "LonelyDots$RulerSearch"
def TX7 : u_T := fun k => match k with
  | 0 => ("LonelyDots$RulerSearch", "known", "[I", true)
  | 1 => ("LonelyDots$RulerSearch", "marks", "[I", true)
  | 2 => ("LonelyDots$RulerSearch", "taken", "[Z", true)
  | _ => ("LonelyDots$RulerSearch", "least", "I", false)
def tyX7 : Nat → FieldType := fun k => match k with
  | 0 => .array .int
  | 1 => .array .int
  | 2 => .array .boolean
  | _ => .int
abbrev wsX70 : List Cond := u_ws RX7 TX7 4
theorem nmX7 : ∀ a, a < 4 → ∀ b, b < 4 → a ≠ b → (TX7 a).2.1 ≠ (TX7 b).2.1 := by decide +kernel
theorem tyX7_ok : ∀ k, k < 4 → parseFieldDescriptor (TX7 k).2.2.1 = some (tyX7 k) := by decide +kernel
abbrev cX7_init : ByteArray := prog_9_method_1_code
def yX7_init : MethodName := ⟨RX7, "<init>", "()V"⟩
abbrev cX7_leastGreatestMark : ByteArray := prog_9_method_2_code
def yX7_leastGreatestMark : MethodName := ⟨RX7, "leastGreatestMark", "(I)I"⟩
abbrev cX7_search : ByteArray := prog_9_method_3_code
def yX7_search : MethodName := ⟨RX7, "search", "(LLonelyDots$RulerSearch;II)V"⟩
abbrev cX7_hasNewDistances : ByteArray := prog_9_method_4_code
def yX7_hasNewDistances : MethodName := ⟨RX7, "hasNewDistances", "(II)Z"⟩
abbrev cX7_mindDistances : ByteArray := prog_9_method_5_code
def yX7_mindDistances : MethodName := ⟨RX7, "mindDistances", "(IIZ)V"⟩
def RX8 : String := "LonelyDots$Sheet"
def TX8 : u_T := fun k => match k with
  | 0 => ("LonelyDots$Sheet", "items", "[I", true)
  | 1 => ("LonelyDots$Sheet", "missing", "Z", false)
  | 2 => ("LonelyDots$Sheet", "lane", "I", false)
  | _ => ("LonelyDots$Sheet", "length", "I", false)
def tyX8 : Nat → FieldType := fun k => match k with
  | 0 => .array .int
  | 1 => .boolean
  | 2 => .int
  | _ => .int
abbrev wsX80 : List Cond := u_ws RX8 TX8 4
theorem nmX8 : ∀ a, a < 4 → ∀ b, b < 4 → a ≠ b → (TX8 a).2.1 ≠ (TX8 b).2.1 := by decide +kernel
theorem tyX8_ok : ∀ k, k < 4 → parseFieldDescriptor (TX8 k).2.2.1 = some (tyX8 k) := by decide +kernel
abbrev cX8_init : ByteArray := prog_10_method_1_code
def yX8_init : MethodName := ⟨RX8, "<init>", "()V"⟩
abbrev cX8_lay : ByteArray := prog_10_method_2_code
def yX8_lay : MethodName := ⟨RX8, "lay", "(II)V"⟩
abbrev cX8_holds : ByteArray := prog_10_method_3_code
def yX8_holds : MethodName := ⟨RX8, "holds", "(II)Z"⟩
abbrev cX8_narrowed : ByteArray := prog_10_method_4_code
def yX8_narrowed : MethodName := ⟨RX8, "narrowed", "(I)I"⟩
abbrev cX8_read : ByteArray := prog_10_method_5_code
def yX8_read : MethodName := ⟨RX8, "read", "(II)[I"⟩
def RX9 : String := "LonelyDots$Thing"
def TX9 : u_T := fun k => match k with
  | _ => ("", "", "", false)
def tyX9 : Nat → FieldType := fun k => match k with
  | _ => .int
abbrev wsX90 : List Cond := u_ws RX9 TX9 0
theorem nmX9 : ∀ a, a < 0 → ∀ b, b < 0 → a ≠ b → (TX9 a).2.1 ≠ (TX9 b).2.1 := by decide +kernel
theorem tyX9_ok : ∀ k, k < 0 → parseFieldDescriptor (TX9 k).2.2.1 = some (tyX9 k) := by decide +kernel
abbrev cX9_init : ByteArray := prog_11_method_1_code
def yX9_init : MethodName := ⟨RX9, "<init>", "([I)V"⟩
abbrev cX9_askSize : ByteArray := prog_11_method_4_code
def yX9_askSize : MethodName := ⟨RX9, "askSize", "(LLonelyDots$Trace;)I"⟩
abbrev cX9_askMark : ByteArray := prog_11_method_5_code
def yX9_askMark : MethodName := ⟨RX9, "askMark", "(LLonelyDots$Trace;)I"⟩
abbrev cX9_partOfAlike : ByteArray := prog_11_method_6_code
def yX9_partOfAlike : MethodName := ⟨RX9, "partOfAlike", "(I)I"⟩
abbrev cX9_laterFirst : ByteArray := prog_11_method_7_code
def yX9_laterFirst : MethodName := ⟨RX9, "laterFirst", "(II)I"⟩
abbrev cX9_partOfPairs : ByteArray := prog_11_method_8_code
def yX9_partOfPairs : MethodName := ⟨RX9, "partOfPairs", "(IIII)I"⟩
def RX10 : String := "LonelyDots$Trace"
def TX10 : u_T := fun k => match k with
  | 0 => ("LonelyDots$Trace", "numbers", "[I", true)
  | _ => ("LonelyDots$Trace", "size", "I", false)
def tyX10 : Nat → FieldType := fun k => match k with
  | 0 => .array .int
  | _ => .int
abbrev wsX100 : List Cond := u_ws RX10 TX10 2
theorem nmX10 : ∀ a, a < 2 → ∀ b, b < 2 → a ≠ b → (TX10 a).2.1 ≠ (TX10 b).2.1 := by decide +kernel
theorem tyX10_ok : ∀ k, k < 2 → parseFieldDescriptor (TX10 k).2.2.1 = some (tyX10 k) := by decide +kernel
abbrev cX10_init : ByteArray := prog_12_method_1_code
def yX10_init : MethodName := ⟨RX10, "<init>", "()V"⟩
abbrev cX10_empty : ByteArray := prog_12_method_2_code
def yX10_empty : MethodName := ⟨RX10, "empty", "()V"⟩
abbrev cX10_begin : ByteArray := prog_12_method_3_code
def yX10_begin : MethodName := ⟨RX10, "begin", "(I)V"⟩
abbrev cX10_number : ByteArray := prog_12_method_4_code
def yX10_number : MethodName := ⟨RX10, "number", "(I)I"⟩
def RX11 : String := "LonelyDots"
def TX11 : u_T := fun k => match k with
  | 0 => ("LonelyDots", "sheets", "[LLonelyDots$Sheet;", true)
  | 1 => ("LonelyDots", "shelf", "[LLonelyDots$Thing;", true)
  | 2 => ("LonelyDots", "bodies", "LLonelyDots$Trace;", true)
  | 3 => ("LonelyDots", "moves", "LLonelyDots$Moves;", true)
  | 4 => ("LonelyDots", "lonelyLists", "[LLonelyDots$LonelyList;", true)
  | 5 => ("LonelyDots", "rulerSearch", "LLonelyDots$RulerSearch;", true)
  | _ => ("LonelyDots", "latestFinding", "I", false)
def tyX11 : Nat → FieldType := fun k => match k with
  | 0 => .array (.object "LonelyDots$Sheet")
  | 1 => .array (.object "LonelyDots$Thing")
  | 2 => .object "LonelyDots$Trace"
  | 3 => .object "LonelyDots$Moves"
  | 4 => .array (.object "LonelyDots$LonelyList")
  | 5 => .object "LonelyDots$RulerSearch"
  | _ => .int
abbrev wsX110 : List Cond := u_ws RX11 TX11 7
theorem nmX11 : ∀ a, a < 7 → ∀ b, b < 7 → a ≠ b → (TX11 a).2.1 ≠ (TX11 b).2.1 := by decide +kernel
theorem tyX11_ok : ∀ k, k < 7 → parseFieldDescriptor (TX11 k).2.2.1 = some (tyX11 k) := by decide +kernel
abbrev cX11_init : ByteArray := prog_1_method_1_code
def yX11_init : MethodName := ⟨RX11, "<init>", "()V"⟩
abbrev cX11_sheet : ByteArray := prog_1_method_2_code
def yX11_sheet : MethodName := ⟨RX11, "sheet", "(III)I"⟩
abbrev cX11_set : ByteArray := prog_1_method_3_code
def yX11_set : MethodName := ⟨RX11, "set", "(III)I"⟩
abbrev cX11_copy : ByteArray := prog_1_method_4_code
def yX11_copy : MethodName := ⟨RX11, "copy", "(IIIII)I"⟩
abbrev cX11_drop : ByteArray := prog_1_method_5_code
def yX11_drop : MethodName := ⟨RX11, "drop", "(I)I"⟩
abbrev cX11_order : ByteArray := prog_1_method_6_code
def yX11_order : MethodName := ⟨RX11, "order", "(IIII)I"⟩
abbrev cX11_marks : ByteArray := prog_1_method_7_code
def yX11_marks : MethodName := ⟨RX11, "marks", "(IIII)I"⟩
abbrev cX11_powers : ByteArray := prog_1_method_8_code
def yX11_powers : MethodName := ⟨RX11, "powers", "(IIII)I"⟩
abbrev cX11_sums : ByteArray := prog_1_method_9_code
def yX11_sums : MethodName := ⟨RX11, "sums", "(IIII)I"⟩
abbrev cX11_take : ByteArray := prog_1_method_10_code
def yX11_take : MethodName := ⟨RX11, "take", "(III)I"⟩
abbrev cX11_put : ByteArray := prog_1_method_11_code
def yX11_put : MethodName := ⟨RX11, "put", "(III)I"⟩
abbrev cX11_turn : ByteArray := prog_1_method_12_code
def yX11_turn : MethodName := ⟨RX11, "turn", "(III)I"⟩
abbrev cX11_nth : ByteArray := prog_1_method_13_code
def yX11_nth : MethodName := ⟨RX11, "nth", "(III)I"⟩
abbrev cX11_clear : ByteArray := prog_1_method_14_code
def yX11_clear : MethodName := ⟨RX11, "clear", "(I)I"⟩
abbrev cX11_kind : ByteArray := prog_1_method_15_code
def yX11_kind : MethodName := ⟨RX11, "kind", "(I)I"⟩
abbrev cX11_is : ByteArray := prog_1_method_16_code
def yX11_is : MethodName := ⟨RX11, "is", "(II)I"⟩
abbrev cX11_as : ByteArray := prog_1_method_17_code
def yX11_as : MethodName := ⟨RX11, "as", "(II)I"⟩
abbrev cX11_ask : ByteArray := prog_1_method_18_code
def yX11_ask : MethodName := ⟨RX11, "ask", "(II)I"⟩
abbrev cX11_trace : ByteArray := prog_1_method_19_code
def yX11_trace : MethodName := ⟨RX11, "trace", "(I)I"⟩
abbrev cX11_at : ByteArray := prog_1_method_20_code
def yX11_at : MethodName := ⟨RX11, "at", "(II)I"⟩
abbrev cX11_alike : ByteArray := prog_1_method_21_code
def yX11_alike : MethodName := ⟨RX11, "alike", "(II)I"⟩
abbrev cX11_meeting : ByteArray := prog_1_method_22_code
def yX11_meeting : MethodName := ⟨RX11, "meeting", "(IIII)I"⟩
abbrev cX11_most : ByteArray := prog_1_method_23_code
def yX11_most : MethodName := ⟨RX11, "most", "(I)I"⟩
abbrev cX11_together : ByteArray := prog_1_method_24_code
def yX11_together : MethodName := ⟨RX11, "together", "(II)I"⟩
abbrev cX11_echo : ByteArray := prog_1_method_25_code
def yX11_echo : MethodName := ⟨RX11, "echo", "(IIIII)I"⟩
abbrev cX11_lonely : ByteArray := prog_1_method_26_code
def yX11_lonely : MethodName := ⟨RX11, "lonely", "(II)I"⟩
abbrev cX11_shortest : ByteArray := prog_1_method_27_code
def yX11_shortest : MethodName := ⟨RX11, "shortest", "(I)I"⟩
abbrev cX11_count : ByteArray := prog_1_method_28_code
def yX11_count : MethodName := ⟨RX11, "count", "(I)I"⟩
abbrev cX11_status : ByteArray := prog_1_method_29_code
def yX11_status : MethodName := ⟨RX11, "status", "()I"⟩
abbrev cX11_isSheet : ByteArray := prog_1_method_30_code
def yX11_isSheet : MethodName := ⟨RX11, "isSheet", "(I)Z"⟩
abbrev cX11_isPlace : ByteArray := prog_1_method_31_code
def yX11_isPlace : MethodName := ⟨RX11, "isPlace", "(I)Z"⟩
abbrev cX11_found : ByteArray := prog_1_method_32_code
def yX11_found : MethodName := ⟨RX11, "found", "(I)I"⟩
abbrev cX11_settled : ByteArray := prog_1_method_33_code
def yX11_settled : MethodName := ⟨RX11, "settled", "(I)I"⟩
abbrev cX11_shelve : ByteArray := prog_1_method_34_code
def yX11_shelve : MethodName := ⟨RX11, "shelve", "(ILLonelyDots$Thing;)I"⟩
abbrev cX11_findingOfItems : ByteArray := prog_1_method_35_code
def yX11_findingOfItems : MethodName := ⟨RX11, "findingOfItems", "(III)I"⟩
abbrev cX11_orderAt : ByteArray := prog_1_method_36_code
def yX11_orderAt : MethodName := ⟨RX11, "orderAt", "(I)LLonelyDots$Order;"⟩
abbrev cX11_findingOfNoOrder : ByteArray := prog_1_method_37_code
def yX11_findingOfNoOrder : MethodName := ⟨RX11, "findingOfNoOrder", "(I)I"⟩
abbrev cX11_isOfKind : ByteArray := prog_1_method_38_code
def yX11_isOfKind : MethodName := ⟨RX11, "isOfKind", "(LLonelyDots$Thing;I)Z"⟩
abbrev cX11_sheetsThere : ByteArray := prog_1_method_39_code
def yX11_sheetsThere : MethodName := ⟨RX11, "sheetsThere", "()I"⟩
abbrev cX11_thingsOfKind : ByteArray := prog_1_method_40_code
def yX11_thingsOfKind : MethodName := ⟨RX11, "thingsOfKind", "(I)I"⟩
abbrev cX11_lonelyList : ByteArray := prog_1_method_41_code
def yX11_lonelyList : MethodName := ⟨RX11, "lonelyList", "(I)LLonelyDots$LonelyList;"⟩
abbrev cX11_isPrime : ByteArray := prog_1_method_42_code
def yX11_isPrime : MethodName := ⟨RX11, "isPrime", "(I)Z"⟩
abbrev cX11_isRoot : ByteArray := prog_1_method_43_code
def yX11_isRoot : MethodName := ⟨RX11, "isRoot", "(II)Z"⟩
abbrev cX11_exponent : ByteArray := prog_1_method_44_code
def yX11_exponent : MethodName := ⟨RX11, "exponent", "(III)I"⟩
abbrev cX11_columnsByPowers : ByteArray := prog_1_method_45_code
def yX11_columnsByPowers : MethodName := ⟨RX11, "columnsByPowers", "(III)[I"⟩
abbrev cX11_columnsBySums : ByteArray := prog_1_method_46_code
def yX11_columnsBySums : MethodName := ⟨RX11, "columnsBySums", "(III)[I"⟩
def RX12 : String := "LonelyDotsModel"
def TX12 : u_T := fun k => match k with
  | 0 => ("LonelyDotsModel", "lane", "[I", true)
  | 1 => ("LonelyDotsModel", "size", "[I", true)
  | 2 => ("LonelyDotsModel", "item", "[I", true)
  | 3 => ("LonelyDotsModel", "moving", "[I", true)
  | 4 => ("LonelyDotsModel", "kinds", "[I", true)
  | 5 => ("LonelyDotsModel", "many", "[I", true)
  | 6 => ("LonelyDotsModel", "row", "[I", true)
  | 7 => ("LonelyDotsModel", "status", "I", false)
  | 8 => ("LonelyDotsModel", "trace", "[I", true)
  | 9 => ("LonelyDotsModel", "traced", "I", false)
  | 10 => ("LonelyDotsModel", "found", "[I", true)
  | 11 => ("LonelyDotsModel", "met", "[Z", true)
  | 12 => ("LonelyDotsModel", "lonelyCount", "[I", true)
  | 13 => ("LonelyDotsModel", "turnCount", "[I", true)
  | 14 => ("LonelyDotsModel", "known", "I", false)
  | 15 => ("LonelyDotsModel", "short0", "[I", true)
  | _ => ("LonelyDotsModel", "place0", "[I", true)
def tyX12 : Nat → FieldType := fun k => match k with
  | 0 => .array .int
  | 1 => .array .int
  | 2 => .array .int
  | 3 => .array .int
  | 4 => .array .int
  | 5 => .array .int
  | 6 => .array .int
  | 7 => .int
  | 8 => .array .int
  | 9 => .int
  | 10 => .array .int
  | 11 => .array .boolean
  | 12 => .array .int
  | 13 => .array .int
  | 14 => .int
  | 15 => .array .int
  | _ => .array .int
abbrev wsX120 : List Cond := u_ws RX12 TX12 17
theorem nmX12 : ∀ a, a < 17 → ∀ b, b < 17 → a ≠ b → (TX12 a).2.1 ≠ (TX12 b).2.1 := by decide +kernel
theorem tyX12_ok : ∀ k, k < 17 → parseFieldDescriptor (TX12 k).2.2.1 = some (tyX12 k) := by decide +kernel
abbrev cX12_init : ByteArray := prog_14_method_1_code
def yX12_init : MethodName := ⟨RX12, "<init>", "()V"⟩
abbrev cX12_in : ByteArray := prog_14_method_2_code
def yX12_in : MethodName := ⟨RX12, "in", "(JJJ)Z"⟩
abbrev cX12_finds : ByteArray := prog_14_method_3_code
def yX12_finds : MethodName := ⟨RX12, "finds", "(I)I"⟩
abbrev cX12_well : ByteArray := prog_14_method_4_code
def yX12_well : MethodName := ⟨RX12, "well", "(I)I"⟩
abbrev cX12_isSheet : ByteArray := prog_14_method_5_code
def yX12_isSheet : MethodName := ⟨RX12, "isSheet", "(I)Z"⟩
abbrev cX12_sheet : ByteArray := prog_14_method_6_code
def yX12_sheet : MethodName := ⟨RX12, "sheet", "(III)I"⟩
abbrev cX12_set : ByteArray := prog_14_method_7_code
def yX12_set : MethodName := ⟨RX12, "set", "(III)I"⟩
abbrev cX12_copy : ByteArray := prog_14_method_8_code
def yX12_copy : MethodName := ⟨RX12, "copy", "(IIIII)I"⟩
abbrev cX12_drop : ByteArray := prog_14_method_9_code
def yX12_drop : MethodName := ⟨RX12, "drop", "(I)I"⟩
abbrev cX12_isPlace : ByteArray := prog_14_method_10_code
def yX12_isPlace : MethodName := ⟨RX12, "isPlace", "(I)Z"⟩
abbrev cX12_isOf : ByteArray := prog_14_method_11_code
def yX12_isOf : MethodName := ⟨RX12, "isOf", "(II)Z"⟩
abbrev cX12_at0 : ByteArray := prog_14_method_12_code
def yX12_at0 : MethodName := ⟨RX12, "at0", "(II)I"⟩
abbrev cX12_areAlike : ByteArray := prog_14_method_13_code
def yX12_areAlike : MethodName := ⟨RX12, "areAlike", "(IZIIII)Z"⟩
abbrev cX12_findAlike : ByteArray := prog_14_method_14_code
def yX12_findAlike : MethodName := ⟨RX12, "findAlike", "(IZ)Z"⟩
abbrev cX12_hasAll : ByteArray := prog_14_method_15_code
def yX12_hasAll : MethodName := ⟨RX12, "hasAll", "(I)Z"⟩
abbrev cX12_copyThing : ByteArray := prog_14_method_16_code
def yX12_copyThing : MethodName := ⟨RX12, "copyThing", "(II)V"⟩
abbrev cX12_keep : ByteArray := prog_14_method_17_code
def yX12_keep : MethodName := ⟨RX12, "keep", "(IZ)I"⟩
abbrev cX12_make : ByteArray := prog_14_method_18_code
def yX12_make : MethodName := ⟨RX12, "make", "(II)V"⟩
abbrev cX12_order : ByteArray := prog_14_method_19_code
def yX12_order : MethodName := ⟨RX12, "order", "(IIII)I"⟩
abbrev cX12_marks : ByteArray := prog_14_method_20_code
def yX12_marks : MethodName := ⟨RX12, "marks", "(IIII)I"⟩
abbrev cX12_isPrime : ByteArray := prog_14_method_21_code
def yX12_isPrime : MethodName := ⟨RX12, "isPrime", "(I)Z"⟩
abbrev cX12_isRoot : ByteArray := prog_14_method_22_code
def yX12_isRoot : MethodName := ⟨RX12, "isRoot", "(II)Z"⟩
abbrev cX12_power : ByteArray := prog_14_method_23_code
def yX12_power : MethodName := ⟨RX12, "power", "(III)I"⟩
abbrev cX12_powers : ByteArray := prog_14_method_24_code
def yX12_powers : MethodName := ⟨RX12, "powers", "(IIII)I"⟩
abbrev cX12_sums : ByteArray := prog_14_method_25_code
def yX12_sums : MethodName := ⟨RX12, "sums", "(IIII)I"⟩
abbrev cX12_refusal : ByteArray := prog_14_method_26_code
def yX12_refusal : MethodName := ⟨RX12, "refusal", "(II)I"⟩
abbrev cX12_take : ByteArray := prog_14_method_27_code
def yX12_take : MethodName := ⟨RX12, "take", "(III)I"⟩
abbrev cX12_put : ByteArray := prog_14_method_28_code
def yX12_put : MethodName := ⟨RX12, "put", "(III)I"⟩
abbrev cX12_turned : ByteArray := prog_14_method_29_code
def yX12_turned : MethodName := ⟨RX12, "turned", "(III)I"⟩
abbrev cX12_turned4 : ByteArray := prog_14_method_30_code
def yX12_turned4 : MethodName := ⟨RX12, "turned4", "(III)I"⟩
abbrev cX12_turn : ByteArray := prog_14_method_31_code
def yX12_turn : MethodName := ⟨RX12, "turn", "(III)I"⟩
abbrev cX12_first : ByteArray := prog_14_method_32_code
def yX12_first : MethodName := ⟨RX12, "first", "(I)V"⟩
abbrev cX12_next : ByteArray := prog_14_method_33_code
def yX12_next : MethodName := ⟨RX12, "next", "()Z"⟩
abbrev cX12_nth : ByteArray := prog_14_method_34_code
def yX12_nth : MethodName := ⟨RX12, "nth", "(III)I"⟩
abbrev cX12_clear : ByteArray := prog_14_method_35_code
def yX12_clear : MethodName := ⟨RX12, "clear", "(I)I"⟩
abbrev cX12_kind : ByteArray := prog_14_method_36_code
def yX12_kind : MethodName := ⟨RX12, "kind", "(I)I"⟩
abbrev cX12_is : ByteArray := prog_14_method_37_code
def yX12_is : MethodName := ⟨RX12, "is", "(II)I"⟩
abbrev cX12_as : ByteArray := prog_14_method_38_code
def yX12_as : MethodName := ⟨RX12, "as", "(II)I"⟩
abbrev cX12_begins : ByteArray := prog_14_method_39_code
def yX12_begins : MethodName := ⟨RX12, "begins", "(I)V"⟩
abbrev cX12_countMarks : ByteArray := prog_14_method_40_code
def yX12_countMarks : MethodName := ⟨RX12, "countMarks", "(I)I"⟩
abbrev cX12_sizeOf : ByteArray := prog_14_method_41_code
def yX12_sizeOf : MethodName := ⟨RX12, "sizeOf", "(I)I"⟩
abbrev cX12_mark : ByteArray := prog_14_method_42_code
def yX12_mark : MethodName := ⟨RX12, "mark", "(I)I"⟩
abbrev cX12_ask : ByteArray := prog_14_method_43_code
def yX12_ask : MethodName := ⟨RX12, "ask", "(II)I"⟩
abbrev cX12_trace : ByteArray := prog_14_method_44_code
def yX12_trace : MethodName := ⟨RX12, "trace", "(I)I"⟩
abbrev cX12_at : ByteArray := prog_14_method_45_code
def yX12_at : MethodName := ⟨RX12, "at", "(II)I"⟩
abbrev cX12_alike : ByteArray := prog_14_method_46_code
def yX12_alike : MethodName := ⟨RX12, "alike", "(II)I"⟩
abbrev cX12_meet : ByteArray := prog_14_method_47_code
def yX12_meet : MethodName := ⟨RX12, "meet", "(IIII)I"⟩
abbrev cX12_isMove : ByteArray := prog_14_method_48_code
def yX12_isMove : MethodName := ⟨RX12, "isMove", "(I)Z"⟩
abbrev cX12_meeting : ByteArray := prog_14_method_49_code
def yX12_meeting : MethodName := ⟨RX12, "meeting", "(IIII)I"⟩
abbrev cX12_greatest : ByteArray := prog_14_method_50_code
def yX12_greatest : MethodName := ⟨RX12, "greatest", "(IIZ)I"⟩
abbrev cX12_most : ByteArray := prog_14_method_51_code
def yX12_most : MethodName := ⟨RX12, "most", "(I)I"⟩
abbrev cX12_together : ByteArray := prog_14_method_52_code
def yX12_together : MethodName := ⟨RX12, "together", "(II)I"⟩
abbrev cX12_echo : ByteArray := prog_14_method_53_code
def yX12_echo : MethodName := ⟨RX12, "echo", "(IIIII)I"⟩
abbrev cX12_isLeast : ByteArray := prog_14_method_54_code
def yX12_isLeast : MethodName := ⟨RX12, "isLeast", "()Z"⟩
abbrev cX12_lonely : ByteArray := prog_14_method_55_code
def yX12_lonely : MethodName := ⟨RX12, "lonely", "(II)I"⟩
abbrev cX12_canBe : ByteArray := prog_14_method_56_code
def yX12_canBe : MethodName := ⟨RX12, "canBe", "(II)Z"⟩
abbrev cX12_shortest : ByteArray := prog_14_method_57_code
def yX12_shortest : MethodName := ⟨RX12, "shortest", "(I)I"⟩
abbrev cX12_count : ByteArray := prog_14_method_58_code
def yX12_count : MethodName := ⟨RX12, "count", "(I)I"⟩
abbrev cX12_status : ByteArray := prog_14_method_59_code
def yX12_status : MethodName := ⟨RX12, "status", "()I"⟩
def RJx8e188 : String := "java/lang/Cloneable"
def TJx8e188 : u_T := fun k => match k with
  | _ => ("", "", "", false)
def tyJx8e188 : Nat → FieldType := fun k => match k with
  | _ => .int
abbrev wsJx8e1880 : List Cond := u_ws RJx8e188 TJx8e188 0
theorem nmJx8e188 : ∀ a, a < 0 → ∀ b, b < 0 → a ≠ b → (TJx8e188 a).2.1 ≠ (TJx8e188 b).2.1 := by decide +kernel
theorem tyJx8e188_ok : ∀ k, k < 0 → parseFieldDescriptor (TJx8e188 k).2.2.1 = some (tyJx8e188 k) := by decide +kernel
def RJ9 : String := "java/lang/Math"
def TJ9 : u_T := fun k => match k with
  | _ => ("", "", "", false)
def tyJ9 : Nat → FieldType := fun k => match k with
  | _ => .int
abbrev wsJ90 : List Cond := u_ws RJ9 TJ9 0
theorem nmJ9 : ∀ a, a < 0 → ∀ b, b < 0 → a ≠ b → (TJ9 a).2.1 ≠ (TJ9 b).2.1 := by decide +kernel
theorem tyJ9_ok : ∀ k, k < 0 → parseFieldDescriptor (TJ9 k).2.2.1 = some (tyJ9 k) := by decide +kernel
abbrev cJ9_max_7cf53 : ByteArray := prog_16_method_65_code
def yJ9_max_7cf53 : MethodName := ⟨RJ9, "max", "(II)I"⟩
abbrev cJ9_min_7cf53 : ByteArray := prog_16_method_69_code
def yJ9_min_7cf53 : MethodName := ⟨RJ9, "min", "(II)I"⟩
def RJ10 : String := "java/lang/System"
def TJ10 : u_T := fun k => match k with
  | _ => ("", "", "", false)
def tyJ10 : Nat → FieldType := fun k => match k with
  | _ => .int
abbrev wsJ100 : List Cond := u_ws RJ10 TJ10 0
theorem nmJ10 : ∀ a, a < 0 → ∀ b, b < 0 → a ≠ b → (TJ10 a).2.1 ≠ (TJ10 b).2.1 := by decide +kernel
theorem tyJ10_ok : ∀ k, k < 0 → parseFieldDescriptor (TJ10 k).2.2.1 = some (tyJ10 k) := by decide +kernel
def RJ7 : String := "java/util/Arrays"
def TJ7 : u_T := fun k => match k with
  | _ => ("", "", "", false)
def tyJ7 : Nat → FieldType := fun k => match k with
  | _ => .int
abbrev wsJ70 : List Cond := u_ws RJ7 TJ7 0
theorem nmJ7 : ∀ a, a < 0 → ∀ b, b < 0 → a ≠ b → (TJ7 a).2.1 ≠ (TJ7 b).2.1 := by decide +kernel
theorem tyJ7_ok : ∀ k, k < 0 → parseFieldDescriptor (TJ7 k).2.2.1 = some (tyJ7 k) := by decide +kernel
abbrev cJ7_fill_53178 : ByteArray := prog_18_method_103_code
def yJ7_fill_53178 : MethodName := ⟨RJ7, "fill", "([II)V"⟩
abbrev cJ7_checkLength_df160 : ByteArray := prog_18_method_131_code
def yJ7_checkLength_df160 : MethodName := ⟨RJ7, "checkLength", "(II)V"⟩
abbrev cJ7_copyOfRange_feecc : ByteArray := prog_18_method_136_code
def yJ7_copyOfRange_feecc : MethodName := ⟨RJ7, "copyOfRange", "([III)[I"⟩
abbrev cJ7_copyOfRangeInt_feecc : ByteArray := prog_18_method_137_code
def yJ7_copyOfRangeInt_feecc : MethodName := ⟨RJ7, "copyOfRangeInt", "([III)[I"⟩
def RL : String := "LonelyDotsLaw"
abbrev cL_law : ByteArray := code
def yL_law : MethodName := ⟨RL, "law", "([I)Z"⟩
abbrev vwCl : List vw_C := [(RX0, TX0, 1), (RX1, TX1, 5), (RX2, TX2, 1), (RX3, TX3, 2), (RX4, TX4, 1), (RX5, TX5, 1), (RX6, TX6, 1), (RX7, TX7, 4), (RX8, TX8, 4), (RX10, TX10, 2), (RX11, TX11, 7), (RX12, TX12, 17)]
/-- private methods of an abstract class, on objects of the classes below it -/
def lk_sx : List Cond := [.selects RX0 yX9_laterFirst yX9_laterFirst, .selects RX2 yX9_laterFirst yX9_laterFirst, .selects RX4 yX9_laterFirst yX9_laterFirst, .selects RX5 yX9_laterFirst yX9_laterFirst, .selects RX6 yX9_laterFirst yX9_laterFirst, .selects RX0 yX9_partOfPairs yX9_partOfPairs, .selects RX2 yX9_partOfPairs yX9_partOfPairs, .selects RX4 yX9_partOfPairs yX9_partOfPairs, .selects RX5 yX9_partOfPairs yX9_partOfPairs, .selects RX6 yX9_partOfPairs yX9_partOfPairs]
/-- the words of the tables, and those -/
def lk_tbl : List Cond := lk_sx ++ lw_tbl
abbrev lk_tyl : List (Nat → FieldType) := [tyX0, tyX1, tyX2, tyX3, tyX4, tyX5, tyX6, tyX7, tyX8, tyX10, tyX11, tyX12]
abbrev lk_df : List (List Value) := [[.null], [.null, .null, .null, .int 0, .int 0], [.null], [.null, .null], [.null], [.null], [.null], [.null, .null, .null, .int 0], [.null, .int 0, .int 0, .int 0], [.null, .int 0], [.null, .null, .null, .null, .null, .null, .int 0], [.null, .null, .null, .null, .null, .null, .null, .int 0, .null, .int 0, .null, .null, .null, .null, .int 0, .null, .null]]
/-- pairs of classes (by number) of which the first is not castable to the second -/
abbrev lk_nc : List (Nat × Nat) := [(2, 4), (5, 4), (6, 4), (4, 0), (2, 0), (5, 0), (6, 0), (4, 2), (0, 2), (4, 6), (0, 6), (2, 6), (4, 5), (0, 5), (2, 5), (6, 5)]
/-- the classes of arrays: 0 ints, 1 booleans, then of objects -/
def lk_tgC : Nat → String := fun k => match k with
  | 2 => RX8
  | 3 => RX9
  | _ => RX1
def lk_tgT : Nat → FieldType := fun k => match k with
  | 0 => .int
  | 1 => .boolean
  | k => .object (lk_tgC k)
/-- which classes an array of objects takes: its own, or such as are castable to it -/
abbrev lk_thg : List Nat := [0, 2, 4, 5, 6]
def lk_cm (t c : Nat) : Bool := match t with
  | 2 => c == 8
  | 4 => c == 1
  | 3 => lk_thg.contains c
  | _ => false
theorem lk_in0 : ∀ w ∈ u_ws RX0 TX0 1, w ∈ lk_tbl := by decide +kernel
theorem lk_in1 : ∀ w ∈ u_ws RX1 TX1 5, w ∈ lk_tbl := by decide +kernel
theorem lk_in2 : ∀ w ∈ u_ws RX2 TX2 1, w ∈ lk_tbl := by decide +kernel
theorem lk_in3 : ∀ w ∈ u_ws RX3 TX3 2, w ∈ lk_tbl := by decide +kernel
theorem lk_in4 : ∀ w ∈ u_ws RX4 TX4 1, w ∈ lk_tbl := by decide +kernel
theorem lk_in5 : ∀ w ∈ u_ws RX5 TX5 1, w ∈ lk_tbl := by decide +kernel
theorem lk_in6 : ∀ w ∈ u_ws RX6 TX6 1, w ∈ lk_tbl := by decide +kernel
theorem lk_in7 : ∀ w ∈ u_ws RX7 TX7 4, w ∈ lk_tbl := by decide +kernel
theorem lk_in8 : ∀ w ∈ u_ws RX8 TX8 4, w ∈ lk_tbl := by decide +kernel
theorem lk_in9 : ∀ w ∈ u_ws RX10 TX10 2, w ∈ lk_tbl := by decide +kernel
theorem lk_in10 : ∀ w ∈ u_ws RX11 TX11 7, w ∈ lk_tbl := by decide +kernel
theorem lk_in11 : ∀ w ∈ u_ws RX12 TX12 17, w ∈ lk_tbl := by decide +kernel
/-- of every class: its fields stand in the tables, their types, their names, what they are at first -/
theorem lk_all {ci : Nat} {q : vw_C} (hc : vwCl[ci]? = some q) : (∀ w ∈ u_ws q.1 q.2.1 q.2.2, w ∈ lk_tbl) ∧ ∃ ty fs, lk_tyl[ci]? = some ty ∧ lk_df[ci]? = some fs ∧ fs.length = q.2.2 ∧ (∀ k, k < q.2.2 → parseFieldDescriptor (q.2.1 k).2.2.1 = some (ty k)) ∧ (∀ a, a < q.2.2 → ∀ b, b < q.2.2 → a ≠ b → (q.2.1 a).2.1 ≠ (q.2.1 b).2.1) ∧ (∀ j, j < q.2.2 → defaultValue (ty j) = vp_V fs j) ∧ ∀ v ∈ fs, v = .null ∨ v = .int 0 := by
  match ci, hc with
  | 0, hc => cases hc; exact ⟨lk_in0, _, _, rfl, rfl, rfl, tyX0_ok, nmX0, by decide +kernel, by decide +kernel⟩
  | 1, hc => cases hc; exact ⟨lk_in1, _, _, rfl, rfl, rfl, tyX1_ok, nmX1, by decide +kernel, by decide +kernel⟩
  | 2, hc => cases hc; exact ⟨lk_in2, _, _, rfl, rfl, rfl, tyX2_ok, nmX2, by decide +kernel, by decide +kernel⟩
  | 3, hc => cases hc; exact ⟨lk_in3, _, _, rfl, rfl, rfl, tyX3_ok, nmX3, by decide +kernel, by decide +kernel⟩
  | 4, hc => cases hc; exact ⟨lk_in4, _, _, rfl, rfl, rfl, tyX4_ok, nmX4, by decide +kernel, by decide +kernel⟩
  | 5, hc => cases hc; exact ⟨lk_in5, _, _, rfl, rfl, rfl, tyX5_ok, nmX5, by decide +kernel, by decide +kernel⟩
  | 6, hc => cases hc; exact ⟨lk_in6, _, _, rfl, rfl, rfl, tyX6_ok, nmX6, by decide +kernel, by decide +kernel⟩
  | 7, hc => cases hc; exact ⟨lk_in7, _, _, rfl, rfl, rfl, tyX7_ok, nmX7, by decide +kernel, by decide +kernel⟩
  | 8, hc => cases hc; exact ⟨lk_in8, _, _, rfl, rfl, rfl, tyX8_ok, nmX8, by decide +kernel, by decide +kernel⟩
  | 9, hc => cases hc; exact ⟨lk_in9, _, _, rfl, rfl, rfl, tyX10_ok, nmX10, by decide +kernel, by decide +kernel⟩
  | 10, hc => cases hc; exact ⟨lk_in10, _, _, rfl, rfl, rfl, tyX11_ok, nmX11, by decide +kernel, by decide +kernel⟩
  | 11, hc => cases hc; exact ⟨lk_in11, _, _, rfl, rfl, rfl, tyX12_ok, nmX12, by decide +kernel, by decide +kernel⟩
  | k + 12, hc => simp [vwCl] at hc
theorem lk_thg_ok : ∀ k ∈ lk_thg, Cond.castable (match vwCl[k]? with | some q => q.1 | none => "") (lk_tgC 3) ∈ lk_tbl := by decide +kernel
